section
-- ===== PART A: goes FIRST, ahead of the names: the tables' words, and 'selects' of the private methods out of them =====
/-- a private method of a class that the tables say can be made, by its rows of tables_1 -/
def lw_okq (q : MethodName × Nat) : Prop := (q.1.cls ≠ "java/lang/invoke/MethodHandle" ∧ q.1.cls ≠ "java/lang/invoke/VarHandle") ∧ Cond.instantiable q.1.cls q.2 ∈ tables_1 ∧ Cond.privateMethod q.1 ∈ tables_1 ∧ Cond.instanceMethod q.1 ∈ tables_1
theorem lw_p0 : lw_okq (⟨"NeededStop$Reader", "takeToken", "()V"⟩, 8) := ⟨⟨by decide +kernel, by decide +kernel⟩, List.mem_of_getElem? (i := 133) (by decide +kernel), List.mem_of_getElem? (i := 420) (by decide +kernel), List.mem_of_getElem? (i := 421) (by decide +kernel)⟩
theorem lw_p1 : lw_okq (⟨"NeededStop$Reader", "readLine", "()V"⟩, 8) := ⟨⟨by decide +kernel, by decide +kernel⟩, List.mem_of_getElem? (i := 133) (by decide +kernel), List.mem_of_getElem? (i := 434) (by decide +kernel), List.mem_of_getElem? (i := 435) (by decide +kernel)⟩
theorem lw_p2 : lw_okq (⟨"NeededStop$Reader", "wordInHand", "()I"⟩, 8) := ⟨⟨by decide +kernel, by decide +kernel⟩, List.mem_of_getElem? (i := 133) (by decide +kernel), List.mem_of_getElem? (i := 438) (by decide +kernel), List.mem_of_getElem? (i := 439) (by decide +kernel)⟩
theorem lw_p3 : lw_okq (⟨"NeededStop$Reader", "isWord", "(Ljava/lang/String;)Z"⟩, 8) := ⟨⟨by decide +kernel, by decide +kernel⟩, List.mem_of_getElem? (i := 133) (by decide +kernel), List.mem_of_getElem? (i := 443) (by decide +kernel), List.mem_of_getElem? (i := 444) (by decide +kernel)⟩
theorem lw_p4 : lw_okq (⟨"NeededStop$Reader", "canBegin", "(I)Z"⟩, 8) := ⟨⟨by decide +kernel, by decide +kernel⟩, List.mem_of_getElem? (i := 133) (by decide +kernel), List.mem_of_getElem? (i := 509) (by decide +kernel), List.mem_of_getElem? (i := 510) (by decide +kernel)⟩
theorem lw_p5 : lw_okq (⟨"NeededStop$Reader", "numberInHand", "()I"⟩, 8) := ⟨⟨by decide +kernel, by decide +kernel⟩, List.mem_of_getElem? (i := 133) (by decide +kernel), List.mem_of_getElem? (i := 515) (by decide +kernel), List.mem_of_getElem? (i := 516) (by decide +kernel)⟩
theorem lw_p6 : lw_okq (⟨"NeededStop$Reader", "canStand", "(II)Z"⟩, 8) := ⟨⟨by decide +kernel, by decide +kernel⟩, List.mem_of_getElem? (i := 133) (by decide +kernel), List.mem_of_getElem? (i := 519) (by decide +kernel), List.mem_of_getElem? (i := 520) (by decide +kernel)⟩
theorem lw_p7 : lw_okq (⟨"NeededStop$Reader", "canStandInTram", "(II)Z"⟩, 8) := ⟨⟨by decide +kernel, by decide +kernel⟩, List.mem_of_getElem? (i := 133) (by decide +kernel), List.mem_of_getElem? (i := 526) (by decide +kernel), List.mem_of_getElem? (i := 527) (by decide +kernel)⟩
theorem lw_p8 : lw_okq (⟨"NeededStop$Reader", "canStandInFolk", "(II)Z"⟩, 8) := ⟨⟨by decide +kernel, by decide +kernel⟩, List.mem_of_getElem? (i := 133) (by decide +kernel), List.mem_of_getElem? (i := 534) (by decide +kernel), List.mem_of_getElem? (i := 535) (by decide +kernel)⟩
theorem lw_p9 : lw_okq (⟨"NeededStop$Reader", "doLine", "(I)V"⟩, 8) := ⟨⟨by decide +kernel, by decide +kernel⟩, List.mem_of_getElem? (i := 133) (by decide +kernel), List.mem_of_getElem? (i := 542) (by decide +kernel), List.mem_of_getElem? (i := 543) (by decide +kernel)⟩
theorem lw_p10 : lw_okq (⟨"NeededStop", "dropWhatDependsOnMoods", "()V"⟩, 9) := ⟨⟨by decide +kernel, by decide +kernel⟩, List.mem_of_getElem? (i := 19) (by decide +kernel), List.mem_of_getElem? (i := 578) (by decide +kernel), List.mem_of_getElem? (i := 579) (by decide +kernel)⟩
theorem lw_p11 : lw_okq (⟨"NeededStop$Day", "dropStaleCauses", "()V"⟩, 15) := ⟨⟨by decide +kernel, by decide +kernel⟩, List.mem_of_getElem? (i := 169) (by decide +kernel), List.mem_of_getElem? (i := 618) (by decide +kernel), List.mem_of_getElem? (i := 619) (by decide +kernel)⟩
theorem lw_p12 : lw_okq (⟨"NeededStop$Day", "feelMoods", "()V"⟩, 15) := ⟨⟨by decide +kernel, by decide +kernel⟩, List.mem_of_getElem? (i := 169) (by decide +kernel), List.mem_of_getElem? (i := 622) (by decide +kernel), List.mem_of_getElem? (i := 623) (by decide +kernel)⟩
theorem lw_p13 : lw_okq (⟨"NeededStop$Day", "feelMood", "(II)V"⟩, 15) := ⟨⟨by decide +kernel, by decide +kernel⟩, List.mem_of_getElem? (i := 169) (by decide +kernel), List.mem_of_getElem? (i := 635) (by decide +kernel), List.mem_of_getElem? (i := 636) (by decide +kernel)⟩
theorem lw_p14 : lw_okq (⟨"NeededStop$Day", "runTram", "(I)V"⟩, 15) := ⟨⟨by decide +kernel, by decide +kernel⟩, List.mem_of_getElem? (i := 169) (by decide +kernel), List.mem_of_getElem? (i := 644) (by decide +kernel), List.mem_of_getElem? (i := 645) (by decide +kernel)⟩
theorem lw_p15 : lw_okq (⟨"NeededStop$Day", "eldestCause", "(I)I"⟩, 15) := ⟨⟨by decide +kernel, by decide +kernel⟩, List.mem_of_getElem? (i := 169) (by decide +kernel), List.mem_of_getElem? (i := 648) (by decide +kernel), List.mem_of_getElem? (i := 649) (by decide +kernel)⟩
def lw_privs_1 : List (MethodName × Nat) := [(⟨"NeededStop$Reader", "takeToken", "()V"⟩, 8), (⟨"NeededStop$Reader", "readLine", "()V"⟩, 8), (⟨"NeededStop$Reader", "wordInHand", "()I"⟩, 8), (⟨"NeededStop$Reader", "isWord", "(Ljava/lang/String;)Z"⟩, 8), (⟨"NeededStop$Reader", "canBegin", "(I)Z"⟩, 8), (⟨"NeededStop$Reader", "numberInHand", "()I"⟩, 8), (⟨"NeededStop$Reader", "canStand", "(II)Z"⟩, 8), (⟨"NeededStop$Reader", "canStandInTram", "(II)Z"⟩, 8), (⟨"NeededStop$Reader", "canStandInFolk", "(II)Z"⟩, 8), (⟨"NeededStop$Reader", "doLine", "(I)V"⟩, 8), (⟨"NeededStop", "dropWhatDependsOnMoods", "()V"⟩, 9), (⟨"NeededStop$Day", "dropStaleCauses", "()V"⟩, 15), (⟨"NeededStop$Day", "feelMoods", "()V"⟩, 15), (⟨"NeededStop$Day", "feelMood", "(II)V"⟩, 15), (⟨"NeededStop$Day", "runTram", "(I)V"⟩, 15), (⟨"NeededStop$Day", "eldestCause", "(I)I"⟩, 15)]
theorem lw_r1 : ∀ q ∈ lw_privs_1, lw_okq q := List.forall_mem_cons.mpr ⟨lw_p0, List.forall_mem_cons.mpr ⟨lw_p1, List.forall_mem_cons.mpr ⟨lw_p2, List.forall_mem_cons.mpr ⟨lw_p3, List.forall_mem_cons.mpr ⟨lw_p4, List.forall_mem_cons.mpr ⟨lw_p5, List.forall_mem_cons.mpr ⟨lw_p6, List.forall_mem_cons.mpr ⟨lw_p7, List.forall_mem_cons.mpr ⟨lw_p8, List.forall_mem_cons.mpr ⟨lw_p9, List.forall_mem_cons.mpr ⟨lw_p10, List.forall_mem_cons.mpr ⟨lw_p11, List.forall_mem_cons.mpr ⟨lw_p12, List.forall_mem_cons.mpr ⟨lw_p13, List.forall_mem_cons.mpr ⟨lw_p14, List.forall_mem_cons.mpr ⟨lw_p15, fun _ h => absurd h List.not_mem_nil⟩⟩⟩⟩⟩⟩⟩⟩⟩⟩⟩⟩⟩⟩⟩⟩
theorem lw_p16 : lw_okq (⟨"NeededStop$Day", "moveOn", "(I)V"⟩, 15) := ⟨⟨by decide +kernel, by decide +kernel⟩, List.mem_of_getElem? (i := 169) (by decide +kernel), List.mem_of_getElem? (i := 652) (by decide +kernel), List.mem_of_getElem? (i := 653) (by decide +kernel)⟩
theorem lw_p17 : lw_okq (⟨"NeededStop$Day", "letOff", "(I)V"⟩, 15) := ⟨⟨by decide +kernel, by decide +kernel⟩, List.mem_of_getElem? (i := 169) (by decide +kernel), List.mem_of_getElem? (i := 660) (by decide +kernel), List.mem_of_getElem? (i := 661) (by decide +kernel)⟩
theorem lw_p18 : lw_okq (⟨"NeededStop$Day", "letOn", "(I)V"⟩, 15) := ⟨⟨by decide +kernel, by decide +kernel⟩, List.mem_of_getElem? (i := 169) (by decide +kernel), List.mem_of_getElem? (i := 664) (by decide +kernel), List.mem_of_getElem? (i := 665) (by decide +kernel)⟩
theorem lw_p19 : lw_okq (⟨"NeededStop", "foretellDay", "(I)V"⟩, 9) := ⟨⟨by decide +kernel, by decide +kernel⟩, List.mem_of_getElem? (i := 19) (by decide +kernel), List.mem_of_getElem? (i := 715) (by decide +kernel), List.mem_of_getElem? (i := 716) (by decide +kernel)⟩
theorem lw_p20 : lw_okq (⟨"NeededStop$Feigning", "tryNone", "()V"⟩, 13) := ⟨⟨by decide +kernel, by decide +kernel⟩, List.mem_of_getElem? (i := 262) (by decide +kernel), List.mem_of_getElem? (i := 728) (by decide +kernel), List.mem_of_getElem? (i := 729) (by decide +kernel)⟩
theorem lw_p21 : lw_okq (⟨"NeededStop$Feigning", "take", "(LNeededStop$Day;III)V"⟩, 13) := ⟨⟨by decide +kernel, by decide +kernel⟩, List.mem_of_getElem? (i := 262) (by decide +kernel), List.mem_of_getElem? (i := 733) (by decide +kernel), List.mem_of_getElem? (i := 734) (by decide +kernel)⟩
theorem lw_p22 : lw_okq (⟨"NeededStop$Feigning", "tryOne", "()V"⟩, 13) := ⟨⟨by decide +kernel, by decide +kernel⟩, List.mem_of_getElem? (i := 262) (by decide +kernel), List.mem_of_getElem? (i := 738) (by decide +kernel), List.mem_of_getElem? (i := 739) (by decide +kernel)⟩
theorem lw_p23 : lw_okq (⟨"NeededStop$Feigning", "tryTwo", "()V"⟩, 13) := ⟨⟨by decide +kernel, by decide +kernel⟩, List.mem_of_getElem? (i := 262) (by decide +kernel), List.mem_of_getElem? (i := 752) (by decide +kernel), List.mem_of_getElem? (i := 753) (by decide +kernel)⟩
theorem lw_p24 : lw_okq (⟨"NeededStop$Day", "lateness", "(I)I"⟩, 15) := ⟨⟨by decide +kernel, by decide +kernel⟩, List.mem_of_getElem? (i := 169) (by decide +kernel), List.mem_of_getElem? (i := 764) (by decide +kernel), List.mem_of_getElem? (i := 765) (by decide +kernel)⟩
theorem lw_p25 : lw_okq (⟨"NeededStop$ReadBack", "lastSeen", "()I"⟩, 9) := ⟨⟨by decide +kernel, by decide +kernel⟩, List.mem_of_getElem? (i := 318) (by decide +kernel), List.mem_of_getElem? (i := 824) (by decide +kernel), List.mem_of_getElem? (i := 825) (by decide +kernel)⟩
theorem lw_p26 : lw_okq (⟨"NeededStop$ReadBack", "fits", "(III)Z"⟩, 9) := ⟨⟨by decide +kernel, by decide +kernel⟩, List.mem_of_getElem? (i := 318) (by decide +kernel), List.mem_of_getElem? (i := 831) (by decide +kernel), List.mem_of_getElem? (i := 832) (by decide +kernel)⟩
theorem lw_p27 : lw_okq (⟨"NeededStop$ReadBack", "addLaw", "(II)V"⟩, 9) := ⟨⟨by decide +kernel, by decide +kernel⟩, List.mem_of_getElem? (i := 318) (by decide +kernel), List.mem_of_getElem? (i := 841) (by decide +kernel), List.mem_of_getElem? (i := 842) (by decide +kernel)⟩
theorem lw_p28 : lw_okq (⟨"NeededStopModel", "begin", "()V"⟩, 37) := ⟨⟨by decide +kernel, by decide +kernel⟩, List.mem_of_getElem? (i := 853) (by decide +kernel), List.mem_of_getElem? (i := 859) (by decide +kernel), List.mem_of_getElem? (i := 860) (by decide +kernel)⟩
theorem lw_p29 : lw_okq (⟨"NeededStopModel", "isRead", "()Z"⟩, 37) := ⟨⟨by decide +kernel, by decide +kernel⟩, List.mem_of_getElem? (i := 853) (by decide +kernel), List.mem_of_getElem? (i := 991) (by decide +kernel), List.mem_of_getElem? (i := 992) (by decide +kernel)⟩
theorem lw_p30 : lw_okq (⟨"NeededStopModel", "isLine", "(I)Z"⟩, 37) := ⟨⟨by decide +kernel, by decide +kernel⟩, List.mem_of_getElem? (i := 853) (by decide +kernel), List.mem_of_getElem? (i := 995) (by decide +kernel), List.mem_of_getElem? (i := 996) (by decide +kernel)⟩
theorem lw_p31 : lw_okq (⟨"NeededStopModel", "nextToken", "()V"⟩, 37) := ⟨⟨by decide +kernel, by decide +kernel⟩, List.mem_of_getElem? (i := 853) (by decide +kernel), List.mem_of_getElem? (i := 999) (by decide +kernel), List.mem_of_getElem? (i := 1000) (by decide +kernel)⟩
def lw_privs_2 : List (MethodName × Nat) := [(⟨"NeededStop$Day", "moveOn", "(I)V"⟩, 15), (⟨"NeededStop$Day", "letOff", "(I)V"⟩, 15), (⟨"NeededStop$Day", "letOn", "(I)V"⟩, 15), (⟨"NeededStop", "foretellDay", "(I)V"⟩, 9), (⟨"NeededStop$Feigning", "tryNone", "()V"⟩, 13), (⟨"NeededStop$Feigning", "take", "(LNeededStop$Day;III)V"⟩, 13), (⟨"NeededStop$Feigning", "tryOne", "()V"⟩, 13), (⟨"NeededStop$Feigning", "tryTwo", "()V"⟩, 13), (⟨"NeededStop$Day", "lateness", "(I)I"⟩, 15), (⟨"NeededStop$ReadBack", "lastSeen", "()I"⟩, 9), (⟨"NeededStop$ReadBack", "fits", "(III)Z"⟩, 9), (⟨"NeededStop$ReadBack", "addLaw", "(II)V"⟩, 9), (⟨"NeededStopModel", "begin", "()V"⟩, 37), (⟨"NeededStopModel", "isRead", "()Z"⟩, 37), (⟨"NeededStopModel", "isLine", "(I)Z"⟩, 37), (⟨"NeededStopModel", "nextToken", "()V"⟩, 37)]
theorem lw_r2 : ∀ q ∈ lw_privs_2, lw_okq q := List.forall_mem_cons.mpr ⟨lw_p16, List.forall_mem_cons.mpr ⟨lw_p17, List.forall_mem_cons.mpr ⟨lw_p18, List.forall_mem_cons.mpr ⟨lw_p19, List.forall_mem_cons.mpr ⟨lw_p20, List.forall_mem_cons.mpr ⟨lw_p21, List.forall_mem_cons.mpr ⟨lw_p22, List.forall_mem_cons.mpr ⟨lw_p23, List.forall_mem_cons.mpr ⟨lw_p24, List.forall_mem_cons.mpr ⟨lw_p25, List.forall_mem_cons.mpr ⟨lw_p26, List.forall_mem_cons.mpr ⟨lw_p27, List.forall_mem_cons.mpr ⟨lw_p28, List.forall_mem_cons.mpr ⟨lw_p29, List.forall_mem_cons.mpr ⟨lw_p30, List.forall_mem_cons.mpr ⟨lw_p31, fun _ h => absurd h List.not_mem_nil⟩⟩⟩⟩⟩⟩⟩⟩⟩⟩⟩⟩⟩⟩⟩⟩
theorem lw_p32 : lw_okq (⟨"NeededStopModel", "isRail", "(I)Z"⟩, 37) := ⟨⟨by decide +kernel, by decide +kernel⟩, List.mem_of_getElem? (i := 853) (by decide +kernel), List.mem_of_getElem? (i := 1019) (by decide +kernel), List.mem_of_getElem? (i := 1020) (by decide +kernel)⟩
theorem lw_p33 : lw_okq (⟨"NeededStopModel", "isNumber", "(III)Z"⟩, 37) := ⟨⟨by decide +kernel, by decide +kernel⟩, List.mem_of_getElem? (i := 853) (by decide +kernel), List.mem_of_getElem? (i := 1023) (by decide +kernel), List.mem_of_getElem? (i := 1024) (by decide +kernel)⟩
theorem lw_p34 : lw_okq (⟨"NeededStopModel", "fails", "()Z"⟩, 37) := ⟨⟨by decide +kernel, by decide +kernel⟩, List.mem_of_getElem? (i := 853) (by decide +kernel), List.mem_of_getElem? (i := 1027) (by decide +kernel), List.mem_of_getElem? (i := 1028) (by decide +kernel)⟩
theorem lw_p35 : lw_okq (⟨"NeededStopModel", "isFolk", "(I)Z"⟩, 37) := ⟨⟨by decide +kernel, by decide +kernel⟩, List.mem_of_getElem? (i := 853) (by decide +kernel), List.mem_of_getElem? (i := 1031) (by decide +kernel), List.mem_of_getElem? (i := 1032) (by decide +kernel)⟩
theorem lw_p36 : lw_okq (⟨"NeededStopModel", "isMood", "(I)Z"⟩, 37) := ⟨⟨by decide +kernel, by decide +kernel⟩, List.mem_of_getElem? (i := 853) (by decide +kernel), List.mem_of_getElem? (i := 1035) (by decide +kernel), List.mem_of_getElem? (i := 1036) (by decide +kernel)⟩
theorem lw_p37 : lw_okq (⟨"NeededStopModel", "doLine", "(I)V"⟩, 37) := ⟨⟨by decide +kernel, by decide +kernel⟩, List.mem_of_getElem? (i := 853) (by decide +kernel), List.mem_of_getElem? (i := 1046) (by decide +kernel), List.mem_of_getElem? (i := 1047) (by decide +kernel)⟩
theorem lw_p38 : lw_okq (⟨"NeededStopModel", "addMood", "(III)V"⟩, 37) := ⟨⟨by decide +kernel, by decide +kernel⟩, List.mem_of_getElem? (i := 853) (by decide +kernel), List.mem_of_getElem? (i := 1050) (by decide +kernel), List.mem_of_getElem? (i := 1051) (by decide +kernel)⟩
theorem lw_p39 : lw_okq (⟨"NeededStopModel", "personOf", "(I)I"⟩, 37) := ⟨⟨by decide +kernel, by decide +kernel⟩, List.mem_of_getElem? (i := 853) (by decide +kernel), List.mem_of_getElem? (i := 1066) (by decide +kernel), List.mem_of_getElem? (i := 1067) (by decide +kernel)⟩
theorem lw_p40 : lw_okq (⟨"NeededStopModel", "asTold", "()V"⟩, 37) := ⟨⟨by decide +kernel, by decide +kernel⟩, List.mem_of_getElem? (i := 853) (by decide +kernel), List.mem_of_getElem? (i := 1074) (by decide +kernel), List.mem_of_getElem? (i := 1075) (by decide +kernel)⟩
theorem lw_p41 : lw_okq (⟨"NeededStopModel", "goMinute", "()V"⟩, 37) := ⟨⟨by decide +kernel, by decide +kernel⟩, List.mem_of_getElem? (i := 853) (by decide +kernel), List.mem_of_getElem? (i := 1078) (by decide +kernel), List.mem_of_getElem? (i := 1079) (by decide +kernel)⟩
theorem lw_p42 : lw_okq (⟨"NeededStopModel", "placeNow", "(I)I"⟩, 37) := ⟨⟨by decide +kernel, by decide +kernel⟩, List.mem_of_getElem? (i := 853) (by decide +kernel), List.mem_of_getElem? (i := 1082) (by decide +kernel), List.mem_of_getElem? (i := 1083) (by decide +kernel)⟩
theorem lw_p43 : lw_okq (⟨"NeededStopModel", "causeOf", "(I)I"⟩, 37) := ⟨⟨by decide +kernel, by decide +kernel⟩, List.mem_of_getElem? (i := 853) (by decide +kernel), List.mem_of_getElem? (i := 1086) (by decide +kernel), List.mem_of_getElem? (i := 1087) (by decide +kernel)⟩
theorem lw_p44 : lw_okq (⟨"NeededStopModel", "goOn", "(I)V"⟩, 37) := ⟨⟨by decide +kernel, by decide +kernel⟩, List.mem_of_getElem? (i := 853) (by decide +kernel), List.mem_of_getElem? (i := 1090) (by decide +kernel), List.mem_of_getElem? (i := 1091) (by decide +kernel)⟩
theorem lw_p45 : lw_okq (⟨"NeededStopModel", "haltBy", "(II)V"⟩, 37) := ⟨⟨by decide +kernel, by decide +kernel⟩, List.mem_of_getElem? (i := 853) (by decide +kernel), List.mem_of_getElem? (i := 1094) (by decide +kernel), List.mem_of_getElem? (i := 1095) (by decide +kernel)⟩
theorem lw_p46 : lw_okq (⟨"NeededStopModel", "haltMany", "()I"⟩, 37) := ⟨⟨by decide +kernel, by decide +kernel⟩, List.mem_of_getElem? (i := 853) (by decide +kernel), List.mem_of_getElem? (i := 1098) (by decide +kernel), List.mem_of_getElem? (i := 1099) (by decide +kernel)⟩
theorem lw_p47 : lw_okq (⟨"NeededStopModel", "isTram", "(I)Z"⟩, 37) := ⟨⟨by decide +kernel, by decide +kernel⟩, List.mem_of_getElem? (i := 853) (by decide +kernel), List.mem_of_getElem? (i := 1106) (by decide +kernel), List.mem_of_getElem? (i := 1107) (by decide +kernel)⟩
def lw_privs_3 : List (MethodName × Nat) := [(⟨"NeededStopModel", "isRail", "(I)Z"⟩, 37), (⟨"NeededStopModel", "isNumber", "(III)Z"⟩, 37), (⟨"NeededStopModel", "fails", "()Z"⟩, 37), (⟨"NeededStopModel", "isFolk", "(I)Z"⟩, 37), (⟨"NeededStopModel", "isMood", "(I)Z"⟩, 37), (⟨"NeededStopModel", "doLine", "(I)V"⟩, 37), (⟨"NeededStopModel", "addMood", "(III)V"⟩, 37), (⟨"NeededStopModel", "personOf", "(I)I"⟩, 37), (⟨"NeededStopModel", "asTold", "()V"⟩, 37), (⟨"NeededStopModel", "goMinute", "()V"⟩, 37), (⟨"NeededStopModel", "placeNow", "(I)I"⟩, 37), (⟨"NeededStopModel", "causeOf", "(I)I"⟩, 37), (⟨"NeededStopModel", "goOn", "(I)V"⟩, 37), (⟨"NeededStopModel", "haltBy", "(II)V"⟩, 37), (⟨"NeededStopModel", "haltMany", "()I"⟩, 37), (⟨"NeededStopModel", "isTram", "(I)Z"⟩, 37)]
theorem lw_r3 : ∀ q ∈ lw_privs_3, lw_okq q := List.forall_mem_cons.mpr ⟨lw_p32, List.forall_mem_cons.mpr ⟨lw_p33, List.forall_mem_cons.mpr ⟨lw_p34, List.forall_mem_cons.mpr ⟨lw_p35, List.forall_mem_cons.mpr ⟨lw_p36, List.forall_mem_cons.mpr ⟨lw_p37, List.forall_mem_cons.mpr ⟨lw_p38, List.forall_mem_cons.mpr ⟨lw_p39, List.forall_mem_cons.mpr ⟨lw_p40, List.forall_mem_cons.mpr ⟨lw_p41, List.forall_mem_cons.mpr ⟨lw_p42, List.forall_mem_cons.mpr ⟨lw_p43, List.forall_mem_cons.mpr ⟨lw_p44, List.forall_mem_cons.mpr ⟨lw_p45, List.forall_mem_cons.mpr ⟨lw_p46, List.forall_mem_cons.mpr ⟨lw_p47, fun _ h => absurd h List.not_mem_nil⟩⟩⟩⟩⟩⟩⟩⟩⟩⟩⟩⟩⟩⟩⟩⟩
theorem lw_p48 : lw_okq (⟨"NeededStopModel", "isPerson", "(I)Z"⟩, 37) := ⟨⟨by decide +kernel, by decide +kernel⟩, List.mem_of_getElem? (i := 853) (by decide +kernel), List.mem_of_getElem? (i := 1114) (by decide +kernel), List.mem_of_getElem? (i := 1115) (by decide +kernel)⟩
theorem lw_p49 : lw_okq (⟨"NeededStopModel", "goDay", "()V"⟩, 37) := ⟨⟨by decide +kernel, by decide +kernel⟩, List.mem_of_getElem? (i := 853) (by decide +kernel), List.mem_of_getElem? (i := 1137) (by decide +kernel), List.mem_of_getElem? (i := 1138) (by decide +kernel)⟩
theorem lw_p50 : lw_okq (⟨"NeededStopModel", "putBack", "()V"⟩, 37) := ⟨⟨by decide +kernel, by decide +kernel⟩, List.mem_of_getElem? (i := 853) (by decide +kernel), List.mem_of_getElem? (i := 1141) (by decide +kernel), List.mem_of_getElem? (i := 1142) (by decide +kernel)⟩
theorem lw_p51 : lw_okq (⟨"NeededStopModel", "tryFeigned", "(IIII)V"⟩, 37) := ⟨⟨by decide +kernel, by decide +kernel⟩, List.mem_of_getElem? (i := 853) (by decide +kernel), List.mem_of_getElem? (i := 1149) (by decide +kernel), List.mem_of_getElem? (i := 1150) (by decide +kernel)⟩
theorem lw_p52 : lw_okq (⟨"NeededStopModel", "late", "(I)I"⟩, 37) := ⟨⟨by decide +kernel, by decide +kernel⟩, List.mem_of_getElem? (i := 853) (by decide +kernel), List.mem_of_getElem? (i := 1153) (by decide +kernel), List.mem_of_getElem? (i := 1154) (by decide +kernel)⟩
theorem lw_p53 : lw_okq (⟨"NeededStopModel", "isPlace", "(I)Z"⟩, 37) := ⟨⟨by decide +kernel, by decide +kernel⟩, List.mem_of_getElem? (i := 853) (by decide +kernel), List.mem_of_getElem? (i := 1165) (by decide +kernel), List.mem_of_getElem? (i := 1166) (by decide +kernel)⟩
theorem lw_p54 : lw_okq (⟨"NeededStopModel", "wornAt", "(I)I"⟩, 37) := ⟨⟨by decide +kernel, by decide +kernel⟩, List.mem_of_getElem? (i := 853) (by decide +kernel), List.mem_of_getElem? (i := 1169) (by decide +kernel), List.mem_of_getElem? (i := 1170) (by decide +kernel)⟩
theorem lw_p55 : lw_okq (⟨"NeededStopModel", "layLaws", "()V"⟩, 37) := ⟨⟨by decide +kernel, by decide +kernel⟩, List.mem_of_getElem? (i := 853) (by decide +kernel), List.mem_of_getElem? (i := 1200) (by decide +kernel), List.mem_of_getElem? (i := 1201) (by decide +kernel)⟩
theorem lw_p56 : lw_okq (⟨"NeededStopModel", "areSeen", "()Z"⟩, 37) := ⟨⟨by decide +kernel, by decide +kernel⟩, List.mem_of_getElem? (i := 853) (by decide +kernel), List.mem_of_getElem? (i := 1204) (by decide +kernel), List.mem_of_getElem? (i := 1205) (by decide +kernel)⟩
def lw_privs_4 : List (MethodName × Nat) := [(⟨"NeededStopModel", "isPerson", "(I)Z"⟩, 37), (⟨"NeededStopModel", "goDay", "()V"⟩, 37), (⟨"NeededStopModel", "putBack", "()V"⟩, 37), (⟨"NeededStopModel", "tryFeigned", "(IIII)V"⟩, 37), (⟨"NeededStopModel", "late", "(I)I"⟩, 37), (⟨"NeededStopModel", "isPlace", "(I)Z"⟩, 37), (⟨"NeededStopModel", "wornAt", "(I)I"⟩, 37), (⟨"NeededStopModel", "layLaws", "()V"⟩, 37), (⟨"NeededStopModel", "areSeen", "()Z"⟩, 37)]
theorem lw_r4 : ∀ q ∈ lw_privs_4, lw_okq q := List.forall_mem_cons.mpr ⟨lw_p48, List.forall_mem_cons.mpr ⟨lw_p49, List.forall_mem_cons.mpr ⟨lw_p50, List.forall_mem_cons.mpr ⟨lw_p51, List.forall_mem_cons.mpr ⟨lw_p52, List.forall_mem_cons.mpr ⟨lw_p53, List.forall_mem_cons.mpr ⟨lw_p54, List.forall_mem_cons.mpr ⟨lw_p55, List.forall_mem_cons.mpr ⟨lw_p56, fun _ h => absurd h List.not_mem_nil⟩⟩⟩⟩⟩⟩⟩⟩⟩
def lw_privs : List (MethodName × Nat) := lw_privs_1 ++ (lw_privs_2 ++ (lw_privs_3 ++ (lw_privs_4)))
def lw_tbl : List Cond := k2_sels lw_privs ++ tables_1
theorem lw_privs_ok : ∀ q ∈ lw_privs, lw_okq q := by
  show ∀ q ∈ lw_privs_1 ++ (lw_privs_2 ++ (lw_privs_3 ++ (lw_privs_4))), lw_okq q
  exact List.forall_mem_append.mpr ⟨lw_r1, List.forall_mem_append.mpr ⟨lw_r2, List.forall_mem_append.mpr ⟨lw_r3, lw_r4⟩⟩⟩
end
section
def RX0 : String := "NeededStop$Day"
def TX0 : u_T := fun k => match k with
  | 0 => ("NeededStop$Day", "told", "LNeededStop$Told;", true)
  | 1 => ("NeededStop$Day", "kinds", "I", false)
  | 2 => ("NeededStop$Day", "span", "I", false)
  | 3 => ("NeededStop$Day", "gone", "I", false)
  | 4 => ("NeededStop$Day", "tramAt", "[I", true)
  | 5 => ("NeededStop$Day", "way", "[I", true)
  | 6 => ("NeededStop$Day", "aboard", "[I", true)
  | 7 => ("NeededStop$Day", "halted", "I", false)
  | 8 => ("NeededStop$Day", "homed", "[I", true)
  | 9 => ("NeededStop$Day", "owed", "[I", true)
  | 10 => ("NeededStop$Day", "feltAt", "[I", true)
  | 11 => ("NeededStop$Day", "causesAt", "[I", true)
  | 12 => ("NeededStop$Day", "live", "I", false)
  | 13 => ("NeededStop$Day", "spent", "I", false)
  | _ => ("NeededStop$Day", "halts", "LNeededStop$Halts;", true)
def tyX0 : Nat → FieldType := fun k => match k with
  | 0 => .object "NeededStop$Told"
  | 1 => .int
  | 2 => .int
  | 3 => .int
  | 4 => .array .int
  | 5 => .array .int
  | 6 => .array .int
  | 7 => .int
  | 8 => .array .int
  | 9 => .array .int
  | 10 => .array .int
  | 11 => .array .int
  | 12 => .int
  | 13 => .int
  | _ => .object "NeededStop$Halts"
theorem nmX0 : ∀ a, a < 15 → ∀ b, b < 15 → a ≠ b → (TX0 a).2.1 ≠ (TX0 b).2.1 := by decide +kernel
theorem tyX0_ok : ∀ k, k < 15 → parseFieldDescriptor (TX0 k).2.2.1 = some (tyX0 k) := by decide +kernel
abbrev cX0_init : ByteArray := prog_2_method_1_code
def yX0_init : MethodName := ⟨RX0, "<init>", "(LNeededStop$Told;)V"⟩
abbrev cX0_begin : ByteArray := prog_2_method_2_code
def yX0_begin : MethodName := ⟨RX0, "begin", "(II)V"⟩
abbrev cX0_copyFrom : ByteArray := prog_2_method_3_code
def yX0_copyFrom : MethodName := ⟨RX0, "copyFrom", "(LNeededStop$Day;)V"⟩
abbrev cX0_runTo : ByteArray := prog_2_method_4_code
def yX0_runTo : MethodName := ⟨RX0, "runTo", "(I)V"⟩
abbrev cX0_passMinute : ByteArray := prog_2_method_5_code
def yX0_passMinute : MethodName := ⟨RX0, "passMinute", "()V"⟩
abbrev cX0_dropStaleCauses : ByteArray := prog_2_method_6_code
def yX0_dropStaleCauses : MethodName := ⟨RX0, "dropStaleCauses", "()V"⟩
abbrev cX0_feelMoods : ByteArray := prog_2_method_7_code
def yX0_feelMoods : MethodName := ⟨RX0, "feelMoods", "()V"⟩
abbrev cX0_feelMood : ByteArray := prog_2_method_8_code
def yX0_feelMood : MethodName := ⟨RX0, "feelMood", "(II)V"⟩
abbrev cX0_runTram : ByteArray := prog_2_method_9_code
def yX0_runTram : MethodName := ⟨RX0, "runTram", "(I)V"⟩
abbrev cX0_eldestCause : ByteArray := prog_2_method_10_code
def yX0_eldestCause : MethodName := ⟨RX0, "eldestCause", "(I)I"⟩
abbrev cX0_letOff : ByteArray := prog_2_method_11_code
def yX0_letOff : MethodName := ⟨RX0, "letOff", "(I)V"⟩
abbrev cX0_letOn : ByteArray := prog_2_method_12_code
def yX0_letOn : MethodName := ⟨RX0, "letOn", "(I)V"⟩
abbrev cX0_moveOn : ByteArray := prog_2_method_13_code
def yX0_moveOn : MethodName := ⟨RX0, "moveOn", "(I)V"⟩
abbrev cX0_tramOf : ByteArray := prog_2_method_14_code
def yX0_tramOf : MethodName := ⟨RX0, "tramOf", "(I)I"⟩
abbrev cX0_placeOf : ByteArray := prog_2_method_15_code
def yX0_placeOf : MethodName := ⟨RX0, "placeOf", "(I)I"⟩
abbrev cX0_lateness : ByteArray := prog_2_method_16_code
def yX0_lateness : MethodName := ⟨RX0, "lateness", "(I)I"⟩
abbrev cX0_lateOf : ByteArray := prog_2_method_17_code
def yX0_lateOf : MethodName := ⟨RX0, "lateOf", "(I)I"⟩
abbrev cX0_lateOfAll : ByteArray := prog_2_method_18_code
def yX0_lateOfAll : MethodName := ⟨RX0, "lateOfAll", "()I"⟩
def RX1 : String := "NeededStop$Feigning"
def TX1 : u_T := fun k => match k with
  | 0 => ("NeededStop$Feigning", "told", "LNeededStop$Told;", true)
  | 1 => ("NeededStop$Feigning", "plan", "LNeededStop$Told;", true)
  | 2 => ("NeededStop$Feigning", "plain", "LNeededStop$Day;", true)
  | 3 => ("NeededStop$Feigning", "once", "LNeededStop$Day;", true)
  | 4 => ("NeededStop$Feigning", "twice", "LNeededStop$Day;", true)
  | 5 => ("NeededStop$Feigning", "known", "Z", false)
  | 6 => ("NeededStop$Feigning", "person", "I", false)
  | 7 => ("NeededStop$Feigning", "most", "I", false)
  | 8 => ("NeededStop$Feigning", "limit", "I", false)
  | 9 => ("NeededStop$Feigning", "homed", "I", false)
  | 10 => ("NeededStop$Feigning", "used", "I", false)
  | 11 => ("NeededStop$Feigning", "first", "I", false)
  | _ => ("NeededStop$Feigning", "second", "I", false)
def tyX1 : Nat → FieldType := fun k => match k with
  | 0 => .object "NeededStop$Told"
  | 1 => .object "NeededStop$Told"
  | 2 => .object "NeededStop$Day"
  | 3 => .object "NeededStop$Day"
  | 4 => .object "NeededStop$Day"
  | 5 => .boolean
  | 6 => .int
  | 7 => .int
  | 8 => .int
  | 9 => .int
  | 10 => .int
  | 11 => .int
  | _ => .int
theorem nmX1 : ∀ a, a < 13 → ∀ b, b < 13 → a ≠ b → (TX1 a).2.1 ≠ (TX1 b).2.1 := by decide +kernel
theorem tyX1_ok : ∀ k, k < 13 → parseFieldDescriptor (TX1 k).2.2.1 = some (tyX1 k) := by decide +kernel
abbrev cX1_init : ByteArray := prog_3_method_1_code
def yX1_init : MethodName := ⟨RX1, "<init>", "(LNeededStop$Told;)V"⟩
abbrev cX1_search : ByteArray := prog_3_method_2_code
def yX1_search : MethodName := ⟨RX1, "search", "(II)V"⟩
abbrev cX1_tryNone : ByteArray := prog_3_method_3_code
def yX1_tryNone : MethodName := ⟨RX1, "tryNone", "()V"⟩
abbrev cX1_tryOne : ByteArray := prog_3_method_4_code
def yX1_tryOne : MethodName := ⟨RX1, "tryOne", "()V"⟩
abbrev cX1_tryTwo : ByteArray := prog_3_method_5_code
def yX1_tryTwo : MethodName := ⟨RX1, "tryTwo", "()V"⟩
abbrev cX1_take : ByteArray := prog_3_method_6_code
def yX1_take : MethodName := ⟨RX1, "take", "(LNeededStop$Day;III)V"⟩
def RX2 : String := "NeededStop$Halts"
def TX2 : u_T := fun k => match k with
  | 0 => ("NeededStop$Halts", "tram", "[I", true)
  | 1 => ("NeededStop$Halts", "place", "[I", true)
  | 2 => ("NeededStop$Halts", "minute", "[I", true)
  | 3 => ("NeededStop$Halts", "mood", "[I", true)
  | _ => ("NeededStop$Halts", "size", "I", false)
def tyX2 : Nat → FieldType := fun k => match k with
  | 0 => .array .int
  | 1 => .array .int
  | 2 => .array .int
  | 3 => .array .int
  | _ => .int
theorem nmX2 : ∀ a, a < 5 → ∀ b, b < 5 → a ≠ b → (TX2 a).2.1 ≠ (TX2 b).2.1 := by decide +kernel
theorem tyX2_ok : ∀ k, k < 5 → parseFieldDescriptor (TX2 k).2.2.1 = some (tyX2 k) := by decide +kernel
abbrev cX2_init : ByteArray := prog_4_method_1_code
def yX2_init : MethodName := ⟨RX2, "<init>", "()V"⟩
abbrev cX2_add : ByteArray := prog_4_method_2_code
def yX2_add : MethodName := ⟨RX2, "add", "(IIII)V"⟩
abbrev cX2_copyFrom : ByteArray := prog_4_method_3_code
def yX2_copyFrom : MethodName := ⟨RX2, "copyFrom", "(LNeededStop$Halts;)V"⟩
abbrev cX2_ofTram : ByteArray := prog_4_method_4_code
def yX2_ofTram : MethodName := ⟨RX2, "ofTram", "(I)I"⟩
abbrev cX2_atPlace : ByteArray := prog_4_method_5_code
def yX2_atPlace : MethodName := ⟨RX2, "atPlace", "(I)I"⟩
abbrev cX2_has : ByteArray := prog_4_method_6_code
def yX2_has : MethodName := ⟨RX2, "has", "(II)Z"⟩
def RX3 : String := "NeededStop$ReadBack"
def TX3 : u_T := fun k => match k with
  | 0 => ("NeededStop$ReadBack", "day", "LNeededStop$Day;", true)
  | 1 => ("NeededStop$ReadBack", "place", "[I", true)
  | 2 => ("NeededStop$ReadBack", "minute", "[I", true)
  | 3 => ("NeededStop$ReadBack", "size", "I", false)
  | 4 => ("NeededStop$ReadBack", "known", "Z", false)
  | 5 => ("NeededStop$ReadBack", "laws", "I", false)
  | 6 => ("NeededStop$ReadBack", "firstKinds", "I", false)
  | 7 => ("NeededStop$ReadBack", "firstSpan", "I", false)
  | _ => ("NeededStop$ReadBack", "lawsWith", "[I", true)
def tyX3 : Nat → FieldType := fun k => match k with
  | 0 => .object "NeededStop$Day"
  | 1 => .array .int
  | 2 => .array .int
  | 3 => .int
  | 4 => .boolean
  | 5 => .int
  | 6 => .int
  | 7 => .int
  | _ => .array .int
theorem nmX3 : ∀ a, a < 9 → ∀ b, b < 9 → a ≠ b → (TX3 a).2.1 ≠ (TX3 b).2.1 := by decide +kernel
theorem tyX3_ok : ∀ k, k < 9 → parseFieldDescriptor (TX3 k).2.2.1 = some (tyX3 k) := by decide +kernel
abbrev cX3_init : ByteArray := prog_5_method_1_code
def yX3_init : MethodName := ⟨RX3, "<init>", "(LNeededStop$Day;)V"⟩
abbrev cX3_add : ByteArray := prog_5_method_2_code
def yX3_add : MethodName := ⟨RX3, "add", "(II)V"⟩
abbrev cX3_clear : ByteArray := prog_5_method_3_code
def yX3_clear : MethodName := ⟨RX3, "clear", "()V"⟩
abbrev cX3_findLaws : ByteArray := prog_5_method_4_code
def yX3_findLaws : MethodName := ⟨RX3, "findLaws", "()V"⟩
abbrev cX3_lastSeen : ByteArray := prog_5_method_5_code
def yX3_lastSeen : MethodName := ⟨RX3, "lastSeen", "()I"⟩
abbrev cX3_fits : ByteArray := prog_5_method_6_code
def yX3_fits : MethodName := ⟨RX3, "fits", "(III)Z"⟩
abbrev cX3_addLaw : ByteArray := prog_5_method_7_code
def yX3_addLaw : MethodName := ⟨RX3, "addLaw", "(II)V"⟩
def RX4 : String := "NeededStop$Reader"
def TX4 : u_T := fun k => match k with
  | 0 => ("NeededStop$Reader", "text", "LNeededStop$Text;", true)
  | 1 => ("NeededStop$Reader", "told", "LNeededStop$Told;", true)
  | 2 => ("NeededStop$Reader", "plan", "LNeededStop$Told;", true)
  | 3 => ("NeededStop$Reader", "numbers", "[I", true)
  | 4 => ("NeededStop$Reader", "fault", "I", false)
  | 5 => ("NeededStop$Reader", "lines", "I", false)
  | 6 => ("NeededStop$Reader", "from", "I", false)
  | _ => ("NeededStop$Reader", "to", "I", false)
def tyX4 : Nat → FieldType := fun k => match k with
  | 0 => .object "NeededStop$Text"
  | 1 => .object "NeededStop$Told"
  | 2 => .object "NeededStop$Told"
  | 3 => .array .int
  | 4 => .int
  | 5 => .int
  | 6 => .int
  | _ => .int
theorem nmX4 : ∀ a, a < 8 → ∀ b, b < 8 → a ≠ b → (TX4 a).2.1 ≠ (TX4 b).2.1 := by decide +kernel
theorem tyX4_ok : ∀ k, k < 8 → parseFieldDescriptor (TX4 k).2.2.1 = some (tyX4 k) := by decide +kernel
abbrev cX4_init : ByteArray := prog_6_method_1_code
def yX4_init : MethodName := ⟨RX4, "<init>", "(LNeededStop$Text;LNeededStop$Told;)V"⟩
abbrev cX4_readLines : ByteArray := prog_6_method_2_code
def yX4_readLines : MethodName := ⟨RX4, "readLines", "()V"⟩
abbrev cX4_readLine : ByteArray := prog_6_method_3_code
def yX4_readLine : MethodName := ⟨RX4, "readLine", "()V"⟩
abbrev cX4_takeToken : ByteArray := prog_6_method_4_code
def yX4_takeToken : MethodName := ⟨RX4, "takeToken", "()V"⟩
abbrev cX4_isLetter : ByteArray := prog_6_method_5_code
def yX4_isLetter : MethodName := ⟨RX4, "isLetter", "(I)Z"⟩
abbrev cX4_isDigit : ByteArray := prog_6_method_6_code
def yX4_isDigit : MethodName := ⟨RX4, "isDigit", "(I)Z"⟩
abbrev cX4_wordInHand : ByteArray := prog_6_method_7_code
def yX4_wordInHand : MethodName := ⟨RX4, "wordInHand", "()I"⟩
abbrev cX4_isWord : ByteArray := prog_6_method_8_code
def yX4_isWord : MethodName := ⟨RX4, "isWord", "(Ljava/lang/String;)Z"⟩
abbrev cX4_numberInHand : ByteArray := prog_6_method_9_code
def yX4_numberInHand : MethodName := ⟨RX4, "numberInHand", "()I"⟩
abbrev cX4_canBegin : ByteArray := prog_6_method_10_code
def yX4_canBegin : MethodName := ⟨RX4, "canBegin", "(I)Z"⟩
abbrev cX4_canStand : ByteArray := prog_6_method_11_code
def yX4_canStand : MethodName := ⟨RX4, "canStand", "(II)Z"⟩
abbrev cX4_canStandInTram : ByteArray := prog_6_method_12_code
def yX4_canStandInTram : MethodName := ⟨RX4, "canStandInTram", "(II)Z"⟩
abbrev cX4_canStandInFolk : ByteArray := prog_6_method_13_code
def yX4_canStandInFolk : MethodName := ⟨RX4, "canStandInFolk", "(II)Z"⟩
abbrev cX4_isWithin : ByteArray := prog_6_method_14_code
def yX4_isWithin : MethodName := ⟨RX4, "isWithin", "(III)Z"⟩
abbrev cX4_doLine : ByteArray := prog_6_method_15_code
def yX4_doLine : MethodName := ⟨RX4, "doLine", "(I)V"⟩
def RX5 : String := "NeededStop$Text"
def TX5 : u_T := fun k => match k with
  | 0 => ("NeededStop$Text", "bytes", "[I", true)
  | _ => ("NeededStop$Text", "size", "I", false)
def tyX5 : Nat → FieldType := fun k => match k with
  | 0 => .array .int
  | _ => .int
theorem nmX5 : ∀ a, a < 2 → ∀ b, b < 2 → a ≠ b → (TX5 a).2.1 ≠ (TX5 b).2.1 := by decide +kernel
theorem tyX5_ok : ∀ k, k < 2 → parseFieldDescriptor (TX5 k).2.2.1 = some (tyX5 k) := by decide +kernel
abbrev cX5_init : ByteArray := prog_7_method_1_code
def yX5_init : MethodName := ⟨RX5, "<init>", "()V"⟩
abbrev cX5_append : ByteArray := prog_7_method_2_code
def yX5_append : MethodName := ⟨RX5, "append", "(I)V"⟩
abbrev cX5_signAt : ByteArray := prog_7_method_3_code
def yX5_signAt : MethodName := ⟨RX5, "signAt", "(I)I"⟩
abbrev cX5_spells : ByteArray := prog_7_method_4_code
def yX5_spells : MethodName := ⟨RX5, "spells", "(Ljava/lang/String;II)Z"⟩
def RX6 : String := "NeededStop$Told"
def TX6 : u_T := fun k => match k with
  | 0 => ("NeededStop$Told", "places", "I", false)
  | 1 => ("NeededStop$Told", "kinds", "I", false)
  | 2 => ("NeededStop$Told", "span", "I", false)
  | 3 => ("NeededStop$Told", "seats", "I", false)
  | 4 => ("NeededStop$Told", "fare", "I", false)
  | 5 => ("NeededStop$Told", "trams", "I", false)
  | 6 => ("NeededStop$Told", "tramPlace", "[I", true)
  | 7 => ("NeededStop$Told", "tramMinute", "[I", true)
  | 8 => ("NeededStop$Told", "tramWay", "[I", true)
  | 9 => ("NeededStop$Told", "people", "I", false)
  | 10 => ("NeededStop$Told", "begin", "[I", true)
  | 11 => ("NeededStop$Told", "home", "[I", true)
  | 12 => ("NeededStop$Told", "moods", "I", false)
  | 13 => ("NeededStop$Told", "whose", "[I", true)
  | 14 => ("NeededStop$Told", "kind", "[I", true)
  | 15 => ("NeededStop$Told", "minute", "[I", true)
  | _ => ("NeededStop$Told", "moodsOf", "[I", true)
def tyX6 : Nat → FieldType := fun k => match k with
  | 0 => .int
  | 1 => .int
  | 2 => .int
  | 3 => .int
  | 4 => .int
  | 5 => .int
  | 6 => .array .int
  | 7 => .array .int
  | 8 => .array .int
  | 9 => .int
  | 10 => .array .int
  | 11 => .array .int
  | 12 => .int
  | 13 => .array .int
  | 14 => .array .int
  | 15 => .array .int
  | _ => .array .int
theorem nmX6 : ∀ a, a < 17 → ∀ b, b < 17 → a ≠ b → (TX6 a).2.1 ≠ (TX6 b).2.1 := by decide +kernel
theorem tyX6_ok : ∀ k, k < 17 → parseFieldDescriptor (TX6 k).2.2.1 = some (tyX6 k) := by decide +kernel
abbrev cX6_init : ByteArray := prog_8_method_1_code
def yX6_init : MethodName := ⟨RX6, "<init>", "()V"⟩
abbrev cX6_copyFrom : ByteArray := prog_8_method_2_code
def yX6_copyFrom : MethodName := ⟨RX6, "copyFrom", "(LNeededStop$Told;)V"⟩
abbrev cX6_isPlace : ByteArray := prog_8_method_3_code
def yX6_isPlace : MethodName := ⟨RX6, "isPlace", "(I)Z"⟩
abbrev cX6_isTram : ByteArray := prog_8_method_4_code
def yX6_isTram : MethodName := ⟨RX6, "isTram", "(I)Z"⟩
abbrev cX6_isPerson : ByteArray := prog_8_method_5_code
def yX6_isPerson : MethodName := ⟨RX6, "isPerson", "(I)Z"⟩
abbrev cX6_layRail : ByteArray := prog_8_method_6_code
def yX6_layRail : MethodName := ⟨RX6, "layRail", "(I)V"⟩
abbrev cX6_putTram : ByteArray := prog_8_method_7_code
def yX6_putTram : MethodName := ⟨RX6, "putTram", "(IIII)V"⟩
abbrev cX6_putPerson : ByteArray := prog_8_method_8_code
def yX6_putPerson : MethodName := ⟨RX6, "putPerson", "(III)V"⟩
abbrev cX6_addMood : ByteArray := prog_8_method_9_code
def yX6_addMood : MethodName := ⟨RX6, "addMood", "(III)V"⟩
abbrev cX6_dropLastMood : ByteArray := prog_8_method_10_code
def yX6_dropLastMood : MethodName := ⟨RX6, "dropLastMood", "()V"⟩
abbrev cX6_clearMoods : ByteArray := prog_8_method_11_code
def yX6_clearMoods : MethodName := ⟨RX6, "clearMoods", "()V"⟩
abbrev cX6_whoseMood : ByteArray := prog_8_method_12_code
def yX6_whoseMood : MethodName := ⟨RX6, "whoseMood", "(I)I"⟩
abbrev cX6_leastKind : ByteArray := prog_8_method_13_code
def yX6_leastKind : MethodName := ⟨RX6, "leastKind", "()I"⟩
abbrev cX6_toldPerson : ByteArray := prog_8_method_14_code
def yX6_toldPerson : MethodName := ⟨RX6, "toldPerson", "(I)I"⟩
abbrev cX6_folkOf : ByteArray := prog_8_method_15_code
def yX6_folkOf : MethodName := ⟨RX6, "folkOf", "(I)I"⟩
def RX7 : String := "NeededStop"
def TX7 : u_T := fun k => match k with
  | 0 => ("NeededStop", "text", "LNeededStop$Text;", true)
  | 1 => ("NeededStop", "told", "LNeededStop$Told;", true)
  | 2 => ("NeededStop", "reader", "LNeededStop$Reader;", true)
  | 3 => ("NeededStop", "today", "LNeededStop$Day;", true)
  | 4 => ("NeededStop", "foretold", "LNeededStop$Day;", true)
  | 5 => ("NeededStop", "kept", "[LNeededStop$Day;", true)
  | 6 => ("NeededStop", "isKept", "[Z", true)
  | 7 => ("NeededStop", "feigning", "LNeededStop$Feigning;", true)
  | _ => ("NeededStop", "readBack", "LNeededStop$ReadBack;", true)
def tyX7 : Nat → FieldType := fun k => match k with
  | 0 => .object "NeededStop$Text"
  | 1 => .object "NeededStop$Told"
  | 2 => .object "NeededStop$Reader"
  | 3 => .object "NeededStop$Day"
  | 4 => .object "NeededStop$Day"
  | 5 => .array (.object "NeededStop$Day")
  | 6 => .array .boolean
  | 7 => .object "NeededStop$Feigning"
  | _ => .object "NeededStop$ReadBack"
theorem nmX7 : ∀ a, a < 9 → ∀ b, b < 9 → a ≠ b → (TX7 a).2.1 ≠ (TX7 b).2.1 := by decide +kernel
theorem tyX7_ok : ∀ k, k < 9 → parseFieldDescriptor (TX7 k).2.2.1 = some (tyX7 k) := by decide +kernel
abbrev cX7_init : ByteArray := prog_1_method_1_code
def yX7_init : MethodName := ⟨RX7, "<init>", "()V"⟩
abbrev cX7_write : ByteArray := prog_1_method_2_code
def yX7_write : MethodName := ⟨RX7, "write", "(JI)I"⟩
abbrev cX7_erase : ByteArray := prog_1_method_3_code
def yX7_erase : MethodName := ⟨RX7, "erase", "()I"⟩
abbrev cX7_fault : ByteArray := prog_1_method_4_code
def yX7_fault : MethodName := ⟨RX7, "fault", "()I"⟩
abbrev cX7_rail : ByteArray := prog_1_method_5_code
def yX7_rail : MethodName := ⟨RX7, "rail", "()I"⟩
abbrev cX7_mood : ByteArray := prog_1_method_6_code
def yX7_mood : MethodName := ⟨RX7, "mood", "(II)I"⟩
abbrev cX7_drawn : ByteArray := prog_1_method_7_code
def yX7_drawn : MethodName := ⟨RX7, "drawn", "(II)I"⟩
abbrev cX7_go : ByteArray := prog_1_method_8_code
def yX7_go : MethodName := ⟨RX7, "go", "(I)I"⟩
abbrev cX7_tram : ByteArray := prog_1_method_9_code
def yX7_tram : MethodName := ⟨RX7, "tram", "(II)I"⟩
abbrev cX7_person : ByteArray := prog_1_method_10_code
def yX7_person : MethodName := ⟨RX7, "person", "(II)I"⟩
abbrev cX7_halt : ByteArray := prog_1_method_11_code
def yX7_halt : MethodName := ⟨RX7, "halt", "(II)I"⟩
abbrev cX7_keep : ByteArray := prog_1_method_12_code
def yX7_keep : MethodName := ⟨RX7, "keep", "(I)I"⟩
abbrev cX7_back : ByteArray := prog_1_method_13_code
def yX7_back : MethodName := ⟨RX7, "back", "(I)I"⟩
abbrev cX7_home : ByteArray := prog_1_method_14_code
def yX7_home : MethodName := ⟨RX7, "home", "(I)I"⟩
abbrev cX7_feigned : ByteArray := prog_1_method_15_code
def yX7_feigned : MethodName := ⟨RX7, "feigned", "(III)I"⟩
abbrev cX7_law : ByteArray := prog_1_method_16_code
def yX7_law : MethodName := ⟨RX7, "law", "(I)I"⟩
abbrev cX7_worn : ByteArray := prog_1_method_17_code
def yX7_worn : MethodName := ⟨RX7, "worn", "(I)I"⟩
abbrev cX7_dry : ByteArray := prog_1_method_18_code
def yX7_dry : MethodName := ⟨RX7, "dry", "()I"⟩
abbrev cX7_last : ByteArray := prog_1_method_19_code
def yX7_last : MethodName := ⟨RX7, "last", "(I)I"⟩
abbrev cX7_fares : ByteArray := prog_1_method_20_code
def yX7_fares : MethodName := ⟨RX7, "fares", "()I"⟩
abbrev cX7_seen : ByteArray := prog_1_method_21_code
def yX7_seen : MethodName := ⟨RX7, "seen", "(II)I"⟩
abbrev cX7_forget : ByteArray := prog_1_method_22_code
def yX7_forget : MethodName := ⟨RX7, "forget", "()I"⟩
abbrev cX7_read : ByteArray := prog_1_method_23_code
def yX7_read : MethodName := ⟨RX7, "read", "(I)I"⟩
abbrev cX7_odds : ByteArray := prog_1_method_24_code
def yX7_odds : MethodName := ⟨RX7, "odds", "(II)I"⟩
abbrev cX7_count : ByteArray := prog_1_method_25_code
def yX7_count : MethodName := ⟨RX7, "count", "(I)I"⟩
abbrev cX7_dropWhatDependsOnMoods : ByteArray := prog_1_method_26_code
def yX7_dropWhatDependsOnMoods : MethodName := ⟨RX7, "dropWhatDependsOnMoods", "()V"⟩
abbrev cX7_foretellDay : ByteArray := prog_1_method_27_code
def yX7_foretellDay : MethodName := ⟨RX7, "foretellDay", "(I)V"⟩
abbrev cX7_lowestPart : ByteArray := prog_1_method_28_code
def yX7_lowestPart : MethodName := ⟨RX7, "lowestPart", "(III)I"⟩
abbrev cX7_commonDivisor : ByteArray := prog_1_method_29_code
def yX7_commonDivisor : MethodName := ⟨RX7, "commonDivisor", "(II)I"⟩
def RX8 : String := "NeededStopModel"
def TX8 : u_T := fun k => match k with
  | 0 => ("NeededStopModel", "places", "I", false)
  | 1 => ("NeededStopModel", "nose", "I", false)
  | 2 => ("NeededStopModel", "span", "I", false)
  | 3 => ("NeededStopModel", "seats", "I", false)
  | 4 => ("NeededStopModel", "fare", "I", false)
  | 5 => ("NeededStopModel", "trams", "I", false)
  | 6 => ("NeededStopModel", "tram", "[I", true)
  | 7 => ("NeededStopModel", "folk", "I", false)
  | 8 => ("NeededStopModel", "person", "[I", true)
  | 9 => ("NeededStopModel", "moods", "I", false)
  | 10 => ("NeededStopModel", "mood", "[I", true)
  | 11 => ("NeededStopModel", "seens", "I", false)
  | 12 => ("NeededStopModel", "seen", "[I", true)
  | 13 => ("NeededStopModel", "bytes", "I", false)
  | 14 => ("NeededStopModel", "text", "[I", true)
  | 15 => ("NeededStopModel", "position", "I", false)
  | 16 => ("NeededStopModel", "tokenAt", "I", false)
  | 17 => ("NeededStopModel", "token", "J", false)
  | 18 => ("NeededStopModel", "digits", "I", false)
  | 19 => ("NeededStopModel", "number", "I", false)
  | 20 => ("NeededStopModel", "faultAt", "I", false)
  | 21 => ("NeededStopModel", "readMany", "I", false)
  | 22 => ("NeededStopModel", "readPlaces", "I", false)
  | 23 => ("NeededStopModel", "readFolk", "I", false)
  | 24 => ("NeededStopModel", "readMoods", "I", false)
  | 25 => ("NeededStopModel", "read", "[I", true)
  | 26 => ("NeededStopModel", "now", "[I", true)
  | 27 => ("NeededStopModel", "aside", "[I", true)
  | 28 => ("NeededStopModel", "image", "[I", true)
  | 29 => ("NeededStopModel", "isKept", "[Z", true)
  | 30 => ("NeededStopModel", "triedNose", "I", false)
  | 31 => ("NeededStopModel", "triedSpan", "I", false)
  | 32 => ("NeededStopModel", "triedMoods", "I", false)
  | 33 => ("NeededStopModel", "best", "[I", true)
  | 34 => ("NeededStopModel", "lawMany", "I", false)
  | 35 => ("NeededStopModel", "lawFirst", "I", false)
  | _ => ("NeededStopModel", "lawHas", "[I", true)
def tyX8 : Nat → FieldType := fun k => match k with
  | 0 => .int
  | 1 => .int
  | 2 => .int
  | 3 => .int
  | 4 => .int
  | 5 => .int
  | 6 => .array .int
  | 7 => .int
  | 8 => .array .int
  | 9 => .int
  | 10 => .array .int
  | 11 => .int
  | 12 => .array .int
  | 13 => .int
  | 14 => .array .int
  | 15 => .int
  | 16 => .int
  | 17 => .long
  | 18 => .int
  | 19 => .int
  | 20 => .int
  | 21 => .int
  | 22 => .int
  | 23 => .int
  | 24 => .int
  | 25 => .array .int
  | 26 => .array .int
  | 27 => .array .int
  | 28 => .array .int
  | 29 => .array .boolean
  | 30 => .int
  | 31 => .int
  | 32 => .int
  | 33 => .array .int
  | 34 => .int
  | 35 => .int
  | _ => .array .int
theorem nmX8 : ∀ a, a < 37 → ∀ b, b < 37 → a ≠ b → (TX8 a).2.1 ≠ (TX8 b).2.1 := by decide +kernel
theorem tyX8_ok : ∀ k, k < 37 → parseFieldDescriptor (TX8 k).2.2.1 = some (tyX8 k) := by decide +kernel
abbrev cX8_init : ByteArray := prog_10_method_1_code
def yX8_init : MethodName := ⟨RX8, "<init>", "()V"⟩
abbrev cX8_in : ByteArray := prog_10_method_2_code
def yX8_in : MethodName := ⟨RX8, "in", "(III)Z"⟩
abbrev cX8_has : ByteArray := prog_10_method_3_code
def yX8_has : MethodName := ⟨RX8, "has", "(II)Z"⟩
abbrev cX8_bits : ByteArray := prog_10_method_4_code
def yX8_bits : MethodName := ⟨RX8, "bits", "(I)I"⟩
abbrev cX8_isPerson : ByteArray := prog_10_method_5_code
def yX8_isPerson : MethodName := ⟨RX8, "isPerson", "(I)Z"⟩
abbrev cX8_isTram : ByteArray := prog_10_method_6_code
def yX8_isTram : MethodName := ⟨RX8, "isTram", "(I)Z"⟩
abbrev cX8_isPlace : ByteArray := prog_10_method_7_code
def yX8_isPlace : MethodName := ⟨RX8, "isPlace", "(I)Z"⟩
abbrev cX8_write : ByteArray := prog_10_method_8_code
def yX8_write : MethodName := ⟨RX8, "write", "(JI)I"⟩
abbrev cX8_erase : ByteArray := prog_10_method_9_code
def yX8_erase : MethodName := ⟨RX8, "erase", "()I"⟩
abbrev cX8_nextToken : ByteArray := prog_10_method_10_code
def yX8_nextToken : MethodName := ⟨RX8, "nextToken", "()V"⟩
abbrev cX8_fails : ByteArray := prog_10_method_11_code
def yX8_fails : MethodName := ⟨RX8, "fails", "()Z"⟩
abbrev cX8_isNumber : ByteArray := prog_10_method_12_code
def yX8_isNumber : MethodName := ⟨RX8, "isNumber", "(III)Z"⟩
abbrev cX8_isRail : ByteArray := prog_10_method_13_code
def yX8_isRail : MethodName := ⟨RX8, "isRail", "(I)Z"⟩
abbrev cX8_isFolk : ByteArray := prog_10_method_14_code
def yX8_isFolk : MethodName := ⟨RX8, "isFolk", "(I)Z"⟩
abbrev cX8_isMood : ByteArray := prog_10_method_15_code
def yX8_isMood : MethodName := ⟨RX8, "isMood", "(I)Z"⟩
abbrev cX8_isLine : ByteArray := prog_10_method_16_code
def yX8_isLine : MethodName := ⟨RX8, "isLine", "(I)Z"⟩
abbrev cX8_isRead : ByteArray := prog_10_method_17_code
def yX8_isRead : MethodName := ⟨RX8, "isRead", "()Z"⟩
abbrev cX8_fault : ByteArray := prog_10_method_18_code
def yX8_fault : MethodName := ⟨RX8, "fault", "()I"⟩
abbrev cX8_addMood : ByteArray := prog_10_method_19_code
def yX8_addMood : MethodName := ⟨RX8, "addMood", "(III)V"⟩
abbrev cX8_doLine : ByteArray := prog_10_method_20_code
def yX8_doLine : MethodName := ⟨RX8, "doLine", "(I)V"⟩
abbrev cX8_begin : ByteArray := prog_10_method_21_code
def yX8_begin : MethodName := ⟨RX8, "begin", "()V"⟩
abbrev cX8_rail : ByteArray := prog_10_method_22_code
def yX8_rail : MethodName := ⟨RX8, "rail", "()I"⟩
abbrev cX8_mood : ByteArray := prog_10_method_23_code
def yX8_mood : MethodName := ⟨RX8, "mood", "(II)I"⟩
abbrev cX8_personOf : ByteArray := prog_10_method_24_code
def yX8_personOf : MethodName := ⟨RX8, "personOf", "(I)I"⟩
abbrev cX8_drawn : ByteArray := prog_10_method_25_code
def yX8_drawn : MethodName := ⟨RX8, "drawn", "(II)I"⟩
abbrev cX8_placeNow : ByteArray := prog_10_method_26_code
def yX8_placeNow : MethodName := ⟨RX8, "placeNow", "(I)I"⟩
abbrev cX8_causeOf : ByteArray := prog_10_method_27_code
def yX8_causeOf : MethodName := ⟨RX8, "causeOf", "(I)I"⟩
abbrev cX8_haltMany : ByteArray := prog_10_method_28_code
def yX8_haltMany : MethodName := ⟨RX8, "haltMany", "()I"⟩
abbrev cX8_haltBy : ByteArray := prog_10_method_29_code
def yX8_haltBy : MethodName := ⟨RX8, "haltBy", "(II)V"⟩
abbrev cX8_goOn : ByteArray := prog_10_method_30_code
def yX8_goOn : MethodName := ⟨RX8, "goOn", "(I)V"⟩
abbrev cX8_goMinute : ByteArray := prog_10_method_31_code
def yX8_goMinute : MethodName := ⟨RX8, "goMinute", "()V"⟩
abbrev cX8_asTold : ByteArray := prog_10_method_32_code
def yX8_asTold : MethodName := ⟨RX8, "asTold", "()V"⟩
abbrev cX8_go : ByteArray := prog_10_method_33_code
def yX8_go : MethodName := ⟨RX8, "go", "(I)I"⟩
abbrev cX8_tram : ByteArray := prog_10_method_34_code
def yX8_tram : MethodName := ⟨RX8, "tram", "(II)I"⟩
abbrev cX8_person : ByteArray := prog_10_method_35_code
def yX8_person : MethodName := ⟨RX8, "person", "(II)I"⟩
abbrev cX8_halt : ByteArray := prog_10_method_36_code
def yX8_halt : MethodName := ⟨RX8, "halt", "(II)I"⟩
abbrev cX8_copy : ByteArray := prog_10_method_37_code
def yX8_copy : MethodName := ⟨RX8, "copy", "([II[II)V"⟩
abbrev cX8_keep : ByteArray := prog_10_method_38_code
def yX8_keep : MethodName := ⟨RX8, "keep", "(I)I"⟩
abbrev cX8_back : ByteArray := prog_10_method_39_code
def yX8_back : MethodName := ⟨RX8, "back", "(I)I"⟩
abbrev cX8_goDay : ByteArray := prog_10_method_40_code
def yX8_goDay : MethodName := ⟨RX8, "goDay", "()V"⟩
abbrev cX8_putBack : ByteArray := prog_10_method_41_code
def yX8_putBack : MethodName := ⟨RX8, "putBack", "()V"⟩
abbrev cX8_late : ByteArray := prog_10_method_42_code
def yX8_late : MethodName := ⟨RX8, "late", "(I)I"⟩
abbrev cX8_home : ByteArray := prog_10_method_43_code
def yX8_home : MethodName := ⟨RX8, "home", "(I)I"⟩
abbrev cX8_tryFeigned : ByteArray := prog_10_method_44_code
def yX8_tryFeigned : MethodName := ⟨RX8, "tryFeigned", "(IIII)V"⟩
abbrev cX8_feigned : ByteArray := prog_10_method_45_code
def yX8_feigned : MethodName := ⟨RX8, "feigned", "(III)I"⟩
abbrev cX8_law : ByteArray := prog_10_method_46_code
def yX8_law : MethodName := ⟨RX8, "law", "(I)I"⟩
abbrev cX8_wornAt : ByteArray := prog_10_method_47_code
def yX8_wornAt : MethodName := ⟨RX8, "wornAt", "(I)I"⟩
abbrev cX8_worn : ByteArray := prog_10_method_48_code
def yX8_worn : MethodName := ⟨RX8, "worn", "(I)I"⟩
abbrev cX8_dry : ByteArray := prog_10_method_49_code
def yX8_dry : MethodName := ⟨RX8, "dry", "()I"⟩
abbrev cX8_divisor : ByteArray := prog_10_method_50_code
def yX8_divisor : MethodName := ⟨RX8, "divisor", "(II)I"⟩
abbrev cX8_last : ByteArray := prog_10_method_51_code
def yX8_last : MethodName := ⟨RX8, "last", "(I)I"⟩
abbrev cX8_fares : ByteArray := prog_10_method_52_code
def yX8_fares : MethodName := ⟨RX8, "fares", "()I"⟩
abbrev cX8_seen : ByteArray := prog_10_method_53_code
def yX8_seen : MethodName := ⟨RX8, "seen", "(II)I"⟩
abbrev cX8_forget : ByteArray := prog_10_method_54_code
def yX8_forget : MethodName := ⟨RX8, "forget", "()I"⟩
abbrev cX8_areSeen : ByteArray := prog_10_method_55_code
def yX8_areSeen : MethodName := ⟨RX8, "areSeen", "()Z"⟩
abbrev cX8_layLaws : ByteArray := prog_10_method_56_code
def yX8_layLaws : MethodName := ⟨RX8, "layLaws", "()V"⟩
abbrev cX8_read : ByteArray := prog_10_method_57_code
def yX8_read : MethodName := ⟨RX8, "read", "(I)I"⟩
abbrev cX8_odds : ByteArray := prog_10_method_58_code
def yX8_odds : MethodName := ⟨RX8, "odds", "(II)I"⟩
abbrev cX8_count : ByteArray := prog_10_method_59_code
def yX8_count : MethodName := ⟨RX8, "count", "(I)I"⟩
def RJx145de : String := "java/io/Serializable"
def RJx9f9b0 : String := "java/lang/CharSequence"
def RJxb160c : String := "java/lang/Comparable"
def RJ6 : String := "java/lang/Integer"
abbrev cJ6_bitCount_0f7a4 : ByteArray := prog_11_method_49_code
def yJ6_bitCount_0f7a4 : MethodName := ⟨RJ6, "bitCount", "(I)I"⟩
def RJ9 : String := "java/lang/Math"
abbrev cJ9_max_7cf53 : ByteArray := prog_12_method_65_code
def yJ9_max_7cf53 : MethodName := ⟨RJ9, "max", "(II)I"⟩
abbrev cJ9_min_7cf53 : ByteArray := prog_12_method_69_code
def yJ9_min_7cf53 : MethodName := ⟨RJ9, "min", "(II)I"⟩
def RJ0 : String := "java/lang/String"
abbrev cJ0_length_8abf5 : ByteArray := prog_13_method_54_code
def yJ0_length_8abf5 : MethodName := ⟨RJ0, "length", "()I"⟩
abbrev cJ0_charAt_5068e : ByteArray := prog_13_method_56_code
def yJ0_charAt_5068e : MethodName := ⟨RJ0, "charAt", "(I)C"⟩
abbrev cJ0_coder_7d493 : ByteArray := prog_13_method_152_code
def yJ0_coder_7d493 : MethodName := ⟨RJ0, "coder", "()B"⟩
abbrev cJ0_isLatin1_aae02 : ByteArray := prog_13_method_154_code
def yJ0_isLatin1_aae02 : MethodName := ⟨RJ0, "isLatin1", "()Z"⟩
abbrev cJ0_checkIndex_df160 : ByteArray := prog_13_method_155_code
def yJ0_checkIndex_df160 : MethodName := ⟨RJ0, "checkIndex", "(II)V"⟩
def RJ1 : String := "java/lang/StringLatin1"
abbrev cJ1_charAt_3b067 : ByteArray := prog_14_method_2_code
def yJ1_charAt_3b067 : MethodName := ⟨RJ1, "charAt", "([BI)C"⟩
def RJ2 : String := "java/lang/StringUTF16"
abbrev cJ2_getChar_3b067 : ByteArray := prog_15_method_5_code
def yJ2_getChar_3b067 : MethodName := ⟨RJ2, "getChar", "([BI)C"⟩
abbrev cJ2_length_9d52b : ByteArray := prog_15_method_6_code
def yJ2_length_9d52b : MethodName := ⟨RJ2, "length", "([B)I"⟩
abbrev cJ2_charAt_3b067 : ByteArray := prog_15_method_83_code
def yJ2_charAt_3b067 : MethodName := ⟨RJ2, "charAt", "([BI)C"⟩
abbrev cJ2_checkIndex_2214a : ByteArray := prog_15_method_91_code
def yJ2_checkIndex_2214a : MethodName := ⟨RJ2, "checkIndex", "(I[B)V"⟩
def RJ10 : String := "java/lang/System"
def RJxfd54e : String := "java/lang/constant/Constable"
def RJx3cf43 : String := "java/lang/constant/ConstantDesc"
def RJ7 : String := "java/util/Arrays"
abbrev cJ7_fill_53178 : ByteArray := prog_17_method_103_code
def yJ7_fill_53178 : MethodName := ⟨RJ7, "fill", "([II)V"⟩
def RJ3 : String := "jdk/internal/util/Preconditions"
abbrev cJ3_checkIndex_8e157 : ByteArray := prog_18_method_11_code
def yJ3_checkIndex_8e157 : MethodName := ⟨RJ3, "checkIndex", "(IILjava/util/function/BiFunction;)I"⟩
def RL : String := "NeededStopLaw"
abbrev cL_law : ByteArray := code
def yL_law : MethodName := ⟨RL, "law", "([I)Z"⟩
abbrev vwCl : List vw_C := [(RX0, TX0, 15), (RX1, TX1, 13), (RX2, TX2, 5), (RX3, TX3, 9), (RX4, TX4, 8), (RX5, TX5, 2), (RX6, TX6, 17), (RX7, TX7, 9), (RX8, TX8, 37)]
end
section
/-! ===== the abstract world: cells by numbers, an address map, the judgement ===== -/
abbrev xE : Type := (Nat × Nat × (Nat → Int32)) ⊕ (List (Option Nat) ⊕ (Nat × List Value))
abbrev xI : Type := va_G × ClassId × ClassId × ClassId
abbrev xB : Nat := 1000000
def xv (ad : Nat → Nat) : Value → Value
  | .ref k => .ref (ad k)
  | v => v
def xe (I : xI) (ad : Nat → Nat) : xE → va_E
  | .inl (t, n, f) => .inl (if t = 0 then I.2.1 else I.2.2.1, n, .inl f)
  | .inr (.inl l) => .inl (I.2.2.2, l.length, .inr (.inr (.inr (.inr (fun j => (l[j]?.join).map ad)))))
  | .inr (.inr (ci, fs)) => .inr (ci, fs.map (xv ad))
def xw (I : xI) (ad : Nat → Nat) (X : List xE) : va_W := X.mapIdx (fun i c => (ad i, xe I ad c))
theorem xw_len (I : xI) (ad : Nat → Nat) (X : List xE) : (xw I ad X).length = X.length := by simp [xw]
theorem xw_at (I : xI) (ad : Nat → Nat) (X : List xE) (k : Nat) : (xw I ad X)[k]? = (X[k]?).map (fun c => (ad k, xe I ad c)) := by simp [xw]
theorem xw_get {I : xI} {ad : Nat → Nat} {X : List xE} {k : Nat} {c : xE} (h : X[k]? = some c) : (xw I ad X)[k]? = some (ad k, xe I ad c) := by rw [xw_at, h]; rfl
theorem xw_inv {I : xI} {ad : Nat → Nat} {X : List xE} {k : Nat} {q : Nat × va_E} (h : (xw I ad X)[k]? = some q) : ∃ c, X[k]? = some c ∧ q = (ad k, xe I ad c) := by
  rw [xw_at] at h
  cases hx : X[k]? with
  | none => rw [hx] at h; cases h
  | some c => rw [hx] at h; exact ⟨c, rfl, (Option.some.inj h).symm⟩
theorem xw_set (I : xI) (ad : Nat → Nat) (X : List xE) (k : Nat) (c : xE) : (xw I ad X).set k (ad k, xe I ad c) = xw I ad (X.set k c) := by
  apply List.ext_getElem?
  intro i
  rw [xw_at, List.getElem?_set, List.getElem?_set]
  by_cases h : k = i
  · subst h
    rw [if_pos rfl, if_pos rfl, xw_len]
    by_cases h2 : k < X.length
    · rw [if_pos h2, if_pos h2]; rfl
    · rw [if_neg h2, if_neg h2]; rfl
  · rw [if_neg h, if_neg h, xw_at]
theorem xw_push (I : xI) (ad : Nat → Nat) (X : List xE) (c : xE) : xw I ad X ++ [(ad X.length, xe I ad c)] = xw I ad (X ++ [c]) := by simp [xw, List.mapIdx_append]
def xrv (P : Nat → Prop) : Value → Prop
  | .ref k => P k
  | _ => True
def xre (P : Nat → Prop) : xE → Prop
  | .inl _ => True
  | .inr (.inl l) => ∀ k, some k ∈ l → P k
  | .inr (.inr (_, fs)) => ∀ v ∈ fs, xrv P v
theorem xv_congr {P : Nat → Prop} {ad ad' : Nat → Nat} (ha : ∀ k, P k → ad k = ad' k) {v : Value} (h : xrv P v) : xv ad v = xv ad' v := by
  cases v <;> first | rfl | (simp only [xv]; rw [ha _ h])
theorem xe_congr {P : Nat → Prop} {I : xI} {ad ad' : Nat → Nat} (ha : ∀ k, P k → ad k = ad' k) {c : xE} (h : xre P c) : xe I ad c = xe I ad' c := by
  rcases c with ⟨t, n, f⟩ | l | ⟨ci, fs⟩
  · rfl
  · simp only [xe]
    have hf : (fun j : Nat => (l[j]?.join).map ad) = (fun j : Nat => (l[j]?.join).map ad') := by
     funext j
     cases hj : l[j]? with
     | none => rfl
     | some o =>
      cases o with
      | none => rfl
      | some k => show some (ad k) = some (ad' k); rw [ha k (h k (List.mem_of_getElem? hj))]
    rw [hf]
  · simp only [xe]
    congr 2
    exact List.map_congr_left (fun v hv => xv_congr ha (h v hv))
theorem xw_congr {I : xI} {ad ad' : Nat → Nat} {P : Nat → Prop} {X : List xE} (ha : ∀ k, P k → ad k = ad' k) (hl : ∀ k, k < X.length → P k) (h : ∀ c ∈ X, xre P c) : xw I ad X = xw I ad' X := by
  apply List.ext_getElem?
  intro i
  rw [xw_at, xw_at]
  cases hi : X[i]? with
  | none => rfl
  | some c =>
    simp only [Option.map]
    rw [ha i (hl i (List.getElem?_eq_some_iff.mp hi).1), xe_congr ha (h c (List.mem_of_getElem? hi))]
def xokv (n : Nat) : Value → Bool
  | .ref k => Nat.blt k n || Nat.ble xB k
  | _ => true
def xoke (n : Nat) : xE → Bool
  | .inl _ => true
  | .inr (.inl l) => l.all (fun o => match o with | none => true | some k => Nat.blt k n || Nat.ble xB k)
  | .inr (.inr (_, fs)) => fs.all (xokv n)
theorem xokv_sp {n : Nat} {v : Value} (h : xokv n v = true) : xrv (fun k => k < n ∨ xB ≤ k) v := by
  cases v <;> first | trivial | skip
  simp only [xokv, Bool.or_eq_true, Nat.blt_eq, Nat.ble_eq] at h
  exact h
theorem xoke_sp {n : Nat} {c : xE} (h : xoke n c = true) : xre (fun k => k < n ∨ xB ≤ k) c := by
  rcases c with ⟨t, m, f⟩ | l | ⟨ci, fs⟩
  · trivial
  · intro k hk
    have := List.all_eq_true.mp h (some k) hk
    simp only [Bool.or_eq_true, Nat.blt_eq, Nat.ble_eq] at this
    exact this
  · intro v hv
    exact xokv_sp (List.all_eq_true.mp h v hv)
def xls (ad : Nat → Nat) : Nat → List (Option Value) → List (Nat × Value)
  | _, [] => []
  | i, none :: t => xls ad (i + 1) t
  | i, some v :: t => (i, xv ad v) :: xls ad (i + 1) t
theorem xls_mem (ad : Nat → Nat) : ∀ (ls : List (Option Value)) (b : Nat) (q : Nat × Value), q ∈ xls ad b ls ↔ ∃ k v, ls[k]? = some (some v) ∧ q = (b + k, xv ad v)
  | [], b, q => by simp [xls]
  | none :: t, b, q => by
    rw [xls, xls_mem ad t (b + 1) q]
    constructor
    · rintro ⟨k, v, h, rfl⟩
      exact ⟨k + 1, v, by simpa using h, by rw [Nat.add_assoc, Nat.add_comm 1 k]⟩
    · rintro ⟨k, v, h, rfl⟩
      cases k with
      | zero => simp at h
      | succ k => exact ⟨k, v, by simpa using h, by rw [Nat.add_assoc, Nat.add_comm 1 k]⟩
  | some w :: t, b, q => by
    rw [xls, List.mem_cons, xls_mem ad t (b + 1) q]
    constructor
    · rintro (rfl | ⟨k, v, h, rfl⟩)
      · exact ⟨0, w, by simp, by simp⟩
      · exact ⟨k + 1, v, by simpa using h, by rw [Nat.add_assoc, Nat.add_comm 1 k]⟩
    · rintro ⟨k, v, h, rfl⟩
      cases k with
      | zero => left; simp at h; simp [h]
      | succ k => right; exact ⟨k, v, by simpa using h, by rw [Nat.add_assoc, Nat.add_comm 1 k]⟩
def xL (la : Array Slot) (n : Nat) (ad : Nat → Nat) (ls : List (Option Value)) : Prop := lv_has la n (xls ad 0 ls) ∧ ls.length = n
theorem xL_at {la : Array Slot} {n : Nat} {ad : Nat → Nat} {ls : List (Option Value)} (h : xL la n ad ls) {k : Nat} {v : Value} (hk : ls[k]? = some (some v)) : la[k]? = some (.val (xv ad v)) :=
  h.1.2.2 (k, xv ad v) ((xls_mem ad ls 0 _).mpr ⟨k, v, hk, by rw [Nat.zero_add]⟩)
theorem xv_cat (ad : Nat → Nat) (v : Value) : (xv ad v).category = v.category := by cases v <;> rfl
/-- may a value of one slot be stored at k: k is a place, and what stands just below is no long -/
def xlok (ls : List (Option Value)) (k : Nat) : Bool := Nat.blt k ls.length && (match k with
  | 0 => true
  | j + 1 => match ls[j]? with
    | some (some (.long _)) => false
    | some (some (.double _)) => false
    | _ => true)
theorem xL_store {la : Array Slot} {n : Nat} {ad : Nat → Nat} {ls : List (Option Value)} (h : xL la n ad ls) {k : Nat} {v : Value} (hk : xlok ls k = true) (hc : v.category = 1) :
    ∃ la', storeLocals la k (xv ad v) = some la' ∧ xL la' n ad (ls.set k (some v)) := by
  obtain ⟨hl, hn⟩ := h
  simp only [xlok, Bool.and_eq_true, Nat.blt_eq] at hk
  obtain ⟨hk1, hk2⟩ := hk
  obtain ⟨la', e, h'⟩ := lv_store1 (v := xv ad v) hl (by omega : k < n) (by rw [xv_cat]; exact hc)
  refine ⟨la', e, ⟨h'.1, h'.2.1, fun q hq => ?_⟩, by rw [List.length_set]; exact hn⟩
  obtain ⟨j, w, hj, rfl⟩ := (xls_mem ad _ 0 q).mp hq
  rw [Nat.zero_add]
  rw [List.getElem?_set] at hj
  by_cases hkj : k = j
  · subst hkj
    rw [if_pos rfl, if_pos hk1] at hj
    cases hj
    exact h'.2.2 _ List.mem_cons_self
  · rw [if_neg hkj] at hj
    refine h'.2.2 (j, xv ad w) (List.mem_cons_of_mem _ (List.mem_filter.mpr ⟨(xls_mem ad ls 0 _).mpr ⟨j, w, hj, by rw [Nat.zero_add]⟩, ?_⟩))
    have e1 : (j == k) = false := by simp; omega
    simp only [e1, Bool.not_false, Bool.true_and, Bool.not_eq_true', Bool.and_eq_false_iff]
    by_cases h2 : j + 1 = k
    · right
      subst h2
      simp only [hj] at hk2
      cases w <;> first | rfl | (simp at hk2)
    · left
      simp; exact h2
theorem xL_ad {la : Array Slot} {n m : Nat} {ad ad' : Nat → Nat} {ls : List (Option Value)} (h : xL la n ad ls) (ha : ∀ k, k < m ∨ xB ≤ k → ad k = ad' k) (hok : ls.all (fun o => match o with | none => true | some v => xokv m v) = true) : xL la n ad' ls := by
  refine ⟨⟨h.1.1, h.1.2.1, fun q hq => ?_⟩, h.2⟩
  obtain ⟨j, w, hj, rfl⟩ := (xls_mem ad' ls 0 q).mp hq
  have h1 := List.all_eq_true.mp hok _ (List.mem_of_getElem? hj)
  rw [Nat.zero_add, ← xv_congr ha (xokv_sp h1)]
  exact xL_at h hj
theorem xmap_ad {m : Nat} {ad ad' : Nat → Nat} {st : List Value} (ha : ∀ k, k < m ∨ xB ≤ k → ad k = ad' k) (hok : st.all (xokv m) = true) : st.map (xv ad) = st.map (xv ad') :=
  List.map_congr_left (fun v hv => xv_congr ha (xokv_sp (List.all_eq_true.mp hok v hv)))
end
section
/-! ===== words, contexts, judgement, contract ===== -/
def xtb : List Cond := lw_tbl.filter goodWord
theorem xtb_sub : ∀ w ∈ xtb, w ∈ lw_tbl := fun _ h => (List.mem_filter.mp h).1
theorem xtb_good {ts : List Cond} (h : ∀ w ∈ xtb, w ∈ ts) : GoodIn ts xtb := fun w hw => ⟨h w hw, good_of_word (List.mem_filter.mp hw).2⟩
theorem xtb_in {w : Cond} (h : w ∈ tables_1) (hg : goodWord w = true) : w ∈ xtb := List.mem_filter.mpr ⟨List.mem_append_right _ h, hg⟩
theorem xtb_at {w : Cond} (t : Nat) (h : tables_1[t]? = some w) (hg : goodWord w = true) : w ∈ xtb := xtb_in (List.mem_of_getElem? h) hg
/-- an instruction with what it links: next place, target, int and long constant, three numbers, a switch's cases -/
abbrev xO : Type := Instr × Nat × Nat × Int32 × Int64 × Nat × Nat × Nat × List (Int32 × Nat)
/-- a method: name, code, locals, what it returns, its rows by sixteens -/
abbrev xM : Type := MethodName × ByteArray × Nat × Option FieldType × List (List (Nat × xO))
abbrev xown (M : xM) : String := M.1.cls
abbrev xcc (M : xM) : ByteArray := M.2.1
abbrev xml (M : xM) : Nat := M.2.2.1
abbrev xret (M : xM) : Option FieldType := M.2.2.2.1
def xat (M : xM) (pc : Nat) : Option xO := match M.2.2.2.2[pc / 16]? with
  | some l => l.lookup pc
  | none => none
abbrev xT (I : xI) : List (ClassId × FieldType) := [(I.2.1, .int), (I.2.2.1, .boolean), (I.2.2.2, .object "NeededStop$Day")]
def xnum : List Int32 := [1, 2, 1, 1, 4, 3, 2, 2, 2, 0]
def xsl : List Nat := [4, 4, 5, 4, 4, 4, 5, 8, 4, 4]
def xsb : List (List Int32) := [[114, 97, 105, 108], [110, 111, 115, 101], [115, 101, 97, 116, 115], [102, 97, 114, 101], [116, 114, 97, 109], [102, 111, 108, 107], [116, 101, 97, 114, 115], [108, 97, 117, 103, 104, 116, 101, 114], [100, 101, 98, 116], [99, 97, 108, 109]]
def xsk : List Nat := [89, 95, 97, 99, 101, 103, 105, 107, 109, 111]
def xst : List String := ["rail", "nose", "seats", "fare", "tram", "folk", "tears", "laughter", "debt", "calm"]
abbrev xLn : Type := Launch × Nat × (Nat → Int32)
def xnl : List (String × Nat × MethodName) := [("NeededStop", 11, ⟨"NeededStop$Text", "<init>", "()V"⟩), ("NeededStop", 18, ⟨"NeededStop$Told", "<init>", "()V"⟩), ("NeededStop$Reader", 11, ⟨"NeededStop$Told", "<init>", "()V"⟩), ("NeededStop$Day", 35, ⟨"NeededStop$Halts", "<init>", "()V"⟩), ("NeededStop$Feigning", 11, ⟨"NeededStop$Told", "<init>", "()V"⟩)]
/-- what stood before the start, and is never written: the numbers' row, the ten words, the script -/
def xFF (L : xLn) (ad : Nat → Nat) (A : Nat → Prop) (U : State) (H : Heap) : Prop :=
  va_Z "NeededStop$Reader" "NUMBERS" "[I" (.ref (ad xB)) A U H ∧ va_T .int (ad xB) 10 (fun j => .int (xnum.getD j 0)) A U H ∧ va_Z "java/lang/String" "COMPACT_STRINGS" "Z" (.int 1) A U H ∧
  vk_S 10 xsl xsb (fun i => ad (xB + 1 + i)) (fun i => ad (xB + 11 + i)) A U H ∧ (∀ i : Nat, i < 10 → vk_R "NeededStop$Reader" (xsk.getD i 0) (xst.getD i "") (ad (xB + 1 + i)) U) ∧ va_T .int (ad (xB + 40)) L.2.1 (fun j => .int (L.2.2 j)) A U H ∧ va_AO "NeededStop$Day" U ∧ ∀ q ∈ xnl, va_Nw (.methodLinkNest q.1 q.2.1 q.2.2 "NeededStop") U
theorem xFF.warm {L : xLn} {ad : Nat → Nat} {A : Nat → Prop} {s U : State} {H : Heap} (hW : s.WarmedH U.vm) (h : xFF L ad A s H) : xFF L ad A U H :=
  ⟨h.1.moved hW.alike, h.2.1.moved hW.alike, h.2.2.1.moved hW.alike, h.2.2.2.1.moved hW.alike, fun i hi => (h.2.2.2.2.1 i hi).warm hW, h.2.2.2.2.2.1.moved hW.alike, h.2.2.2.2.2.2.1.moved hW.alike, fun q hq => (h.2.2.2.2.2.2.2 q hq).warmM hW⟩
theorem xFF.same {L : xLn} {ad : Nat → Nat} {A : Nat → Prop} {s U : State} {H : Heap} (hv : U.vm = s.vm) (h : xFF L ad A s H) : xFF L ad A U H := by
  have ha : s.vm.Alike U.vm := by rw [hv]; exact Vm.Alike.refl _
  exact ⟨h.1.moved ha, h.2.1.moved ha, h.2.2.1.moved ha, h.2.2.2.1.moved ha, fun i hi => (h.2.2.2.2.1 i hi).same hv, h.2.2.2.2.2.1.moved ha, h.2.2.2.2.2.2.1.moved ha, fun q hq => va_Nw.same rfl hv.symm (h.2.2.2.2.2.2.2 q hq)⟩
theorem xFF.kept {L : xLn} {ad : Nat → Nat} {A : Nat → Prop} {U : State} {H H1 : Heap} (h : xFF L ad A U H) (hq : ∀ a : Nat, a < H.size → ¬ A a → H1[a]? = H[a]?) : xFF L ad A U H1 :=
  ⟨h.1.kept hq, h.2.1.kept hq, h.2.2.1.kept hq, h.2.2.2.1.kept hq, h.2.2.2.2.1, h.2.2.2.2.2.1.kept hq, h.2.2.2.2.2.2⟩
theorem xFF.narrow {L : xLn} {ad : Nat → Nat} {A B : Nat → Prop} {U : State} {H : Heap} (h : xFF L ad A U H) (hAB : ∀ q, B q → A q) : xFF L ad B U H :=
  ⟨h.1.narrow hAB, h.2.1.narrow hAB, h.2.2.1.narrow hAB, h.2.2.2.1.narrow hAB, h.2.2.2.2.1, h.2.2.2.2.2.1.narrow hAB, h.2.2.2.2.2.2⟩
theorem xFF.ad {L : xLn} {ad ad' : Nat → Nat} {A : Nat → Prop} {U : State} {H : Heap} (h : xFF L ad A U H) (ha : ∀ i, xB ≤ i → ad' i = ad i) : xFF L ad' A U H := by
  have e0 := ha xB (Nat.le_refl _)
  have e1 : (fun i => ad' (xB + 1 + i)) = (fun i => ad (xB + 1 + i)) := funext fun i => ha _ (by omega)
  have e3 := ha (xB + 40) (by omega)
  have e2 : (fun i => ad' (xB + 11 + i)) = (fun i => ad (xB + 11 + i)) := funext fun i => ha _ (by omega)
  unfold xFF
  rw [e0, e1, e2, e3]
  refine ⟨h.1, h.2.1, h.2.2.1, h.2.2.2.1, fun i hi => ?_, h.2.2.2.2.2⟩
  rw [ha _ (by omega)]
  exact h.2.2.2.2.1 i hi
/-- the machine's own part of a context -/
def xC (M : xM) (d : Nat) (p : Program) (R : Room) (s : State) (m : MethodId) (args : Array Value) (meth : Method) (c : Code) (I : xI) (A : Nat → Prop) : Prop :=
  p.tables.exec = Jvm.exec ∧ c.code = xcc M ∧ meth.sig.returnType = xret M ∧ c.maxLocals = xml M ∧ s.vm.findClass (xown M) = some m.cls ∧ (∀ w ∈ xtb, w.before args s = true) ∧ va_K I.1 vwCl (xT I) s ∧ meth.locks = false ∧ (M.1.name = "<init>" → meth.name = "<init>") ∧ (∀ q, s.heap.size ≤ q → A q) ∧ d ≤ R.frames ∧ 50 * d ≤ R.locals
/-- the world now -/
def xH (I : xI) (A : Nat → Prop) (s : State) (n0 : Nat) (ad0 ad : Nat → Nat) (X : List xE) (H : Heap) (locs : List Loc) : Prop :=
  (∀ i, i < n0 ∨ xB ≤ i → ad i = ad0 i) ∧ n0 ≤ X.length ∧ X.length ≤ xB ∧ va_P I.1 vwCl (xw I ad X) H ∧ va_D A (xw I ad X) ∧ va_S A s.heap H locs
/-- how it returns: an instruction of the code, an answer that its type takes -/
def xrt (M : xM) (pc : Nat) : Option Value → Prop
  | none => xret M = none ∧ decode (xcc M) pc = .ok (.return_, 1)
  | some (.int v) => decode (xcc M) pc = .ok (.ireturn, 1) ∧ ∃ ty, xret M = some ty ∧ narrow ty (.int v) = .int v
  | _ => False
def xG (L : xLn) (M : xM) (d mc ms : Nat) (Q : Option Value → List xE → Prop) (n0 : Nat) (p : Program) (e : Env) (R : Room) (s : State) (m : MethodId) (args : Array Value) (below : List Frame) (meth : Method) (c : Code) (I : xI) (A : Nat → Prop) (QF : State → Prop) (ad0 : Nat → Nat) : Prop :=
  xC M d p R s m args meth c I A ∧ mc ≤ R.cells ∧ ms ≤ R.slots ∧ xFF L ad0 A s s.heap ∧
  ∀ (r : Option Value) (X : List xE) (ad : Nat → Nat) (H : Heap) (locs : List Loc) (pc : Nat) (la : Array Slot), Q r X → X.all (xoke X.length) = true → xH I A s n0 ad0 ad X H locs → xrt M pc r → W p L.1 e R s m args below meth c H locs mc ms QF (F0 m pc la (r.toList.map (xv ad)))
/-- THE JUDGEMENT: from this abstract configuration the method comes to its end with Q -/
def AJ (L : xLn) (M : xM) (d mc ms : Nat) (Q : Option Value → List xE → Prop) (n0 : Nat) (z : Nat × Nat) (pc : Nat) (ls : List (Option Value)) (st : List Value) (X : List xE) : Prop :=
  ∀ (p : Program) (e : Env) (R : Room) (s : State) (m : MethodId) (args : Array Value) (below : List Frame) (meth : Method) (c : Code) (I : xI) (A : Nat → Prop) (QF : State → Prop) (ad0 : Nat → Nat), xG L M d mc ms Q n0 p e R s m args below meth c I A QF ad0 →
  ∀ (ad : Nat → Nat) (H : Heap) (locs : List Loc) (la : Array Slot), xH I A s n0 ad0 ad X H locs → xL la (xml M) ad ls → W p L.1 e R s m args below meth c H locs z.1 z.2 QF (F0 m pc la (st.map (xv ad)))
abbrev xW (M : xM) : List Cond := .code M.1 (xcc M) (xml M) (xret M) :: xtb
def xPc (L : xLn) (I : xI) (ad : Nat → Nat) (X : List xE) (sz : Nat) (av : List Value) : Array Value → State → Prop :=
  va_Pc (av.map (xv ad)) (fun U => U.heap.size = sz ∧ va_P I.1 vwCl (xw I ad X) U.heap ∧ va_K I.1 vwCl (xT I) U ∧ va_D (fun _ => True) (xw I ad X) ∧ xFF L ad (va_A (xw I ad X) sz) U U.heap)
def xQc (I : xI) (ad0 : Nat → Nat) (n0 : Nat) (A : Nat → Prop) (Q : Option Value → List xE → Prop) : Array Value → State → Outcome → State → Prop := fun _ st oc t =>
  (∃ (r : Option Value) (X : List xE) (ad : Nat → Nat), oc = .returned (r.map (xv ad)) ∧ (∀ i, i < n0 ∨ xB ≤ i → ad i = ad0 i) ∧ n0 ≤ X.length ∧ X.length ≤ xB ∧ X.all (xoke X.length) = true ∧ (∀ u, r = some u → xokv 0 u = true) ∧ Q r X ∧ va_P I.1 vwCl (xw I ad X) t.heap ∧ va_K I.1 vwCl (xT I) t ∧ va_D A (xw I ad X)) ∧ va_F A st t
abbrev xRm (d mc ms : Nat) : Room := { frames := d, cells := mc, slots := ms, locals := 50 * d }
/-- THE CONTRACT: called with av in the world X, the method returns, and Q holds of its answer and the world behind it -/
def CT (L : xLn) (M : xM) (d mc ms : Nat) (av : List Value) (X : List xE) (Q : Option Value → List xE → Prop) : Prop :=
  X.length ≤ xB ∧ ∀ (I : xI) (ad : Nat → Nat) (sz : Nat), Met L.1 M.1 (xW M) (xRm d mc ms) (xPc L I ad X sz av) (xQc I ad X.length (va_A (xw I ad X) sz) Q) mc ms (va_A (xw I ad X) sz)
theorem xPc_blind (L : xLn) (I : xI) (ad : Nat → Nat) (X : List xE) (sz : Nat) (av : List Value) : FrameBlind (xPc L I ad X sz av) := fun a U g mk q => by
  obtain ⟨q0, q1, qP, qK, qD, qF⟩ := q
  exact ⟨q0, q1, qP, va_K.moved (u := U) (U := U.calling g mk a) (Vm.Alike.refl U.vm) qK, qD, qF.same (U := U.calling g mk a) rfl⟩
def xfl : List Value → List (Option Value)
  | [] => []
  | v :: t => if v.category = 2 then some v :: none :: xfl t else some v :: xfl t
theorem xfl_args (ad : Nat → Nat) : ∀ (av : List Value) (b : Nat) (r : List (Option Value)), (∀ o ∈ r, o = none) → xls ad b (xfl av ++ r) = lv_args b (av.map (xv ad))
  | [], b, r, hr => by
    simp only [xfl, List.nil_append, List.map_nil, lv_args]
    induction r generalizing b with
    | nil => rfl
    | cons o t ih =>
      cases hr o List.mem_cons_self
      rw [xls]
      exact ih (b + 1) (fun o h => hr o (List.mem_cons_of_mem _ h))
  | v :: t, b, r, hr => by
    rw [List.map_cons, lv_args, xv_cat, xfl]
    by_cases h : v.category = 2
    · rw [if_pos h, if_pos h, List.cons_append, List.cons_append, xls, xls, xfl_args ad t (b + 1 + 1) r hr]
    · rw [if_neg h, if_neg h, List.cons_append, xls, xfl_args ad t (b + 1) r hr]
theorem xfl_len (ad : Nat → Nat) : ∀ av : List Value, (lg_sl (av.map (xv ad))).length = (xfl av).length
  | [] => rfl
  | v :: t => by
    have ih := xfl_len ad t
    simp only [lg_sl, List.map_cons, List.flatMap_cons, List.length_append, xv_cat, xfl] at ih ⊢
    by_cases h : v.category = 2
    · simp [h, ih]; omega
    · simp [h, ih]; omega
def xent (n : Nat) (av : List Value) : List (Option Value) := xfl av ++ List.replicate (n - (xfl av).length) none
theorem xent_L (ad : Nat → Nat) (n : Nat) (av : List Value) (h : (xfl av).length ≤ n) : xL ((lg_sl (av.map (xv ad)) ++ List.replicate (n - (lg_sl (av.map (xv ad))).length) Slot.unset).toArray) n ad (xent n av) := by
  refine ⟨?_, ?_⟩
  · unfold xent
    rw [xfl_args ad av 0 _ (fun o h => (List.mem_replicate.mp h).2)]
    exact lv_entry (av.map (xv ad)) (by rw [xfl_len]; exact h)
  · unfold xent
    rw [List.length_append, List.length_replicate]
    omega
set_option maxHeartbeats 1000000 in
/-- a contract out of the judgement at the method's entry -/
theorem CT.of {L : xLn} {M : xM} {d mc ms : Nat} {av : List Value} {X : List xE} {Q : Option Value → List xE → Prop} (hy : plainName M.1.cls = true) (hB : X.length ≤ xB) (hn : (xfl av).length ≤ xml M)
    (h : AJ L M d mc ms Q X.length (0, 0) 0 (xent (xml M) av) [] X) : CT L M d mc ms av X Q := by
  refine ⟨hB, fun I ad sz => ?_⟩
  refine Met.ofW (cc := xcc M) (maxL := xml M) (ret := xret M) hy rfl ?_
  intro p e s m args below meth c s₁ B hml hv
  obtain ⟨rfl, hsz, hP, hK, hD0, hF⟩ := hv
  subst hsz
  have hD := hD0.self (sz := s.heap.size)
  have hts := atoms_spec (ws := xW M) B.pre
  have hown : s.vm.findClass M.1.cls = some m.cls := findClass_of_methodNamed B.named
  have hA : ∀ q : Nat, s.heap.size ≤ q → va_A (xw I ad X) s.heap.size q := fun q h => Or.inr h
  have hlocks : meth.locks = false := B.notSynchronized
  have hin : M.1.name = "<init>" → meth.name = "<init>" := fun h => ((name_of_methodNamed B.named B.method).1).trans h
  rw [lg_entry_eq]
  refine h p e _ s m _ below meth c I (va_A (xw I ad X) s.heap.size) _ ad ⟨⟨B.exec, B.bytes, B.returns, hml, hown, fun w hw => hts w (List.mem_cons_of_mem _ hw), hK, B.notSynchronized, hin, hA, Nat.le_refl _, Nat.le_refl _⟩, Nat.le_refl _, Nat.le_refl _, hF, ?_⟩ ad s.heap [] _ ⟨fun _ _ => rfl, Nat.le_refl _, hB, hP, hD, va_S.rf⟩ (xent_L ad (xml M) av hn)
  intro r X' ad' H locs pc la hQ hwf hH hrt
  obtain ⟨ha, hn0, hB', hP', hD', hS⟩ := hH
  match r, hrt with
  | none, hrt =>
    exact W.vret B.exec B.bytes (B.returns.trans hrt.1) (fun t ht hW => ⟨⟨none, X', ad', rfl, ha, hn0, hB', hwf, (fun u h => by cases h), hQ, by rw [ht]; exact hP', va_K.moved hW.alike hK, hD'⟩, hS.F ht⟩) hS.2.2 hrt.2
  | some (.int v), hrt =>
    obtain ⟨hd, ty, h1, h2⟩ := hrt
    exact W.zret B.exec B.bytes (B.returns.trans h1) h2 (fun t ht hW => ⟨⟨some (.int v), X', ad', rfl, ha, hn0, hB', hwf, (fun u h => by cases h; rfl), hQ, by rw [ht]; exact hP', va_K.moved hW.alike hK, hD'⟩, hS.F ht⟩) hS.2.2 hd
end
section
/-! ===== a row of a method against code and tables ===== -/
/-- what the classes' fields hold at first -/
def xdf : List (List Value) := [
  [.null, .int 0, .int 0, .int 0, .null, .null, .null, .int 0, .null, .null, .null, .null, .int 0, .int 0, .null],
  [.null, .null, .null, .null, .null, .int 0, .int 0, .int 0, .int 0, .int 0, .int 0, .int 0, .int 0],
  [.null, .null, .null, .null, .int 0],
  [.null, .null, .null, .int 0, .int 0, .int 0, .int 0, .int 0, .null],
  [.null, .null, .null, .null, .int 0, .int 0, .int 0, .int 0],
  [.null, .int 0],
  [.int 0, .int 0, .int 0, .int 0, .int 0, .int 0, .null, .null, .null, .int 0, .null, .null, .int 0, .null, .null, .null, .null],
  [.null, .null, .null, .null, .null, .null, .null, .null, .null],
  [.int 0, .int 0, .int 0, .int 0, .int 0, .int 0, .null, .int 0, .null, .int 0, .null, .int 0, .null, .int 0, .null, .int 0, .int 0, .long 0, .int 0, .int 0, .int 0, .int 0, .int 0, .int 0, .int 0, .null, .null, .null, .null, .null, .int 0, .int 0, .int 0, .null, .int 0, .int 0, .null]]

def xmt (t : Nat) (w : Cond) : Bool := decide (tables_1[t]? = some w)
def xmm (w : Cond) : Bool := decide (w ∈ tables_1)
/-- a field's row: class number a, field b, its kind tg, final or not -/
def xfk (own : String) (idx a b t : Nat) : Bool := match vwCl[a]? with
  | some r => Nat.blt b r.2.2 && xmt t (.fieldLink own idx (r.2.1 b).1 (r.2.1 b).2.1 (r.2.1 b).2.2.1)
  | none => false
def xisr (o : Option FieldType) : Bool := match o with
  | some (.object _) => true
  | some (.array _) => true
  | _ => false
theorem xisr_i {o : Option FieldType} (h : xisr o = true) : ∃ ty, o = some ty ∧ ((∃ n, ty = .object n) ∨ ∃ t, ty = .array t) := by
  unfold xisr at h
  split at h
  · exact ⟨_, rfl, Or.inl ⟨_, rfl⟩⟩
  · exact ⟨_, rfl, Or.inr ⟨_, rfl⟩⟩
  · cases h
def xfw (own : String) (a b tg : Nat) (v : Int32) : Bool := match vwCl[a]? with
  | some r => decide ((r.2.1 b).2.2.2 = decide (v = 1)) && (decide (v = 0) || decide ((r.2.1 b).1 = own)) && (match tg with
    | 0 => decide (parseFieldDescriptor (r.2.1 b).2.2.1 = some .int)
    | 1 => decide (parseFieldDescriptor (r.2.1 b).2.2.1 = some .boolean)
    | 2 => xisr (parseFieldDescriptor (r.2.1 b).2.2.1)
    | _ => decide (parseFieldDescriptor (r.2.1 b).2.2.1 = some .long))
  | none => false
def xswT (pc : Nat) (lo : Int) : List Int → List (Int32 × Int)
  | [] => []
  | o :: r => (Int32.ofInt lo, (pc : Int) + o) :: xswT pc (lo + 1) r
/-- is the row as the code and the tables have it -/
def xck (own : String) (ini : Bool) (cc : ByteArray) (pc : Nat) (o : xO) : Bool := match o with
  | (i, nx, tg, v, w, a, b, t, sw) => decide (decode cc pc = .ok (i, nx - pc)) && (match i with
    | .iconst n => Nat.beq nx (pc + 1) && decide (Int32.ofInt n = v)
    | .bipush n => Nat.beq nx (pc + 2) && decide ((Int8.ofInt n).toInt32 = v)
    | .sipush n => Nat.beq nx (pc + 3) && decide ((Int16.ofInt n).toInt32 = v)
    | .ldc n => Nat.beq nx (pc + 2) && (match a with
      | 0 => xmt t (.constant own n v)
      | _ => decide (own = "NeededStop$Reader") && Nat.beq (xsk.getD b 0) n)
    | .ldc_w n => Nat.beq nx (pc + 3) && xmt t (.constant own n v)
    | .ldc2_w n => Nat.beq nx (pc + 3) && xmt t (.constantLong own n w)
    | .lconst n => Nat.beq nx (pc + 1) && decide (Int64.ofNat (n : Nat) = w)
    | .iload _ => Nat.beq nx (pc + 2)
    | .aload _ => Nat.beq nx (pc + 2)
    | .istore _ => Nat.beq nx (pc + 2)
    | .iinc _ n => Nat.beq nx (pc + 3) && decide (Int32.ofInt n = v)
    | .goto off => Nat.beq nx (pc + 3) && decide ((pc : Int) + off = (tg : Int))
    | .ifCond _ off => Nat.beq nx (pc + 3) && decide ((pc : Int) + off = (tg : Int))
    | .if_icmp _ off => Nat.beq nx (pc + 3) && decide ((pc : Int) + off = (tg : Int))
    | .tableswitch df lo hi offs => decide ((pc : Int) + df = (tg : Int)) && decide (lo = 0) && decide (hi + 1 = (offs.size : Int)) && Nat.blt offs.size 100 && decide (sw.map (fun q => (q.1, (q.2 : Int))) = xswT pc 0 offs.toList)
    | .lookupswitch df ps => decide ((pc : Int) + df = (tg : Int)) && decide ((ps.toList.zip (ps.toList.drop 1)).all (fun (a, next) => a.1 < next.1) = true) && decide (sw.map (fun q => (q.1.toInt, (q.2 : Int))) = ps.toList.map (fun q => (q.1, (pc : Int) + q.2)))
    | .getfield n => Nat.beq nx (pc + 3) && (match a with
      | 100 => (match b with
        | 0 => xmt t (.fieldLink own n "java/lang/String" "value" "[B")
        | _ => xmt t (.fieldLink own n "java/lang/String" "coder" "B"))
      | _ => xfk own n a b t)
    | .putfield n => Nat.beq nx (pc + 3) && xfk own n a b t && xfw own a b tg v && (decide (v = 0) || ini)
    | .getstatic n => Nat.beq nx (pc + 3) && (match a with
      | 1 => xmt t (.fieldLink own n "NeededStop$Reader" "NUMBERS" "[I")
      | _ => xmt t (.fieldLink own n "java/lang/String" "COMPACT_STRINGS" "Z"))
    | .new n => Nat.beq nx (pc + 3) && (match vwCl[a]? with
      | some r => xmt t (.classLink own n r.1) && xmm (.instantiable r.1 r.2.2) && xmm (.initialized r.1) && Nat.beq (xdf.getD a []).length r.2.2 && (List.range r.2.2).all (fun j => match parseFieldDescriptor (r.2.1 j).2.2.1 with
        | some ty => decide (defaultValue ty = vp_V (xdf.getD a []) j)
        | none => false)
      | none => false)
    | .newarray ty => Nat.beq nx (pc + 2) && Nat.blt b 65536 && (match ty with
      | .int => Nat.beq a 0
      | .boolean => Nat.beq a 1
      | _ => false) && xmm (.arrayClass (newarray.typeOf ty))
    | .anewarray n => Nat.beq nx (pc + 3) && Nat.blt b 65536 && xmt t (.classLink own n "NeededStop$Day")
    | .invokestatic n => Nat.beq nx (pc + 3) && (match a with
      | 1 => xmt t (.methodLink own n Lib.Math.max.name) && xmm (.static Lib.Math.max.name) && xmm (.initialized "java/lang/Math") && xmm (.code Lib.Math.max.name Lib.Math.max.code 2 (some .int))
      | 2 => xmt t (.methodLink own n Lib.Math.min.name) && xmm (.static Lib.Math.min.name) && xmm (.initialized "java/lang/Math") && xmm (.code Lib.Math.min.name Lib.Math.min.code 2 (some .int))
      | 3 => xmt t (.methodLink own n arraycopyName) && xmm (.native arraycopyName) && xmm (.static arraycopyName) && xmm (.initialized "java/lang/System")
      | _ => true)
    | .invokespecial n => Nat.beq nx (pc + 3) && (match a with
      | 1 => xmt t (.methodLink own n Lib.objectInit) && xmm (.instanceMethod Lib.objectInit) && xmm (.code Lib.objectInit ⟨#[0xb1]⟩ 1 none)
      | _ => true)
    | .invokevirtual _ => Nat.beq nx (pc + 3)
    | _ => Nat.beq nx (pc + 1))
def xMk (M : xM) : Bool := M.2.2.2.2.all fun l => l.all fun q => xck (xown M) (decide (M.1.name = "<init>")) (xcc M) q.1 q.2
def xwd (w : Cond) : Bool := decide (w ∈ lw_tbl) && goodWord w
/-- what the tables must have of a callee: 0 an instance's method, 1 a static one, 2 a constructor -/
def xcB (M : xM) (kind n : Nat) : Bool := xwd (.initialized M.1.cls) && xwd (.code M.1 (xcc M) (xml M) (xret M)) && decide (M.1.cls ≠ "java/lang/invoke/MethodHandle" ∧ M.1.cls ≠ "java/lang/invoke/VarHandle") && decide ((parseMethodDescriptor M.1.desc).map (fun d => d.parameters.length) = some n) && Nat.ble (xml M) 31 && (match kind with
  | 0 => xwd (.instanceMethod M.1) && xwd (.selects M.1.cls M.1 M.1)
  | 1 => xwd (.static M.1)
  | _ => xwd (.instanceMethod M.1) && decide (M.1.name = "<init>") && decide (xret M = none))
end
section
/-! the rows of the methods of J6 -/
def mJ6_bitCount_0f7a4 : xM := (yJ6_bitCount_0f7a4, cJ6_bitCount_0f7a4, 1, (some .int), [
  [(0, (.iload_n 0, 1, 0, 0, 0, 0, 0, 0, [])), (1, (.iload_n 0, 2, 0, 0, 0, 0, 0, 0, [])), (2, (.iconst 1, 3, 0, 1, 0, 0, 0, 0, [])), (3, (.iushr, 4, 0, 0, 0, 0, 0, 0, [])), (4, (.ldc_w 265, 7, 0, 1431655765, 0, 0, 0, 597, [])), (7, (.iand, 8, 0, 0, 0, 0, 0, 0, [])), (8, (.isub, 9, 0, 0, 0, 0, 0, 0, [])), (9, (.istore_n 0, 10, 0, 0, 0, 0, 0, 0, [])), (10, (.iload_n 0, 11, 0, 0, 0, 0, 0, 0, [])), (11, (.ldc_w 266, 14, 0, 858993459, 0, 0, 0, 598, [])), (14, (.iand, 15, 0, 0, 0, 0, 0, 0, [])), (15, (.iload_n 0, 16, 0, 0, 0, 0, 0, 0, []))],
  [(16, (.iconst 2, 17, 0, 2, 0, 0, 0, 0, [])), (17, (.iushr, 18, 0, 0, 0, 0, 0, 0, [])), (18, (.ldc_w 266, 21, 0, 858993459, 0, 0, 0, 598, [])), (21, (.iand, 22, 0, 0, 0, 0, 0, 0, [])), (22, (.iadd, 23, 0, 0, 0, 0, 0, 0, [])), (23, (.istore_n 0, 24, 0, 0, 0, 0, 0, 0, [])), (24, (.iload_n 0, 25, 0, 0, 0, 0, 0, 0, [])), (25, (.iload_n 0, 26, 0, 0, 0, 0, 0, 0, [])), (26, (.iconst 4, 27, 0, 4, 0, 0, 0, 0, [])), (27, (.iushr, 28, 0, 0, 0, 0, 0, 0, [])), (28, (.iadd, 29, 0, 0, 0, 0, 0, 0, [])), (29, (.ldc_w 267, 32, 0, 252645135, 0, 0, 0, 599, []))],
  [(32, (.iand, 33, 0, 0, 0, 0, 0, 0, [])), (33, (.istore_n 0, 34, 0, 0, 0, 0, 0, 0, [])), (34, (.iload_n 0, 35, 0, 0, 0, 0, 0, 0, [])), (35, (.iload_n 0, 36, 0, 0, 0, 0, 0, 0, [])), (36, (.bipush 8, 38, 0, 8, 0, 0, 0, 0, [])), (38, (.iushr, 39, 0, 0, 0, 0, 0, 0, [])), (39, (.iadd, 40, 0, 0, 0, 0, 0, 0, [])), (40, (.istore_n 0, 41, 0, 0, 0, 0, 0, 0, [])), (41, (.iload_n 0, 42, 0, 0, 0, 0, 0, 0, [])), (42, (.iload_n 0, 43, 0, 0, 0, 0, 0, 0, [])), (43, (.bipush 16, 45, 0, 16, 0, 0, 0, 0, [])), (45, (.iushr, 46, 0, 0, 0, 0, 0, 0, [])), (46, (.iadd, 47, 0, 0, 0, 0, 0, 0, [])), (47, (.istore_n 0, 48, 0, 0, 0, 0, 0, 0, []))],
  [(48, (.iload_n 0, 49, 0, 0, 0, 0, 0, 0, [])), (49, (.bipush 63, 51, 0, 63, 0, 0, 0, 0, [])), (51, (.iand, 52, 0, 0, 0, 0, 0, 0, [])), (52, (.ireturn, 53, 0, 0, 0, 0, 0, 0, []))]])
set_option maxRecDepth 100000 in
theorem kJ6_bitCount_0f7a4 : xMk mJ6_bitCount_0f7a4 = true := by decide +kernel
set_option maxRecDepth 100000 in
theorem bJ6_bitCount_0f7a4 : xcB mJ6_bitCount_0f7a4 1 1 = true := by decide +kernel
end
section
/-! the rows of the methods of J7 -/
def mJ7_fill_53178 : xM := (yJ7_fill_53178, cJ7_fill_53178, 4, none, [
  [(0, (.iconst 0, 1, 0, 0, 0, 0, 0, 0, [])), (1, (.istore_n 2, 2, 0, 0, 0, 0, 0, 0, [])), (2, (.aload_n 0, 3, 0, 0, 0, 0, 0, 0, [])), (3, (.arraylength, 4, 0, 0, 0, 0, 0, 0, [])), (4, (.istore_n 3, 5, 0, 0, 0, 0, 0, 0, [])), (5, (.iload_n 2, 6, 0, 0, 0, 0, 0, 0, [])), (6, (.iload_n 3, 7, 0, 0, 0, 0, 0, 0, [])), (7, (.if_icmp .ge 13, 10, 20, 0, 0, 0, 0, 0, [])), (10, (.aload_n 0, 11, 0, 0, 0, 0, 0, 0, [])), (11, (.iload_n 2, 12, 0, 0, 0, 0, 0, 0, [])), (12, (.iload_n 1, 13, 0, 0, 0, 0, 0, 0, [])), (13, (.iastore, 14, 0, 0, 0, 0, 0, 0, [])), (14, (.iinc 2 1, 17, 0, 1, 0, 0, 0, 0, []))],
  [(17, (.goto (-12), 20, 5, 0, 0, 0, 0, 0, [])), (20, (.return_, 21, 0, 0, 0, 0, 0, 0, []))]])
set_option maxRecDepth 100000 in
theorem kJ7_fill_53178 : xMk mJ7_fill_53178 = true := by decide +kernel
set_option maxRecDepth 100000 in
theorem bJ7_fill_53178 : xcB mJ7_fill_53178 1 2 = true := by decide +kernel
end
section
/-! the rows of the methods of J0 -/
def mJ0_length_8abf5 : xM := (yJ0_length_8abf5, cJ0_length_8abf5, 1, (some .int), [
  [(0, (.aload_n 0, 1, 0, 0, 0, 0, 0, 0, [])), (1, (.getfield 9, 4, 0, 0, 0, 100, 0, 1216, [])), (4, (.arraylength, 5, 0, 0, 0, 0, 0, 0, [])), (5, (.aload_n 0, 6, 0, 0, 0, 0, 0, 0, [])), (6, (.invokevirtual 335, 9, 0, 0, 0, 0, 0, 454, [])), (9, (.ishr, 10, 0, 0, 0, 0, 0, 0, [])), (10, (.ireturn, 11, 0, 0, 0, 0, 0, 0, []))]])
set_option maxRecDepth 100000 in
theorem kJ0_length_8abf5 : xMk mJ0_length_8abf5 = true := by decide +kernel
set_option maxRecDepth 100000 in
theorem bJ0_length_8abf5 : xcB mJ0_length_8abf5 0 0 = true := by decide +kernel
def mJ0_charAt_5068e : xM := (yJ0_charAt_5068e, cJ0_charAt_5068e, 2, (some .char), [
  [(0, (.aload_n 0, 1, 0, 0, 0, 0, 0, 0, [])), (1, (.invokevirtual 492, 4, 0, 0, 0, 0, 0, 465, [])), (4, (.ifCond .eq 12, 7, 16, 0, 0, 0, 0, 0, [])), (7, (.aload_n 0, 8, 0, 0, 0, 0, 0, 0, [])), (8, (.getfield 9, 11, 0, 0, 0, 100, 0, 1216, [])), (11, (.iload_n 1, 12, 0, 0, 0, 0, 0, 0, [])), (12, (.invokestatic 495, 15, 0, 0, 0, 0, 0, 469, [])), (15, (.ireturn, 16, 0, 0, 0, 0, 0, 0, []))],
  [(16, (.aload_n 0, 17, 0, 0, 0, 0, 0, 0, [])), (17, (.getfield 9, 20, 0, 0, 0, 100, 0, 1216, [])), (20, (.iload_n 1, 21, 0, 0, 0, 0, 0, 0, [])), (21, (.invokestatic 498, 24, 0, 0, 0, 0, 0, 480, [])), (24, (.ireturn, 25, 0, 0, 0, 0, 0, 0, []))]])
set_option maxRecDepth 100000 in
theorem kJ0_charAt_5068e : xMk mJ0_charAt_5068e = true := by decide +kernel
set_option maxRecDepth 100000 in
theorem bJ0_charAt_5068e : xcB mJ0_charAt_5068e 0 1 = true := by decide +kernel
def mJ0_coder_7d493 : xM := (yJ0_coder_7d493, cJ0_coder_7d493, 1, (some .byte), [
  [(0, (.getstatic 38, 3, 0, 0, 0, 2, 0, 458, [])), (3, (.ifCond .eq 10, 6, 13, 0, 0, 0, 0, 0, [])), (6, (.aload_n 0, 7, 0, 0, 0, 0, 0, 0, [])), (7, (.getfield 15, 10, 0, 0, 0, 100, 1, 1217, [])), (10, (.goto 4, 13, 14, 0, 0, 0, 0, 0, [])), (13, (.iconst 1, 14, 0, 1, 0, 0, 0, 0, [])), (14, (.ireturn, 15, 0, 0, 0, 0, 0, 0, []))]])
set_option maxRecDepth 100000 in
theorem kJ0_coder_7d493 : xMk mJ0_coder_7d493 = true := by decide +kernel
set_option maxRecDepth 100000 in
theorem bJ0_coder_7d493 : xcB mJ0_coder_7d493 0 0 = true := by decide +kernel
def mJ0_isLatin1_aae02 : xM := (yJ0_isLatin1_aae02, cJ0_isLatin1_aae02, 1, (some .boolean), [
  [(0, (.getstatic 38, 3, 0, 0, 0, 2, 0, 458, [])), (3, (.ifCond .eq 14, 6, 17, 0, 0, 0, 0, 0, [])), (6, (.aload_n 0, 7, 0, 0, 0, 0, 0, 0, [])), (7, (.getfield 15, 10, 0, 0, 0, 100, 1, 1217, [])), (10, (.ifCond .ne 7, 13, 17, 0, 0, 0, 0, 0, [])), (13, (.iconst 1, 14, 0, 1, 0, 0, 0, 0, [])), (14, (.goto 4, 17, 18, 0, 0, 0, 0, 0, []))],
  [(17, (.iconst 0, 18, 0, 0, 0, 0, 0, 0, [])), (18, (.ireturn, 19, 0, 0, 0, 0, 0, 0, []))]])
set_option maxRecDepth 100000 in
theorem kJ0_isLatin1_aae02 : xMk mJ0_isLatin1_aae02 = true := by decide +kernel
set_option maxRecDepth 100000 in
theorem bJ0_isLatin1_aae02 : xcB mJ0_isLatin1_aae02 0 0 = true := by decide +kernel
end
section
/-! the rows of the methods of J1 -/
def mJ1_charAt_3b067 : xM := (yJ1_charAt_3b067, cJ1_charAt_3b067, 2, (some .char), [
  [(0, (.iload_n 1, 1, 0, 0, 0, 0, 0, 0, [])), (1, (.aload_n 0, 2, 0, 0, 0, 0, 0, 0, [])), (2, (.arraylength, 3, 0, 0, 0, 0, 0, 0, [])), (3, (.invokestatic 9, 6, 0, 0, 0, 0, 0, 472, [])), (6, (.aload_n 0, 7, 0, 0, 0, 0, 0, 0, [])), (7, (.iload_n 1, 8, 0, 0, 0, 0, 0, 0, [])), (8, (.baload, 9, 0, 0, 0, 0, 0, 0, [])), (9, (.sipush 255, 12, 0, 255, 0, 0, 0, 0, [])), (12, (.iand, 13, 0, 0, 0, 0, 0, 0, [])), (13, (.i2c, 14, 0, 0, 0, 0, 0, 0, [])), (14, (.ireturn, 15, 0, 0, 0, 0, 0, 0, []))]])
set_option maxRecDepth 100000 in
theorem kJ1_charAt_3b067 : xMk mJ1_charAt_3b067 = true := by decide +kernel
set_option maxRecDepth 100000 in
theorem bJ1_charAt_3b067 : xcB mJ1_charAt_3b067 1 2 = true := by decide +kernel
end
section
/-! the rows of the methods of X2 -/
def mX2_init : xM := (yX2_init, cX2_init, 1, none, [
  [(0, (.aload_n 0, 1, 0, 0, 0, 0, 0, 0, [])), (1, (.invokespecial 3, 4, 0, 0, 0, 1, 0, 179, [])), (4, (.aload_n 0, 5, 0, 0, 0, 0, 0, 0, [])), (5, (.bipush 26, 7, 0, 26, 0, 0, 0, 0, [])), (7, (.newarray .int, 9, 0, 0, 0, 0, 26, 0, [])), (9, (.putfield 9, 12, 2, 1, 0, 2, 0, 180, [])), (12, (.aload_n 0, 13, 0, 0, 0, 0, 0, 0, [])), (13, (.bipush 26, 15, 0, 26, 0, 0, 0, 0, [])), (15, (.newarray .int, 17, 0, 0, 0, 0, 26, 0, []))],
  [(17, (.putfield 15, 20, 2, 1, 0, 2, 1, 182, [])), (20, (.aload_n 0, 21, 0, 0, 0, 0, 0, 0, [])), (21, (.bipush 26, 23, 0, 26, 0, 0, 0, 0, [])), (23, (.newarray .int, 25, 0, 0, 0, 0, 26, 0, [])), (25, (.putfield 18, 28, 2, 1, 0, 2, 2, 184, [])), (28, (.aload_n 0, 29, 0, 0, 0, 0, 0, 0, [])), (29, (.bipush 26, 31, 0, 26, 0, 0, 0, 0, [])), (31, (.newarray .int, 33, 0, 0, 0, 0, 26, 0, []))],
  [(33, (.putfield 21, 36, 2, 1, 0, 2, 3, 186, [])), (36, (.return_, 37, 0, 0, 0, 0, 0, 0, []))]])
set_option maxRecDepth 100000 in
theorem kX2_init : xMk mX2_init = true := by decide +kernel
set_option maxRecDepth 100000 in
theorem bX2_init : xcB mX2_init 2 0 = true := by decide +kernel
def mX2_add : xM := (yX2_add, cX2_add, 5, none, [
  [(0, (.aload_n 0, 1, 0, 0, 0, 0, 0, 0, [])), (1, (.getfield 24, 4, 0, 0, 0, 2, 4, 188, [])), (4, (.bipush 26, 6, 0, 26, 0, 0, 0, 0, [])), (6, (.if_icmp .ge 54, 9, 60, 0, 0, 0, 0, 0, [])), (9, (.aload_n 0, 10, 0, 0, 0, 0, 0, 0, [])), (10, (.getfield 9, 13, 0, 0, 0, 2, 0, 180, [])), (13, (.aload_n 0, 14, 0, 0, 0, 0, 0, 0, [])), (14, (.getfield 24, 17, 0, 0, 0, 2, 4, 188, []))],
  [(17, (.iload_n 1, 18, 0, 0, 0, 0, 0, 0, [])), (18, (.iastore, 19, 0, 0, 0, 0, 0, 0, [])), (19, (.aload_n 0, 20, 0, 0, 0, 0, 0, 0, [])), (20, (.getfield 15, 23, 0, 0, 0, 2, 1, 182, [])), (23, (.aload_n 0, 24, 0, 0, 0, 0, 0, 0, [])), (24, (.getfield 24, 27, 0, 0, 0, 2, 4, 188, [])), (27, (.iload_n 2, 28, 0, 0, 0, 0, 0, 0, [])), (28, (.iastore, 29, 0, 0, 0, 0, 0, 0, [])), (29, (.aload_n 0, 30, 0, 0, 0, 0, 0, 0, [])), (30, (.getfield 18, 33, 0, 0, 0, 2, 2, 184, []))],
  [(33, (.aload_n 0, 34, 0, 0, 0, 0, 0, 0, [])), (34, (.getfield 24, 37, 0, 0, 0, 2, 4, 188, [])), (37, (.iload_n 3, 38, 0, 0, 0, 0, 0, 0, [])), (38, (.iastore, 39, 0, 0, 0, 0, 0, 0, [])), (39, (.aload_n 0, 40, 0, 0, 0, 0, 0, 0, [])), (40, (.getfield 21, 43, 0, 0, 0, 2, 3, 186, [])), (43, (.aload_n 0, 44, 0, 0, 0, 0, 0, 0, [])), (44, (.getfield 24, 47, 0, 0, 0, 2, 4, 188, [])), (47, (.iload 4, 49, 0, 0, 0, 0, 0, 0, []))],
  [(49, (.iastore, 50, 0, 0, 0, 0, 0, 0, [])), (50, (.aload_n 0, 51, 0, 0, 0, 0, 0, 0, [])), (51, (.dup, 52, 0, 0, 0, 0, 0, 0, [])), (52, (.getfield 24, 55, 0, 0, 0, 2, 4, 188, [])), (55, (.iconst 1, 56, 0, 1, 0, 0, 0, 0, [])), (56, (.iadd, 57, 0, 0, 0, 0, 0, 0, [])), (57, (.putfield 24, 60, 0, 0, 0, 2, 4, 188, [])), (60, (.return_, 61, 0, 0, 0, 0, 0, 0, []))]])
set_option maxRecDepth 100000 in
theorem kX2_add : xMk mX2_add = true := by decide +kernel
set_option maxRecDepth 100000 in
theorem bX2_add : xcB mX2_add 0 4 = true := by decide +kernel
def mX2_copyFrom : xM := (yX2_copyFrom, cX2_copyFrom, 2, none, [
  [(0, (.aload_n 0, 1, 0, 0, 0, 0, 0, 0, [])), (1, (.aload_n 1, 2, 0, 0, 0, 0, 0, 0, [])), (2, (.getfield 24, 5, 0, 0, 0, 2, 4, 188, [])), (5, (.putfield 24, 8, 0, 0, 0, 2, 4, 188, [])), (8, (.aload_n 1, 9, 0, 0, 0, 0, 0, 0, [])), (9, (.getfield 9, 12, 0, 0, 0, 2, 0, 180, [])), (12, (.iconst 0, 13, 0, 0, 0, 0, 0, 0, [])), (13, (.aload_n 0, 14, 0, 0, 0, 0, 0, 0, [])), (14, (.getfield 9, 17, 0, 0, 0, 2, 0, 180, []))],
  [(17, (.iconst 0, 18, 0, 0, 0, 0, 0, 0, [])), (18, (.bipush 26, 20, 0, 26, 0, 0, 0, 0, [])), (20, (.invokestatic 28, 23, 0, 0, 0, 3, 0, 705, [])), (23, (.aload_n 1, 24, 0, 0, 0, 0, 0, 0, [])), (24, (.getfield 15, 27, 0, 0, 0, 2, 1, 182, [])), (27, (.iconst 0, 28, 0, 0, 0, 0, 0, 0, [])), (28, (.aload_n 0, 29, 0, 0, 0, 0, 0, 0, [])), (29, (.getfield 15, 32, 0, 0, 0, 2, 1, 182, []))],
  [(32, (.iconst 0, 33, 0, 0, 0, 0, 0, 0, [])), (33, (.bipush 26, 35, 0, 26, 0, 0, 0, 0, [])), (35, (.invokestatic 28, 38, 0, 0, 0, 3, 0, 705, [])), (38, (.aload_n 1, 39, 0, 0, 0, 0, 0, 0, [])), (39, (.getfield 18, 42, 0, 0, 0, 2, 2, 184, [])), (42, (.iconst 0, 43, 0, 0, 0, 0, 0, 0, [])), (43, (.aload_n 0, 44, 0, 0, 0, 0, 0, 0, [])), (44, (.getfield 18, 47, 0, 0, 0, 2, 2, 184, [])), (47, (.iconst 0, 48, 0, 0, 0, 0, 0, 0, []))],
  [(48, (.bipush 26, 50, 0, 26, 0, 0, 0, 0, [])), (50, (.invokestatic 28, 53, 0, 0, 0, 3, 0, 705, [])), (53, (.aload_n 1, 54, 0, 0, 0, 0, 0, 0, [])), (54, (.getfield 21, 57, 0, 0, 0, 2, 3, 186, [])), (57, (.iconst 0, 58, 0, 0, 0, 0, 0, 0, [])), (58, (.aload_n 0, 59, 0, 0, 0, 0, 0, 0, [])), (59, (.getfield 21, 62, 0, 0, 0, 2, 3, 186, [])), (62, (.iconst 0, 63, 0, 0, 0, 0, 0, 0, [])), (63, (.bipush 26, 65, 0, 26, 0, 0, 0, 0, []))],
  [(65, (.invokestatic 28, 68, 0, 0, 0, 3, 0, 705, [])), (68, (.return_, 69, 0, 0, 0, 0, 0, 0, []))]])
set_option maxRecDepth 100000 in
theorem kX2_copyFrom : xMk mX2_copyFrom = true := by decide +kernel
set_option maxRecDepth 100000 in
theorem bX2_copyFrom : xcB mX2_copyFrom 0 1 = true := by decide +kernel
def mX2_ofTram : xM := (yX2_ofTram, cX2_ofTram, 4, (some .int), [
  [(0, (.iconst 0, 1, 0, 0, 0, 0, 0, 0, [])), (1, (.istore_n 2, 2, 0, 0, 0, 0, 0, 0, [])), (2, (.iconst 0, 3, 0, 0, 0, 0, 0, 0, [])), (3, (.istore_n 3, 4, 0, 0, 0, 0, 0, 0, [])), (4, (.iload_n 3, 5, 0, 0, 0, 0, 0, 0, [])), (5, (.aload_n 0, 6, 0, 0, 0, 0, 0, 0, [])), (6, (.getfield 24, 9, 0, 0, 0, 2, 4, 188, [])), (9, (.if_icmp .ge 22, 12, 31, 0, 0, 0, 0, 0, [])), (12, (.aload_n 0, 13, 0, 0, 0, 0, 0, 0, [])), (13, (.getfield 9, 16, 0, 0, 0, 2, 0, 180, []))],
  [(16, (.iload_n 3, 17, 0, 0, 0, 0, 0, 0, [])), (17, (.iaload, 18, 0, 0, 0, 0, 0, 0, [])), (18, (.iload_n 1, 19, 0, 0, 0, 0, 0, 0, [])), (19, (.if_icmp .ne 6, 22, 25, 0, 0, 0, 0, 0, [])), (22, (.iinc 2 1, 25, 0, 1, 0, 0, 0, 0, [])), (25, (.iinc 3 1, 28, 0, 1, 0, 0, 0, 0, [])), (28, (.goto (-24), 31, 4, 0, 0, 0, 0, 0, [])), (31, (.iload_n 2, 32, 0, 0, 0, 0, 0, 0, []))],
  [(32, (.ireturn, 33, 0, 0, 0, 0, 0, 0, []))]])
set_option maxRecDepth 100000 in
theorem kX2_ofTram : xMk mX2_ofTram = true := by decide +kernel
set_option maxRecDepth 100000 in
theorem bX2_ofTram : xcB mX2_ofTram 0 1 = true := by decide +kernel
def mX2_atPlace : xM := (yX2_atPlace, cX2_atPlace, 4, (some .int), [
  [(0, (.iconst 0, 1, 0, 0, 0, 0, 0, 0, [])), (1, (.istore_n 2, 2, 0, 0, 0, 0, 0, 0, [])), (2, (.iconst 0, 3, 0, 0, 0, 0, 0, 0, [])), (3, (.istore_n 3, 4, 0, 0, 0, 0, 0, 0, [])), (4, (.iload_n 3, 5, 0, 0, 0, 0, 0, 0, [])), (5, (.aload_n 0, 6, 0, 0, 0, 0, 0, 0, [])), (6, (.getfield 24, 9, 0, 0, 0, 2, 4, 188, [])), (9, (.if_icmp .ge 22, 12, 31, 0, 0, 0, 0, 0, [])), (12, (.aload_n 0, 13, 0, 0, 0, 0, 0, 0, [])), (13, (.getfield 15, 16, 0, 0, 0, 2, 1, 182, []))],
  [(16, (.iload_n 3, 17, 0, 0, 0, 0, 0, 0, [])), (17, (.iaload, 18, 0, 0, 0, 0, 0, 0, [])), (18, (.iload_n 1, 19, 0, 0, 0, 0, 0, 0, [])), (19, (.if_icmp .ne 6, 22, 25, 0, 0, 0, 0, 0, [])), (22, (.iinc 2 1, 25, 0, 1, 0, 0, 0, 0, [])), (25, (.iinc 3 1, 28, 0, 1, 0, 0, 0, 0, [])), (28, (.goto (-24), 31, 4, 0, 0, 0, 0, 0, [])), (31, (.iload_n 2, 32, 0, 0, 0, 0, 0, 0, []))],
  [(32, (.ireturn, 33, 0, 0, 0, 0, 0, 0, []))]])
set_option maxRecDepth 100000 in
theorem kX2_atPlace : xMk mX2_atPlace = true := by decide +kernel
set_option maxRecDepth 100000 in
theorem bX2_atPlace : xcB mX2_atPlace 0 1 = true := by decide +kernel
def mX2_has : xM := (yX2_has, cX2_has, 4, (some .boolean), [
  [(0, (.iconst 0, 1, 0, 0, 0, 0, 0, 0, [])), (1, (.istore_n 3, 2, 0, 0, 0, 0, 0, 0, [])), (2, (.iload_n 3, 3, 0, 0, 0, 0, 0, 0, [])), (3, (.aload_n 0, 4, 0, 0, 0, 0, 0, 0, [])), (4, (.getfield 24, 7, 0, 0, 0, 2, 4, 188, [])), (7, (.if_icmp .ge 31, 10, 38, 0, 0, 0, 0, 0, [])), (10, (.aload_n 0, 11, 0, 0, 0, 0, 0, 0, [])), (11, (.getfield 15, 14, 0, 0, 0, 2, 1, 182, [])), (14, (.iload_n 3, 15, 0, 0, 0, 0, 0, 0, [])), (15, (.iaload, 16, 0, 0, 0, 0, 0, 0, []))],
  [(16, (.iload_n 1, 17, 0, 0, 0, 0, 0, 0, [])), (17, (.if_icmp .ne 15, 20, 32, 0, 0, 0, 0, 0, [])), (20, (.aload_n 0, 21, 0, 0, 0, 0, 0, 0, [])), (21, (.getfield 18, 24, 0, 0, 0, 2, 2, 184, [])), (24, (.iload_n 3, 25, 0, 0, 0, 0, 0, 0, [])), (25, (.iaload, 26, 0, 0, 0, 0, 0, 0, [])), (26, (.iload_n 2, 27, 0, 0, 0, 0, 0, 0, [])), (27, (.if_icmp .ne 5, 30, 32, 0, 0, 0, 0, 0, [])), (30, (.iconst 1, 31, 0, 1, 0, 0, 0, 0, [])), (31, (.ireturn, 32, 0, 0, 0, 0, 0, 0, []))],
  [(32, (.iinc 3 1, 35, 0, 1, 0, 0, 0, 0, [])), (35, (.goto (-33), 38, 2, 0, 0, 0, 0, 0, [])), (38, (.iconst 0, 39, 0, 0, 0, 0, 0, 0, [])), (39, (.ireturn, 40, 0, 0, 0, 0, 0, 0, []))]])
set_option maxRecDepth 100000 in
theorem kX2_has : xMk mX2_has = true := by decide +kernel
set_option maxRecDepth 100000 in
theorem bX2_has : xcB mX2_has 0 2 = true := by decide +kernel
end
section
/-! the rows of the methods of X5 -/
def mX5_init : xM := (yX5_init, cX5_init, 1, none, [
  [(0, (.aload_n 0, 1, 0, 0, 0, 0, 0, 0, [])), (1, (.invokespecial 3, 4, 0, 0, 0, 1, 0, 31, [])), (4, (.aload_n 0, 5, 0, 0, 0, 0, 0, 0, [])), (5, (.sipush 200, 8, 0, 200, 0, 0, 0, 0, [])), (8, (.newarray .int, 10, 0, 0, 0, 0, 200, 0, [])), (10, (.putfield 9, 13, 2, 1, 0, 5, 0, 32, [])), (13, (.return_, 14, 0, 0, 0, 0, 0, 0, []))]])
set_option maxRecDepth 100000 in
theorem kX5_init : xMk mX5_init = true := by decide +kernel
set_option maxRecDepth 100000 in
theorem bX5_init : xcB mX5_init 2 0 = true := by decide +kernel
def mX5_append : xM := (yX5_append, cX5_append, 2, none, [
  [(0, (.aload_n 0, 1, 0, 0, 0, 0, 0, 0, [])), (1, (.getfield 15, 4, 0, 0, 0, 5, 1, 33, [])), (4, (.sipush 200, 7, 0, 200, 0, 0, 0, 0, [])), (7, (.if_icmp .ge 23, 10, 30, 0, 0, 0, 0, 0, [])), (10, (.aload_n 0, 11, 0, 0, 0, 0, 0, 0, [])), (11, (.getfield 9, 14, 0, 0, 0, 5, 0, 32, [])), (14, (.aload_n 0, 15, 0, 0, 0, 0, 0, 0, [])), (15, (.getfield 15, 18, 0, 0, 0, 5, 1, 33, []))],
  [(18, (.iload_n 1, 19, 0, 0, 0, 0, 0, 0, [])), (19, (.iastore, 20, 0, 0, 0, 0, 0, 0, [])), (20, (.aload_n 0, 21, 0, 0, 0, 0, 0, 0, [])), (21, (.dup, 22, 0, 0, 0, 0, 0, 0, [])), (22, (.getfield 15, 25, 0, 0, 0, 5, 1, 33, [])), (25, (.iconst 1, 26, 0, 1, 0, 0, 0, 0, [])), (26, (.iadd, 27, 0, 0, 0, 0, 0, 0, [])), (27, (.putfield 15, 30, 0, 0, 0, 5, 1, 33, [])), (30, (.return_, 31, 0, 0, 0, 0, 0, 0, []))]])
set_option maxRecDepth 100000 in
theorem kX5_append : xMk mX5_append = true := by decide +kernel
set_option maxRecDepth 100000 in
theorem bX5_append : xcB mX5_append 0 1 = true := by decide +kernel
def mX5_signAt : xM := (yX5_signAt, cX5_signAt, 2, (some .int), [
  [(0, (.iload_n 1, 1, 0, 0, 0, 0, 0, 0, [])), (1, (.ifCond .lt 27, 4, 28, 0, 0, 0, 0, 0, [])), (4, (.iload_n 1, 5, 0, 0, 0, 0, 0, 0, [])), (5, (.aload_n 0, 6, 0, 0, 0, 0, 0, 0, [])), (6, (.getfield 15, 9, 0, 0, 0, 5, 1, 33, [])), (9, (.if_icmp .ge 19, 12, 28, 0, 0, 0, 0, 0, [])), (12, (.iload_n 1, 13, 0, 0, 0, 0, 0, 0, [])), (13, (.sipush 200, 16, 0, 200, 0, 0, 0, 0, []))],
  [(16, (.if_icmp .ge 12, 19, 28, 0, 0, 0, 0, 0, [])), (19, (.aload_n 0, 20, 0, 0, 0, 0, 0, 0, [])), (20, (.getfield 9, 23, 0, 0, 0, 5, 0, 32, [])), (23, (.iload_n 1, 24, 0, 0, 0, 0, 0, 0, [])), (24, (.iaload, 25, 0, 0, 0, 0, 0, 0, [])), (25, (.goto 4, 28, 29, 0, 0, 0, 0, 0, [])), (28, (.iconst (-1), 29, 0, -1, 0, 0, 0, 0, [])), (29, (.ireturn, 30, 0, 0, 0, 0, 0, 0, []))]])
set_option maxRecDepth 100000 in
theorem kX5_signAt : xMk mX5_signAt = true := by decide +kernel
set_option maxRecDepth 100000 in
theorem bX5_signAt : xcB mX5_signAt 0 1 = true := by decide +kernel
def mX5_spells : xM := (yX5_spells, cX5_spells, 5, (some .boolean), [
  [(0, (.iload_n 3, 1, 0, 0, 0, 0, 0, 0, [])), (1, (.iload_n 2, 2, 0, 0, 0, 0, 0, 0, [])), (2, (.isub, 3, 0, 0, 0, 0, 0, 0, [])), (3, (.aload_n 1, 4, 0, 0, 0, 0, 0, 0, [])), (4, (.invokevirtual 19, 7, 0, 0, 0, 0, 0, 450, [])), (7, (.if_icmp .eq 5, 10, 12, 0, 0, 0, 0, 0, [])), (10, (.iconst 0, 11, 0, 0, 0, 0, 0, 0, [])), (11, (.ireturn, 12, 0, 0, 0, 0, 0, 0, [])), (12, (.iconst 0, 13, 0, 0, 0, 0, 0, 0, [])), (13, (.istore 4, 15, 0, 0, 0, 0, 0, 0, [])), (15, (.iload 4, 17, 0, 0, 0, 0, 0, 0, []))],
  [(17, (.aload_n 1, 18, 0, 0, 0, 0, 0, 0, [])), (18, (.invokevirtual 19, 21, 0, 0, 0, 0, 0, 450, [])), (21, (.if_icmp .ge 28, 24, 49, 0, 0, 0, 0, 0, [])), (24, (.aload_n 0, 25, 0, 0, 0, 0, 0, 0, [])), (25, (.iload_n 2, 26, 0, 0, 0, 0, 0, 0, [])), (26, (.iload 4, 28, 0, 0, 0, 0, 0, 0, [])), (28, (.iadd, 29, 0, 0, 0, 0, 0, 0, [])), (29, (.invokevirtual 25, 32, 0, 0, 0, 0, 0, 460, []))],
  [(32, (.aload_n 1, 33, 0, 0, 0, 0, 0, 0, [])), (33, (.iload 4, 35, 0, 0, 0, 0, 0, 0, [])), (35, (.invokevirtual 29, 38, 0, 0, 0, 0, 0, 461, [])), (38, (.if_icmp .eq 5, 41, 43, 0, 0, 0, 0, 0, [])), (41, (.iconst 0, 42, 0, 0, 0, 0, 0, 0, [])), (42, (.ireturn, 43, 0, 0, 0, 0, 0, 0, [])), (43, (.iinc 4 1, 46, 0, 1, 0, 0, 0, 0, [])), (46, (.goto (-31), 49, 15, 0, 0, 0, 0, 0, []))],
  [(49, (.iconst 1, 50, 0, 1, 0, 0, 0, 0, [])), (50, (.ireturn, 51, 0, 0, 0, 0, 0, 0, []))]])
set_option maxRecDepth 100000 in
theorem kX5_spells : xMk mX5_spells = true := by decide +kernel
set_option maxRecDepth 100000 in
theorem bX5_spells : xcB mX5_spells 0 3 = true := by decide +kernel
end
section
/-! the rows of the methods of X6 -/
def mX6_init : xM := (yX6_init, cX6_init, 1, none, [
  [(0, (.aload_n 0, 1, 0, 0, 0, 0, 0, 0, [])), (1, (.invokespecial 3, 4, 0, 0, 0, 1, 0, 47, [])), (4, (.aload_n 0, 5, 0, 0, 0, 0, 0, 0, [])), (5, (.bipush 6, 7, 0, 6, 0, 0, 0, 0, [])), (7, (.putfield 9, 10, 0, 0, 0, 6, 0, 48, [])), (10, (.aload_n 0, 11, 0, 0, 0, 0, 0, 0, [])), (11, (.bipush 7, 13, 0, 7, 0, 0, 0, 0, [])), (13, (.putfield 15, 16, 0, 0, 0, 6, 1, 51, []))],
  [(16, (.aload_n 0, 17, 0, 0, 0, 0, 0, 0, [])), (17, (.bipush 10, 19, 0, 10, 0, 0, 0, 0, [])), (19, (.putfield 18, 22, 0, 0, 0, 6, 2, 55, [])), (22, (.aload_n 0, 23, 0, 0, 0, 0, 0, 0, [])), (23, (.iconst 4, 24, 0, 4, 0, 0, 0, 0, [])), (24, (.putfield 21, 27, 0, 0, 0, 6, 3, 59, [])), (27, (.aload_n 0, 28, 0, 0, 0, 0, 0, 0, [])), (28, (.iconst 1, 29, 0, 1, 0, 0, 0, 0, [])), (29, (.putfield 24, 32, 0, 0, 0, 6, 4, 63, []))],
  [(32, (.aload_n 0, 33, 0, 0, 0, 0, 0, 0, [])), (33, (.iconst 2, 34, 0, 2, 0, 0, 0, 0, [])), (34, (.newarray .int, 36, 0, 0, 0, 0, 2, 0, [])), (36, (.putfield 27, 39, 2, 1, 0, 6, 6, 69, [])), (39, (.aload_n 0, 40, 0, 0, 0, 0, 0, 0, [])), (40, (.iconst 2, 41, 0, 2, 0, 0, 0, 0, [])), (41, (.newarray .int, 43, 0, 0, 0, 0, 2, 0, [])), (43, (.putfield 31, 46, 2, 1, 0, 6, 7, 71, [])), (46, (.aload_n 0, 47, 0, 0, 0, 0, 0, 0, [])), (47, (.iconst 2, 48, 0, 2, 0, 0, 0, 0, []))],
  [(48, (.newarray .int, 50, 0, 0, 0, 0, 2, 0, [])), (50, (.putfield 34, 53, 2, 1, 0, 6, 8, 73, [])), (53, (.aload_n 0, 54, 0, 0, 0, 0, 0, 0, [])), (54, (.bipush 8, 56, 0, 8, 0, 0, 0, 0, [])), (56, (.newarray .int, 58, 0, 0, 0, 0, 8, 0, [])), (58, (.putfield 37, 61, 2, 1, 0, 6, 10, 77, [])), (61, (.aload_n 0, 62, 0, 0, 0, 0, 0, 0, [])), (62, (.bipush 8, 64, 0, 8, 0, 0, 0, 0, []))],
  [(64, (.newarray .int, 66, 0, 0, 0, 0, 8, 0, [])), (66, (.putfield 40, 69, 2, 1, 0, 6, 11, 79, [])), (69, (.aload_n 0, 70, 0, 0, 0, 0, 0, 0, [])), (70, (.bipush 26, 72, 0, 26, 0, 0, 0, 0, [])), (72, (.newarray .int, 74, 0, 0, 0, 0, 26, 0, [])), (74, (.putfield 43, 77, 2, 1, 0, 6, 13, 86, [])), (77, (.aload_n 0, 78, 0, 0, 0, 0, 0, 0, [])), (78, (.bipush 26, 80, 0, 26, 0, 0, 0, 0, []))],
  [(80, (.newarray .int, 82, 0, 0, 0, 0, 26, 0, [])), (82, (.putfield 46, 85, 2, 1, 0, 6, 14, 89, [])), (85, (.aload_n 0, 86, 0, 0, 0, 0, 0, 0, [])), (86, (.bipush 26, 88, 0, 26, 0, 0, 0, 0, [])), (88, (.newarray .int, 90, 0, 0, 0, 0, 26, 0, [])), (90, (.putfield 49, 93, 2, 1, 0, 6, 15, 92, [])), (93, (.aload_n 0, 94, 0, 0, 0, 0, 0, 0, [])), (94, (.bipush 60, 96, 0, 60, 0, 0, 0, 0, []))],
  [(96, (.newarray .int, 98, 0, 0, 0, 0, 60, 0, [])), (98, (.putfield 52, 101, 2, 1, 0, 6, 16, 95, [])), (101, (.return_, 102, 0, 0, 0, 0, 0, 0, []))]])
set_option maxRecDepth 100000 in
theorem kX6_init : xMk mX6_init = true := by decide +kernel
set_option maxRecDepth 100000 in
theorem bX6_init : xcB mX6_init 2 0 = true := by decide +kernel
def mX6_copyFrom : xM := (yX6_copyFrom, cX6_copyFrom, 2, none, [
  [(0, (.aload_n 0, 1, 0, 0, 0, 0, 0, 0, [])), (1, (.aload_n 1, 2, 0, 0, 0, 0, 0, 0, [])), (2, (.getfield 9, 5, 0, 0, 0, 6, 0, 48, [])), (5, (.putfield 9, 8, 0, 0, 0, 6, 0, 48, [])), (8, (.aload_n 0, 9, 0, 0, 0, 0, 0, 0, [])), (9, (.aload_n 1, 10, 0, 0, 0, 0, 0, 0, [])), (10, (.getfield 15, 13, 0, 0, 0, 6, 1, 51, [])), (13, (.putfield 15, 16, 0, 0, 0, 6, 1, 51, []))],
  [(16, (.aload_n 0, 17, 0, 0, 0, 0, 0, 0, [])), (17, (.aload_n 1, 18, 0, 0, 0, 0, 0, 0, [])), (18, (.getfield 18, 21, 0, 0, 0, 6, 2, 55, [])), (21, (.putfield 18, 24, 0, 0, 0, 6, 2, 55, [])), (24, (.aload_n 0, 25, 0, 0, 0, 0, 0, 0, [])), (25, (.aload_n 1, 26, 0, 0, 0, 0, 0, 0, [])), (26, (.getfield 21, 29, 0, 0, 0, 6, 3, 59, [])), (29, (.putfield 21, 32, 0, 0, 0, 6, 3, 59, []))],
  [(32, (.aload_n 0, 33, 0, 0, 0, 0, 0, 0, [])), (33, (.aload_n 1, 34, 0, 0, 0, 0, 0, 0, [])), (34, (.getfield 24, 37, 0, 0, 0, 6, 4, 63, [])), (37, (.putfield 24, 40, 0, 0, 0, 6, 4, 63, [])), (40, (.aload_n 0, 41, 0, 0, 0, 0, 0, 0, [])), (41, (.aload_n 1, 42, 0, 0, 0, 0, 0, 0, [])), (42, (.getfield 55, 45, 0, 0, 0, 6, 5, 67, [])), (45, (.putfield 55, 48, 0, 0, 0, 6, 5, 67, []))],
  [(48, (.aload_n 1, 49, 0, 0, 0, 0, 0, 0, [])), (49, (.getfield 27, 52, 0, 0, 0, 6, 6, 69, [])), (52, (.iconst 0, 53, 0, 0, 0, 0, 0, 0, [])), (53, (.aload_n 0, 54, 0, 0, 0, 0, 0, 0, [])), (54, (.getfield 27, 57, 0, 0, 0, 6, 6, 69, [])), (57, (.iconst 0, 58, 0, 0, 0, 0, 0, 0, [])), (58, (.iconst 2, 59, 0, 2, 0, 0, 0, 0, [])), (59, (.invokestatic 58, 62, 0, 0, 0, 3, 0, 416, [])), (62, (.aload_n 1, 63, 0, 0, 0, 0, 0, 0, [])), (63, (.getfield 31, 66, 0, 0, 0, 6, 7, 71, []))],
  [(66, (.iconst 0, 67, 0, 0, 0, 0, 0, 0, [])), (67, (.aload_n 0, 68, 0, 0, 0, 0, 0, 0, [])), (68, (.getfield 31, 71, 0, 0, 0, 6, 7, 71, [])), (71, (.iconst 0, 72, 0, 0, 0, 0, 0, 0, [])), (72, (.iconst 2, 73, 0, 2, 0, 0, 0, 0, [])), (73, (.invokestatic 58, 76, 0, 0, 0, 3, 0, 416, [])), (76, (.aload_n 1, 77, 0, 0, 0, 0, 0, 0, [])), (77, (.getfield 34, 80, 0, 0, 0, 6, 8, 73, []))],
  [(80, (.iconst 0, 81, 0, 0, 0, 0, 0, 0, [])), (81, (.aload_n 0, 82, 0, 0, 0, 0, 0, 0, [])), (82, (.getfield 34, 85, 0, 0, 0, 6, 8, 73, [])), (85, (.iconst 0, 86, 0, 0, 0, 0, 0, 0, [])), (86, (.iconst 2, 87, 0, 2, 0, 0, 0, 0, [])), (87, (.invokestatic 58, 90, 0, 0, 0, 3, 0, 416, [])), (90, (.aload_n 0, 91, 0, 0, 0, 0, 0, 0, [])), (91, (.aload_n 1, 92, 0, 0, 0, 0, 0, 0, [])), (92, (.getfield 64, 95, 0, 0, 0, 6, 9, 75, [])), (95, (.putfield 64, 98, 0, 0, 0, 6, 9, 75, []))],
  [(98, (.aload_n 1, 99, 0, 0, 0, 0, 0, 0, [])), (99, (.getfield 37, 102, 0, 0, 0, 6, 10, 77, [])), (102, (.iconst 0, 103, 0, 0, 0, 0, 0, 0, [])), (103, (.aload_n 0, 104, 0, 0, 0, 0, 0, 0, [])), (104, (.getfield 37, 107, 0, 0, 0, 6, 10, 77, [])), (107, (.iconst 0, 108, 0, 0, 0, 0, 0, 0, [])), (108, (.bipush 8, 110, 0, 8, 0, 0, 0, 0, [])), (110, (.invokestatic 58, 113, 0, 0, 0, 3, 0, 416, []))],
  [(113, (.aload_n 1, 114, 0, 0, 0, 0, 0, 0, [])), (114, (.getfield 40, 117, 0, 0, 0, 6, 11, 79, [])), (117, (.iconst 0, 118, 0, 0, 0, 0, 0, 0, [])), (118, (.aload_n 0, 119, 0, 0, 0, 0, 0, 0, [])), (119, (.getfield 40, 122, 0, 0, 0, 6, 11, 79, [])), (122, (.iconst 0, 123, 0, 0, 0, 0, 0, 0, [])), (123, (.bipush 8, 125, 0, 8, 0, 0, 0, 0, [])), (125, (.invokestatic 58, 128, 0, 0, 0, 3, 0, 416, []))],
  [(128, (.aload_n 0, 129, 0, 0, 0, 0, 0, 0, [])), (129, (.aload_n 1, 130, 0, 0, 0, 0, 0, 0, [])), (130, (.getfield 67, 133, 0, 0, 0, 6, 12, 82, [])), (133, (.putfield 67, 136, 0, 0, 0, 6, 12, 82, [])), (136, (.aload_n 1, 137, 0, 0, 0, 0, 0, 0, [])), (137, (.getfield 43, 140, 0, 0, 0, 6, 13, 86, [])), (140, (.iconst 0, 141, 0, 0, 0, 0, 0, 0, [])), (141, (.aload_n 0, 142, 0, 0, 0, 0, 0, 0, [])), (142, (.getfield 43, 145, 0, 0, 0, 6, 13, 86, []))],
  [(145, (.iconst 0, 146, 0, 0, 0, 0, 0, 0, [])), (146, (.bipush 26, 148, 0, 26, 0, 0, 0, 0, [])), (148, (.invokestatic 58, 151, 0, 0, 0, 3, 0, 416, [])), (151, (.aload_n 1, 152, 0, 0, 0, 0, 0, 0, [])), (152, (.getfield 46, 155, 0, 0, 0, 6, 14, 89, [])), (155, (.iconst 0, 156, 0, 0, 0, 0, 0, 0, [])), (156, (.aload_n 0, 157, 0, 0, 0, 0, 0, 0, [])), (157, (.getfield 46, 160, 0, 0, 0, 6, 14, 89, []))],
  [(160, (.iconst 0, 161, 0, 0, 0, 0, 0, 0, [])), (161, (.bipush 26, 163, 0, 26, 0, 0, 0, 0, [])), (163, (.invokestatic 58, 166, 0, 0, 0, 3, 0, 416, [])), (166, (.aload_n 1, 167, 0, 0, 0, 0, 0, 0, [])), (167, (.getfield 49, 170, 0, 0, 0, 6, 15, 92, [])), (170, (.iconst 0, 171, 0, 0, 0, 0, 0, 0, [])), (171, (.aload_n 0, 172, 0, 0, 0, 0, 0, 0, [])), (172, (.getfield 49, 175, 0, 0, 0, 6, 15, 92, [])), (175, (.iconst 0, 176, 0, 0, 0, 0, 0, 0, []))],
  [(176, (.bipush 26, 178, 0, 26, 0, 0, 0, 0, [])), (178, (.invokestatic 58, 181, 0, 0, 0, 3, 0, 416, [])), (181, (.aload_n 1, 182, 0, 0, 0, 0, 0, 0, [])), (182, (.getfield 52, 185, 0, 0, 0, 6, 16, 95, [])), (185, (.iconst 0, 186, 0, 0, 0, 0, 0, 0, [])), (186, (.aload_n 0, 187, 0, 0, 0, 0, 0, 0, [])), (187, (.getfield 52, 190, 0, 0, 0, 6, 16, 95, [])), (190, (.iconst 0, 191, 0, 0, 0, 0, 0, 0, [])), (191, (.bipush 60, 193, 0, 60, 0, 0, 0, 0, []))],
  [(193, (.invokestatic 58, 196, 0, 0, 0, 3, 0, 416, [])), (196, (.return_, 197, 0, 0, 0, 0, 0, 0, []))]])
set_option maxRecDepth 100000 in
theorem kX6_copyFrom : xMk mX6_copyFrom = true := by decide +kernel
set_option maxRecDepth 100000 in
theorem bX6_copyFrom : xcB mX6_copyFrom 0 1 = true := by decide +kernel
def mX6_isPlace : xM := (yX6_isPlace, cX6_isPlace, 2, (some .boolean), [
  [(0, (.iload_n 1, 1, 0, 0, 0, 0, 0, 0, [])), (1, (.ifCond .lt 21, 4, 22, 0, 0, 0, 0, 0, [])), (4, (.iload_n 1, 5, 0, 0, 0, 0, 0, 0, [])), (5, (.aload_n 0, 6, 0, 0, 0, 0, 0, 0, [])), (6, (.getfield 9, 9, 0, 0, 0, 6, 0, 48, [])), (9, (.if_icmp .ge 13, 12, 22, 0, 0, 0, 0, 0, [])), (12, (.iload_n 1, 13, 0, 0, 0, 0, 0, 0, [])), (13, (.bipush 12, 15, 0, 12, 0, 0, 0, 0, [])), (15, (.if_icmp .ge 7, 18, 22, 0, 0, 0, 0, 0, []))],
  [(18, (.iconst 1, 19, 0, 1, 0, 0, 0, 0, [])), (19, (.goto 4, 22, 23, 0, 0, 0, 0, 0, [])), (22, (.iconst 0, 23, 0, 0, 0, 0, 0, 0, [])), (23, (.ireturn, 24, 0, 0, 0, 0, 0, 0, []))]])
set_option maxRecDepth 100000 in
theorem kX6_isPlace : xMk mX6_isPlace = true := by decide +kernel
set_option maxRecDepth 100000 in
theorem bX6_isPlace : xcB mX6_isPlace 0 1 = true := by decide +kernel
def mX6_isTram : xM := (yX6_isTram, cX6_isTram, 2, (some .boolean), [
  [(0, (.iload_n 1, 1, 0, 0, 0, 0, 0, 0, [])), (1, (.ifCond .lt 24, 4, 25, 0, 0, 0, 0, 0, [])), (4, (.iload_n 1, 5, 0, 0, 0, 0, 0, 0, [])), (5, (.iconst 2, 6, 0, 2, 0, 0, 0, 0, [])), (6, (.if_icmp .ge 19, 9, 25, 0, 0, 0, 0, 0, [])), (9, (.aload_n 0, 10, 0, 0, 0, 0, 0, 0, [])), (10, (.getfield 55, 13, 0, 0, 0, 6, 5, 67, [])), (13, (.iload_n 1, 14, 0, 0, 0, 0, 0, 0, [])), (14, (.ishr, 15, 0, 0, 0, 0, 0, 0, [])), (15, (.iconst 1, 16, 0, 1, 0, 0, 0, 0, []))],
  [(16, (.iand, 17, 0, 0, 0, 0, 0, 0, [])), (17, (.iconst 1, 18, 0, 1, 0, 0, 0, 0, [])), (18, (.if_icmp .ne 7, 21, 25, 0, 0, 0, 0, 0, [])), (21, (.iconst 1, 22, 0, 1, 0, 0, 0, 0, [])), (22, (.goto 4, 25, 26, 0, 0, 0, 0, 0, [])), (25, (.iconst 0, 26, 0, 0, 0, 0, 0, 0, [])), (26, (.ireturn, 27, 0, 0, 0, 0, 0, 0, []))]])
set_option maxRecDepth 100000 in
theorem kX6_isTram : xMk mX6_isTram = true := by decide +kernel
set_option maxRecDepth 100000 in
theorem bX6_isTram : xcB mX6_isTram 0 1 = true := by decide +kernel
def mX6_isPerson : xM := (yX6_isPerson, cX6_isPerson, 2, (some .boolean), [
  [(0, (.iload_n 1, 1, 0, 0, 0, 0, 0, 0, [])), (1, (.ifCond .lt 25, 4, 26, 0, 0, 0, 0, 0, [])), (4, (.iload_n 1, 5, 0, 0, 0, 0, 0, 0, [])), (5, (.bipush 8, 7, 0, 8, 0, 0, 0, 0, [])), (7, (.if_icmp .ge 19, 10, 26, 0, 0, 0, 0, 0, [])), (10, (.aload_n 0, 11, 0, 0, 0, 0, 0, 0, [])), (11, (.getfield 64, 14, 0, 0, 0, 6, 9, 75, [])), (14, (.iload_n 1, 15, 0, 0, 0, 0, 0, 0, [])), (15, (.ishr, 16, 0, 0, 0, 0, 0, 0, []))],
  [(16, (.iconst 1, 17, 0, 1, 0, 0, 0, 0, [])), (17, (.iand, 18, 0, 0, 0, 0, 0, 0, [])), (18, (.iconst 1, 19, 0, 1, 0, 0, 0, 0, [])), (19, (.if_icmp .ne 7, 22, 26, 0, 0, 0, 0, 0, [])), (22, (.iconst 1, 23, 0, 1, 0, 0, 0, 0, [])), (23, (.goto 4, 26, 27, 0, 0, 0, 0, 0, [])), (26, (.iconst 0, 27, 0, 0, 0, 0, 0, 0, [])), (27, (.ireturn, 28, 0, 0, 0, 0, 0, 0, []))]])
set_option maxRecDepth 100000 in
theorem kX6_isPerson : xMk mX6_isPerson = true := by decide +kernel
set_option maxRecDepth 100000 in
theorem bX6_isPerson : xcB mX6_isPerson 0 1 = true := by decide +kernel
def mX6_layRail : xM := (yX6_layRail, cX6_layRail, 2, none, [
  [(0, (.aload_n 0, 1, 0, 0, 0, 0, 0, 0, [])), (1, (.iload_n 1, 2, 0, 0, 0, 0, 0, 0, [])), (2, (.putfield 9, 5, 0, 0, 0, 6, 0, 48, [])), (5, (.aload_n 0, 6, 0, 0, 0, 0, 0, 0, [])), (6, (.iconst 0, 7, 0, 0, 0, 0, 0, 0, [])), (7, (.putfield 55, 10, 0, 0, 0, 6, 5, 67, [])), (10, (.aload_n 0, 11, 0, 0, 0, 0, 0, 0, [])), (11, (.iconst 0, 12, 0, 0, 0, 0, 0, 0, [])), (12, (.putfield 64, 15, 0, 0, 0, 6, 9, 75, [])), (15, (.aload_n 0, 16, 0, 0, 0, 0, 0, 0, []))],
  [(16, (.invokevirtual 70, 19, 0, 0, 0, 0, 0, 549, [])), (19, (.return_, 20, 0, 0, 0, 0, 0, 0, []))]])
set_option maxRecDepth 100000 in
theorem kX6_layRail : xMk mX6_layRail = true := by decide +kernel
set_option maxRecDepth 100000 in
theorem bX6_layRail : xcB mX6_layRail 0 1 = true := by decide +kernel
def mX6_putTram : xM := (yX6_putTram, cX6_putTram, 5, none, [
  [(0, (.iload_n 1, 1, 0, 0, 0, 0, 0, 0, [])), (1, (.ifCond .lt 42, 4, 43, 0, 0, 0, 0, 0, [])), (4, (.iload_n 1, 5, 0, 0, 0, 0, 0, 0, [])), (5, (.iconst 2, 6, 0, 2, 0, 0, 0, 0, [])), (6, (.if_icmp .ge 37, 9, 43, 0, 0, 0, 0, 0, [])), (9, (.aload_n 0, 10, 0, 0, 0, 0, 0, 0, [])), (10, (.dup, 11, 0, 0, 0, 0, 0, 0, [])), (11, (.getfield 55, 14, 0, 0, 0, 6, 5, 67, [])), (14, (.iconst 1, 15, 0, 1, 0, 0, 0, 0, [])), (15, (.iload_n 1, 16, 0, 0, 0, 0, 0, 0, []))],
  [(16, (.ishl, 17, 0, 0, 0, 0, 0, 0, [])), (17, (.ior, 18, 0, 0, 0, 0, 0, 0, [])), (18, (.putfield 55, 21, 0, 0, 0, 6, 5, 67, [])), (21, (.aload_n 0, 22, 0, 0, 0, 0, 0, 0, [])), (22, (.getfield 27, 25, 0, 0, 0, 6, 6, 69, [])), (25, (.iload_n 1, 26, 0, 0, 0, 0, 0, 0, [])), (26, (.iload_n 2, 27, 0, 0, 0, 0, 0, 0, [])), (27, (.iastore, 28, 0, 0, 0, 0, 0, 0, [])), (28, (.aload_n 0, 29, 0, 0, 0, 0, 0, 0, [])), (29, (.getfield 31, 32, 0, 0, 0, 6, 7, 71, []))],
  [(32, (.iload_n 1, 33, 0, 0, 0, 0, 0, 0, [])), (33, (.iload_n 3, 34, 0, 0, 0, 0, 0, 0, [])), (34, (.iastore, 35, 0, 0, 0, 0, 0, 0, [])), (35, (.aload_n 0, 36, 0, 0, 0, 0, 0, 0, [])), (36, (.getfield 34, 39, 0, 0, 0, 6, 8, 73, [])), (39, (.iload_n 1, 40, 0, 0, 0, 0, 0, 0, [])), (40, (.iload 4, 42, 0, 0, 0, 0, 0, 0, [])), (42, (.iastore, 43, 0, 0, 0, 0, 0, 0, [])), (43, (.return_, 44, 0, 0, 0, 0, 0, 0, []))]])
set_option maxRecDepth 100000 in
theorem kX6_putTram : xMk mX6_putTram = true := by decide +kernel
set_option maxRecDepth 100000 in
theorem bX6_putTram : xcB mX6_putTram 0 4 = true := by decide +kernel
def mX6_putPerson : xM := (yX6_putPerson, cX6_putPerson, 4, none, [
  [(0, (.iload_n 1, 1, 0, 0, 0, 0, 0, 0, [])), (1, (.ifCond .lt 35, 4, 36, 0, 0, 0, 0, 0, [])), (4, (.iload_n 1, 5, 0, 0, 0, 0, 0, 0, [])), (5, (.bipush 8, 7, 0, 8, 0, 0, 0, 0, [])), (7, (.if_icmp .ge 29, 10, 36, 0, 0, 0, 0, 0, [])), (10, (.aload_n 0, 11, 0, 0, 0, 0, 0, 0, [])), (11, (.dup, 12, 0, 0, 0, 0, 0, 0, [])), (12, (.getfield 64, 15, 0, 0, 0, 6, 9, 75, [])), (15, (.iconst 1, 16, 0, 1, 0, 0, 0, 0, []))],
  [(16, (.iload_n 1, 17, 0, 0, 0, 0, 0, 0, [])), (17, (.ishl, 18, 0, 0, 0, 0, 0, 0, [])), (18, (.ior, 19, 0, 0, 0, 0, 0, 0, [])), (19, (.putfield 64, 22, 0, 0, 0, 6, 9, 75, [])), (22, (.aload_n 0, 23, 0, 0, 0, 0, 0, 0, [])), (23, (.getfield 37, 26, 0, 0, 0, 6, 10, 77, [])), (26, (.iload_n 1, 27, 0, 0, 0, 0, 0, 0, [])), (27, (.iload_n 2, 28, 0, 0, 0, 0, 0, 0, [])), (28, (.iastore, 29, 0, 0, 0, 0, 0, 0, [])), (29, (.aload_n 0, 30, 0, 0, 0, 0, 0, 0, [])), (30, (.getfield 40, 33, 0, 0, 0, 6, 11, 79, []))],
  [(33, (.iload_n 1, 34, 0, 0, 0, 0, 0, 0, [])), (34, (.iload_n 3, 35, 0, 0, 0, 0, 0, 0, [])), (35, (.iastore, 36, 0, 0, 0, 0, 0, 0, [])), (36, (.return_, 37, 0, 0, 0, 0, 0, 0, []))]])
set_option maxRecDepth 100000 in
theorem kX6_putPerson : xMk mX6_putPerson = true := by decide +kernel
set_option maxRecDepth 100000 in
theorem bX6_putPerson : xcB mX6_putPerson 0 3 = true := by decide +kernel
def mX6_addMood : xM := (yX6_addMood, cX6_addMood, 4, none, [
  [(0, (.aload_n 0, 1, 0, 0, 0, 0, 0, 0, [])), (1, (.getfield 67, 4, 0, 0, 0, 6, 12, 82, [])), (4, (.bipush 26, 6, 0, 26, 0, 0, 0, 0, [])), (6, (.if_icmp .ge 68, 9, 74, 0, 0, 0, 0, 0, [])), (9, (.iload_n 3, 10, 0, 0, 0, 0, 0, 0, [])), (10, (.ifCond .lt 64, 13, 74, 0, 0, 0, 0, 0, [])), (13, (.iload_n 3, 14, 0, 0, 0, 0, 0, 0, [])), (14, (.bipush 60, 16, 0, 60, 0, 0, 0, 0, []))],
  [(16, (.if_icmp .ge 58, 19, 74, 0, 0, 0, 0, 0, [])), (19, (.aload_n 0, 20, 0, 0, 0, 0, 0, 0, [])), (20, (.getfield 43, 23, 0, 0, 0, 6, 13, 86, [])), (23, (.aload_n 0, 24, 0, 0, 0, 0, 0, 0, [])), (24, (.getfield 67, 27, 0, 0, 0, 6, 12, 82, [])), (27, (.iload_n 1, 28, 0, 0, 0, 0, 0, 0, [])), (28, (.iastore, 29, 0, 0, 0, 0, 0, 0, [])), (29, (.aload_n 0, 30, 0, 0, 0, 0, 0, 0, [])), (30, (.getfield 46, 33, 0, 0, 0, 6, 14, 89, []))],
  [(33, (.aload_n 0, 34, 0, 0, 0, 0, 0, 0, [])), (34, (.getfield 67, 37, 0, 0, 0, 6, 12, 82, [])), (37, (.iload_n 2, 38, 0, 0, 0, 0, 0, 0, [])), (38, (.iastore, 39, 0, 0, 0, 0, 0, 0, [])), (39, (.aload_n 0, 40, 0, 0, 0, 0, 0, 0, [])), (40, (.getfield 49, 43, 0, 0, 0, 6, 15, 92, [])), (43, (.aload_n 0, 44, 0, 0, 0, 0, 0, 0, [])), (44, (.getfield 67, 47, 0, 0, 0, 6, 12, 82, [])), (47, (.iload_n 3, 48, 0, 0, 0, 0, 0, 0, []))],
  [(48, (.iastore, 49, 0, 0, 0, 0, 0, 0, [])), (49, (.aload_n 0, 50, 0, 0, 0, 0, 0, 0, [])), (50, (.getfield 52, 53, 0, 0, 0, 6, 16, 95, [])), (53, (.iload_n 3, 54, 0, 0, 0, 0, 0, 0, [])), (54, (.dup2, 55, 0, 0, 0, 0, 0, 0, [])), (55, (.iaload, 56, 0, 0, 0, 0, 0, 0, [])), (56, (.iconst 1, 57, 0, 1, 0, 0, 0, 0, [])), (57, (.aload_n 0, 58, 0, 0, 0, 0, 0, 0, [])), (58, (.getfield 67, 61, 0, 0, 0, 6, 12, 82, [])), (61, (.ishl, 62, 0, 0, 0, 0, 0, 0, [])), (62, (.ior, 63, 0, 0, 0, 0, 0, 0, [])), (63, (.iastore, 64, 0, 0, 0, 0, 0, 0, []))],
  [(64, (.aload_n 0, 65, 0, 0, 0, 0, 0, 0, [])), (65, (.dup, 66, 0, 0, 0, 0, 0, 0, [])), (66, (.getfield 67, 69, 0, 0, 0, 6, 12, 82, [])), (69, (.iconst 1, 70, 0, 1, 0, 0, 0, 0, [])), (70, (.iadd, 71, 0, 0, 0, 0, 0, 0, [])), (71, (.putfield 67, 74, 0, 0, 0, 6, 12, 82, [])), (74, (.return_, 75, 0, 0, 0, 0, 0, 0, []))]])
set_option maxRecDepth 100000 in
theorem kX6_addMood : xMk mX6_addMood = true := by decide +kernel
set_option maxRecDepth 100000 in
theorem bX6_addMood : xcB mX6_addMood 0 3 = true := by decide +kernel
def mX6_dropLastMood : xM := (yX6_dropLastMood, cX6_dropLastMood, 1, none, [
  [(0, (.aload_n 0, 1, 0, 0, 0, 0, 0, 0, [])), (1, (.getfield 67, 4, 0, 0, 0, 6, 12, 82, [])), (4, (.ifCond .le 38, 7, 42, 0, 0, 0, 0, 0, [])), (7, (.aload_n 0, 8, 0, 0, 0, 0, 0, 0, [])), (8, (.dup, 9, 0, 0, 0, 0, 0, 0, [])), (9, (.getfield 67, 12, 0, 0, 0, 6, 12, 82, [])), (12, (.iconst 1, 13, 0, 1, 0, 0, 0, 0, [])), (13, (.isub, 14, 0, 0, 0, 0, 0, 0, [])), (14, (.putfield 67, 17, 0, 0, 0, 6, 12, 82, []))],
  [(17, (.aload_n 0, 18, 0, 0, 0, 0, 0, 0, [])), (18, (.getfield 52, 21, 0, 0, 0, 6, 16, 95, [])), (21, (.aload_n 0, 22, 0, 0, 0, 0, 0, 0, [])), (22, (.getfield 49, 25, 0, 0, 0, 6, 15, 92, [])), (25, (.aload_n 0, 26, 0, 0, 0, 0, 0, 0, [])), (26, (.getfield 67, 29, 0, 0, 0, 6, 12, 82, [])), (29, (.iaload, 30, 0, 0, 0, 0, 0, 0, [])), (30, (.dup2, 31, 0, 0, 0, 0, 0, 0, [])), (31, (.iaload, 32, 0, 0, 0, 0, 0, 0, []))],
  [(32, (.iconst 1, 33, 0, 1, 0, 0, 0, 0, [])), (33, (.aload_n 0, 34, 0, 0, 0, 0, 0, 0, [])), (34, (.getfield 67, 37, 0, 0, 0, 6, 12, 82, [])), (37, (.ishl, 38, 0, 0, 0, 0, 0, 0, [])), (38, (.iconst (-1), 39, 0, -1, 0, 0, 0, 0, [])), (39, (.ixor, 40, 0, 0, 0, 0, 0, 0, [])), (40, (.iand, 41, 0, 0, 0, 0, 0, 0, [])), (41, (.iastore, 42, 0, 0, 0, 0, 0, 0, [])), (42, (.return_, 43, 0, 0, 0, 0, 0, 0, []))]])
set_option maxRecDepth 100000 in
theorem kX6_dropLastMood : xMk mX6_dropLastMood = true := by decide +kernel
set_option maxRecDepth 100000 in
theorem bX6_dropLastMood : xcB mX6_dropLastMood 0 0 = true := by decide +kernel
def mX6_clearMoods : xM := (yX6_clearMoods, cX6_clearMoods, 1, none, [
  [(0, (.aload_n 0, 1, 0, 0, 0, 0, 0, 0, [])), (1, (.iconst 0, 2, 0, 0, 0, 0, 0, 0, [])), (2, (.putfield 67, 5, 0, 0, 0, 6, 12, 82, [])), (5, (.aload_n 0, 6, 0, 0, 0, 0, 0, 0, [])), (6, (.getfield 52, 9, 0, 0, 0, 6, 16, 95, [])), (9, (.iconst 0, 10, 0, 0, 0, 0, 0, 0, [])), (10, (.invokestatic 73, 13, 0, 0, 0, 0, 0, 553, [])), (13, (.return_, 14, 0, 0, 0, 0, 0, 0, []))]])
set_option maxRecDepth 100000 in
theorem kX6_clearMoods : xMk mX6_clearMoods = true := by decide +kernel
set_option maxRecDepth 100000 in
theorem bX6_clearMoods : xcB mX6_clearMoods 0 0 = true := by decide +kernel
def mX6_whoseMood : xM := (yX6_whoseMood, cX6_whoseMood, 2, (some .int), [
  [(0, (.iload_n 1, 1, 0, 0, 0, 0, 0, 0, [])), (1, (.ifCond .lt 20, 4, 21, 0, 0, 0, 0, 0, [])), (4, (.iload_n 1, 5, 0, 0, 0, 0, 0, 0, [])), (5, (.aload_n 0, 6, 0, 0, 0, 0, 0, 0, [])), (6, (.getfield 67, 9, 0, 0, 0, 6, 12, 82, [])), (9, (.if_icmp .ge 12, 12, 21, 0, 0, 0, 0, 0, [])), (12, (.aload_n 0, 13, 0, 0, 0, 0, 0, 0, [])), (13, (.getfield 43, 16, 0, 0, 0, 6, 13, 86, []))],
  [(16, (.iload_n 1, 17, 0, 0, 0, 0, 0, 0, [])), (17, (.iaload, 18, 0, 0, 0, 0, 0, 0, [])), (18, (.goto 4, 21, 22, 0, 0, 0, 0, 0, [])), (21, (.iconst (-1), 22, 0, -1, 0, 0, 0, 0, [])), (22, (.ireturn, 23, 0, 0, 0, 0, 0, 0, []))]])
set_option maxRecDepth 100000 in
theorem kX6_whoseMood : xMk mX6_whoseMood = true := by decide +kernel
set_option maxRecDepth 100000 in
theorem bX6_whoseMood : xcB mX6_whoseMood 0 1 = true := by decide +kernel
def mX6_leastKind : xM := (yX6_leastKind, cX6_leastKind, 2, (some .int), [
  [(0, (.iconst 0, 1, 0, 0, 0, 0, 0, 0, [])), (1, (.istore_n 1, 2, 0, 0, 0, 0, 0, 0, [])), (2, (.iload_n 1, 3, 0, 0, 0, 0, 0, 0, [])), (3, (.iconst 3, 4, 0, 3, 0, 0, 0, 0, [])), (4, (.if_icmp .ge 23, 7, 27, 0, 0, 0, 0, 0, [])), (7, (.aload_n 0, 8, 0, 0, 0, 0, 0, 0, [])), (8, (.getfield 15, 11, 0, 0, 0, 6, 1, 51, [])), (11, (.iload_n 1, 12, 0, 0, 0, 0, 0, 0, [])), (12, (.ishr, 13, 0, 0, 0, 0, 0, 0, [])), (13, (.iconst 1, 14, 0, 1, 0, 0, 0, 0, [])), (14, (.iand, 15, 0, 0, 0, 0, 0, 0, [])), (15, (.iconst 1, 16, 0, 1, 0, 0, 0, 0, []))],
  [(16, (.if_icmp .ne 5, 19, 21, 0, 0, 0, 0, 0, [])), (19, (.iload_n 1, 20, 0, 0, 0, 0, 0, 0, [])), (20, (.ireturn, 21, 0, 0, 0, 0, 0, 0, [])), (21, (.iinc 1 1, 24, 0, 1, 0, 0, 0, 0, [])), (24, (.goto (-22), 27, 2, 0, 0, 0, 0, 0, [])), (27, (.iconst 0, 28, 0, 0, 0, 0, 0, 0, [])), (28, (.ireturn, 29, 0, 0, 0, 0, 0, 0, []))]])
set_option maxRecDepth 100000 in
theorem kX6_leastKind : xMk mX6_leastKind = true := by decide +kernel
set_option maxRecDepth 100000 in
theorem bX6_leastKind : xcB mX6_leastKind 0 0 = true := by decide +kernel
def mX6_toldPerson : xM := (yX6_toldPerson, cX6_toldPerson, 5, (some .int), [
  [(0, (.aload_n 0, 1, 0, 0, 0, 0, 0, 0, [])), (1, (.getfield 64, 4, 0, 0, 0, 6, 9, 75, [])), (4, (.invokestatic 79, 7, 0, 0, 0, 0, 0, 594, [])), (7, (.istore_n 2, 8, 0, 0, 0, 0, 0, 0, [])), (8, (.iload_n 2, 9, 0, 0, 0, 0, 0, 0, [])), (9, (.ifCond .ne 7, 12, 16, 0, 0, 0, 0, 0, [])), (12, (.iconst 0, 13, 0, 0, 0, 0, 0, 0, [])), (13, (.goto 6, 16, 19, 0, 0, 0, 0, 0, []))],
  [(16, (.iload_n 1, 17, 0, 0, 0, 0, 0, 0, [])), (17, (.iload_n 2, 18, 0, 0, 0, 0, 0, 0, [])), (18, (.irem, 19, 0, 0, 0, 0, 0, 0, [])), (19, (.istore_n 3, 20, 0, 0, 0, 0, 0, 0, [])), (20, (.iconst 0, 21, 0, 0, 0, 0, 0, 0, [])), (21, (.istore 4, 23, 0, 0, 0, 0, 0, 0, [])), (23, (.iload 4, 25, 0, 0, 0, 0, 0, 0, [])), (25, (.bipush 8, 27, 0, 8, 0, 0, 0, 0, [])), (27, (.if_icmp .ge 28, 30, 55, 0, 0, 0, 0, 0, [])), (30, (.aload_n 0, 31, 0, 0, 0, 0, 0, 0, [])), (31, (.iload 4, 33, 0, 0, 0, 0, 0, 0, []))],
  [(33, (.invokevirtual 85, 36, 0, 0, 0, 0, 0, 600, [])), (36, (.ifCond .eq 13, 39, 49, 0, 0, 0, 0, 0, [])), (39, (.iload_n 3, 40, 0, 0, 0, 0, 0, 0, [])), (40, (.ifCond .ne 6, 43, 46, 0, 0, 0, 0, 0, [])), (43, (.iload 4, 45, 0, 0, 0, 0, 0, 0, [])), (45, (.ireturn, 46, 0, 0, 0, 0, 0, 0, [])), (46, (.iinc 3 (-1), 49, 0, -1, 0, 0, 0, 0, []))],
  [(49, (.iinc 4 1, 52, 0, 1, 0, 0, 0, 0, [])), (52, (.goto (-29), 55, 23, 0, 0, 0, 0, 0, [])), (55, (.iconst (-1), 56, 0, -1, 0, 0, 0, 0, [])), (56, (.ireturn, 57, 0, 0, 0, 0, 0, 0, []))]])
set_option maxRecDepth 100000 in
theorem kX6_toldPerson : xMk mX6_toldPerson = true := by decide +kernel
set_option maxRecDepth 100000 in
theorem bX6_toldPerson : xcB mX6_toldPerson 0 1 = true := by decide +kernel
def mX6_folkOf : xM := (yX6_folkOf, cX6_folkOf, 4, (some .int), [
  [(0, (.iconst 0, 1, 0, 0, 0, 0, 0, 0, [])), (1, (.istore_n 2, 2, 0, 0, 0, 0, 0, 0, [])), (2, (.iconst 0, 3, 0, 0, 0, 0, 0, 0, [])), (3, (.istore_n 3, 4, 0, 0, 0, 0, 0, 0, [])), (4, (.iload_n 3, 5, 0, 0, 0, 0, 0, 0, [])), (5, (.bipush 8, 7, 0, 8, 0, 0, 0, 0, [])), (7, (.if_icmp .ge 30, 10, 37, 0, 0, 0, 0, 0, [])), (10, (.aload_n 0, 11, 0, 0, 0, 0, 0, 0, [])), (11, (.iload_n 3, 12, 0, 0, 0, 0, 0, 0, [])), (12, (.invokevirtual 85, 15, 0, 0, 0, 0, 0, 600, [])), (15, (.ifCond .eq 16, 18, 31, 0, 0, 0, 0, 0, []))],
  [(18, (.aload_n 0, 19, 0, 0, 0, 0, 0, 0, [])), (19, (.getfield 37, 22, 0, 0, 0, 6, 10, 77, [])), (22, (.iload_n 3, 23, 0, 0, 0, 0, 0, 0, [])), (23, (.iaload, 24, 0, 0, 0, 0, 0, 0, [])), (24, (.iload_n 1, 25, 0, 0, 0, 0, 0, 0, [])), (25, (.if_icmp .ne 6, 28, 31, 0, 0, 0, 0, 0, [])), (28, (.iinc 2 1, 31, 0, 1, 0, 0, 0, 0, [])), (31, (.iinc 3 1, 34, 0, 1, 0, 0, 0, 0, []))],
  [(34, (.goto (-30), 37, 4, 0, 0, 0, 0, 0, [])), (37, (.iload_n 2, 38, 0, 0, 0, 0, 0, 0, [])), (38, (.ireturn, 39, 0, 0, 0, 0, 0, 0, []))]])
set_option maxRecDepth 100000 in
theorem kX6_folkOf : xMk mX6_folkOf = true := by decide +kernel
set_option maxRecDepth 100000 in
theorem bX6_folkOf : xcB mX6_folkOf 0 1 = true := by decide +kernel
end
section
/-! the rows of the methods of X0 -/
def mX0_init : xM := (yX0_init, cX0_init, 2, none, [
  [(0, (.aload_n 0, 1, 0, 0, 0, 0, 0, 0, [])), (1, (.invokespecial 3, 4, 0, 0, 0, 1, 0, 173, [])), (4, (.aload_n 0, 5, 0, 0, 0, 0, 0, 0, [])), (5, (.iconst 2, 6, 0, 2, 0, 0, 0, 0, [])), (6, (.newarray .int, 8, 0, 0, 0, 0, 2, 0, [])), (8, (.putfield 9, 11, 2, 1, 0, 0, 4, 208, [])), (11, (.aload_n 0, 12, 0, 0, 0, 0, 0, 0, [])), (12, (.iconst 2, 13, 0, 2, 0, 0, 0, 0, [])), (13, (.newarray .int, 15, 0, 0, 0, 0, 2, 0, [])), (15, (.putfield 15, 18, 2, 1, 0, 0, 5, 210, []))],
  [(18, (.aload_n 0, 19, 0, 0, 0, 0, 0, 0, [])), (19, (.iconst 2, 20, 0, 2, 0, 0, 0, 0, [])), (20, (.newarray .int, 22, 0, 0, 0, 0, 2, 0, [])), (22, (.putfield 18, 25, 2, 1, 0, 0, 6, 212, [])), (25, (.aload_n 0, 26, 0, 0, 0, 0, 0, 0, [])), (26, (.bipush 8, 28, 0, 8, 0, 0, 0, 0, [])), (28, (.newarray .int, 30, 0, 0, 0, 0, 8, 0, [])), (30, (.putfield 21, 33, 2, 1, 0, 0, 8, 215, []))],
  [(33, (.aload_n 0, 34, 0, 0, 0, 0, 0, 0, [])), (34, (.bipush 8, 36, 0, 8, 0, 0, 0, 0, [])), (36, (.newarray .int, 38, 0, 0, 0, 0, 8, 0, [])), (38, (.putfield 24, 41, 2, 1, 0, 0, 9, 218, [])), (41, (.aload_n 0, 42, 0, 0, 0, 0, 0, 0, [])), (42, (.bipush 26, 44, 0, 26, 0, 0, 0, 0, [])), (44, (.newarray .int, 46, 0, 0, 0, 0, 26, 0, [])), (46, (.putfield 27, 49, 2, 1, 0, 0, 10, 220, []))],
  [(49, (.aload_n 0, 50, 0, 0, 0, 0, 0, 0, [])), (50, (.bipush 12, 52, 0, 12, 0, 0, 0, 0, [])), (52, (.newarray .int, 54, 0, 0, 0, 0, 12, 0, [])), (54, (.putfield 30, 57, 2, 1, 0, 0, 11, 222, [])), (57, (.aload_n 0, 58, 0, 0, 0, 0, 0, 0, [])), (58, (.new 33, 61, 0, 0, 0, 2, 0, 174, [])), (61, (.dup, 62, 0, 0, 0, 0, 0, 0, [])), (62, (.invokespecial 35, 65, 0, 0, 0, 0, 0, 0, []))],
  [(65, (.putfield 36, 68, 2, 1, 0, 0, 14, 226, [])), (68, (.aload_n 0, 69, 0, 0, 0, 0, 0, 0, [])), (69, (.aload_n 1, 70, 0, 0, 0, 0, 0, 0, [])), (70, (.putfield 40, 73, 2, 1, 0, 0, 0, 202, [])), (73, (.return_, 74, 0, 0, 0, 0, 0, 0, []))]])
set_option maxRecDepth 100000 in
theorem kX0_init : xMk mX0_init = true := by decide +kernel
set_option maxRecDepth 100000 in
theorem bX0_init : xcB mX0_init 2 1 = true := by decide +kernel
def mX0_begin : xM := (yX0_begin, cX0_begin, 4, none, [
  [(0, (.aload_n 0, 1, 0, 0, 0, 0, 0, 0, [])), (1, (.iload_n 1, 2, 0, 0, 0, 0, 0, 0, [])), (2, (.putfield 44, 5, 0, 0, 0, 0, 1, 203, [])), (5, (.aload_n 0, 6, 0, 0, 0, 0, 0, 0, [])), (6, (.iload_n 2, 7, 0, 0, 0, 0, 0, 0, [])), (7, (.putfield 48, 10, 0, 0, 0, 0, 2, 204, [])), (10, (.aload_n 0, 11, 0, 0, 0, 0, 0, 0, [])), (11, (.iconst 0, 12, 0, 0, 0, 0, 0, 0, [])), (12, (.putfield 51, 15, 0, 0, 0, 0, 3, 205, [])), (15, (.iconst 0, 16, 0, 0, 0, 0, 0, 0, []))],
  [(16, (.istore_n 3, 17, 0, 0, 0, 0, 0, 0, [])), (17, (.iload_n 3, 18, 0, 0, 0, 0, 0, 0, [])), (18, (.iconst 2, 19, 0, 2, 0, 0, 0, 0, [])), (19, (.if_icmp .ge 46, 22, 65, 0, 0, 0, 0, 0, [])), (22, (.aload_n 0, 23, 0, 0, 0, 0, 0, 0, [])), (23, (.getfield 9, 26, 0, 0, 0, 0, 4, 208, [])), (26, (.iload_n 3, 27, 0, 0, 0, 0, 0, 0, [])), (27, (.aload_n 0, 28, 0, 0, 0, 0, 0, 0, [])), (28, (.getfield 40, 31, 0, 0, 0, 0, 0, 202, [])), (31, (.getfield 54, 34, 0, 0, 0, 6, 6, 70, []))],
  [(34, (.iload_n 3, 35, 0, 0, 0, 0, 0, 0, [])), (35, (.iaload, 36, 0, 0, 0, 0, 0, 0, [])), (36, (.iastore, 37, 0, 0, 0, 0, 0, 0, [])), (37, (.aload_n 0, 38, 0, 0, 0, 0, 0, 0, [])), (38, (.getfield 15, 41, 0, 0, 0, 0, 5, 210, [])), (41, (.iload_n 3, 42, 0, 0, 0, 0, 0, 0, [])), (42, (.aload_n 0, 43, 0, 0, 0, 0, 0, 0, [])), (43, (.getfield 40, 46, 0, 0, 0, 0, 0, 202, [])), (46, (.getfield 59, 49, 0, 0, 0, 6, 8, 74, []))],
  [(49, (.iload_n 3, 50, 0, 0, 0, 0, 0, 0, [])), (50, (.iaload, 51, 0, 0, 0, 0, 0, 0, [])), (51, (.iastore, 52, 0, 0, 0, 0, 0, 0, [])), (52, (.aload_n 0, 53, 0, 0, 0, 0, 0, 0, [])), (53, (.getfield 18, 56, 0, 0, 0, 0, 6, 212, [])), (56, (.iload_n 3, 57, 0, 0, 0, 0, 0, 0, [])), (57, (.iconst 0, 58, 0, 0, 0, 0, 0, 0, [])), (58, (.iastore, 59, 0, 0, 0, 0, 0, 0, [])), (59, (.iinc 3 1, 62, 0, 1, 0, 0, 0, 0, [])), (62, (.goto (-45), 65, 17, 0, 0, 0, 0, 0, []))],
  [(65, (.aload_n 0, 66, 0, 0, 0, 0, 0, 0, [])), (66, (.iconst 0, 67, 0, 0, 0, 0, 0, 0, [])), (67, (.putfield 62, 70, 0, 0, 0, 0, 7, 214, [])), (70, (.aload_n 0, 71, 0, 0, 0, 0, 0, 0, [])), (71, (.getfield 21, 74, 0, 0, 0, 0, 8, 215, [])), (74, (.iconst (-1), 75, 0, -1, 0, 0, 0, 0, [])), (75, (.invokestatic 65, 78, 0, 0, 0, 0, 0, 361, [])), (78, (.aload_n 0, 79, 0, 0, 0, 0, 0, 0, [])), (79, (.getfield 24, 82, 0, 0, 0, 0, 9, 218, []))],
  [(82, (.iconst 0, 83, 0, 0, 0, 0, 0, 0, [])), (83, (.invokestatic 65, 86, 0, 0, 0, 0, 0, 361, [])), (86, (.aload_n 0, 87, 0, 0, 0, 0, 0, 0, [])), (87, (.getfield 27, 90, 0, 0, 0, 0, 10, 220, [])), (90, (.iconst (-1), 91, 0, -1, 0, 0, 0, 0, [])), (91, (.invokestatic 65, 94, 0, 0, 0, 0, 0, 361, [])), (94, (.aload_n 0, 95, 0, 0, 0, 0, 0, 0, [])), (95, (.getfield 30, 98, 0, 0, 0, 0, 11, 222, []))],
  [(98, (.iconst 0, 99, 0, 0, 0, 0, 0, 0, [])), (99, (.invokestatic 65, 102, 0, 0, 0, 0, 0, 361, [])), (102, (.aload_n 0, 103, 0, 0, 0, 0, 0, 0, [])), (103, (.iconst 0, 104, 0, 0, 0, 0, 0, 0, [])), (104, (.putfield 71, 107, 0, 0, 0, 0, 12, 223, [])), (107, (.aload_n 0, 108, 0, 0, 0, 0, 0, 0, [])), (108, (.iconst 0, 109, 0, 0, 0, 0, 0, 0, [])), (109, (.putfield 74, 112, 0, 0, 0, 0, 13, 224, []))],
  [(112, (.aload_n 0, 113, 0, 0, 0, 0, 0, 0, [])), (113, (.getfield 36, 116, 0, 0, 0, 0, 14, 226, [])), (116, (.iconst 0, 117, 0, 0, 0, 0, 0, 0, [])), (117, (.putfield 77, 120, 0, 0, 0, 2, 4, 189, [])), (120, (.return_, 121, 0, 0, 0, 0, 0, 0, []))]])
set_option maxRecDepth 100000 in
theorem kX0_begin : xMk mX0_begin = true := by decide +kernel
set_option maxRecDepth 100000 in
theorem bX0_begin : xcB mX0_begin 0 2 = true := by decide +kernel
def mX0_copyFrom : xM := (yX0_copyFrom, cX0_copyFrom, 2, none, [
  [(0, (.aload_n 0, 1, 0, 0, 0, 0, 0, 0, [])), (1, (.aload_n 1, 2, 0, 0, 0, 0, 0, 0, [])), (2, (.getfield 44, 5, 0, 0, 0, 0, 1, 203, [])), (5, (.putfield 44, 8, 0, 0, 0, 0, 1, 203, [])), (8, (.aload_n 0, 9, 0, 0, 0, 0, 0, 0, [])), (9, (.aload_n 1, 10, 0, 0, 0, 0, 0, 0, [])), (10, (.getfield 48, 13, 0, 0, 0, 0, 2, 204, [])), (13, (.putfield 48, 16, 0, 0, 0, 0, 2, 204, []))],
  [(16, (.aload_n 0, 17, 0, 0, 0, 0, 0, 0, [])), (17, (.aload_n 1, 18, 0, 0, 0, 0, 0, 0, [])), (18, (.getfield 51, 21, 0, 0, 0, 0, 3, 205, [])), (21, (.putfield 51, 24, 0, 0, 0, 0, 3, 205, [])), (24, (.aload_n 1, 25, 0, 0, 0, 0, 0, 0, [])), (25, (.getfield 9, 28, 0, 0, 0, 0, 4, 208, [])), (28, (.iconst 0, 29, 0, 0, 0, 0, 0, 0, [])), (29, (.aload_n 0, 30, 0, 0, 0, 0, 0, 0, [])), (30, (.getfield 9, 33, 0, 0, 0, 0, 4, 208, []))],
  [(33, (.iconst 0, 34, 0, 0, 0, 0, 0, 0, [])), (34, (.iconst 2, 35, 0, 2, 0, 0, 0, 0, [])), (35, (.invokestatic 80, 38, 0, 0, 0, 3, 0, 700, [])), (38, (.aload_n 1, 39, 0, 0, 0, 0, 0, 0, [])), (39, (.getfield 15, 42, 0, 0, 0, 0, 5, 210, [])), (42, (.iconst 0, 43, 0, 0, 0, 0, 0, 0, [])), (43, (.aload_n 0, 44, 0, 0, 0, 0, 0, 0, [])), (44, (.getfield 15, 47, 0, 0, 0, 0, 5, 210, [])), (47, (.iconst 0, 48, 0, 0, 0, 0, 0, 0, []))],
  [(48, (.iconst 2, 49, 0, 2, 0, 0, 0, 0, [])), (49, (.invokestatic 80, 52, 0, 0, 0, 3, 0, 700, [])), (52, (.aload_n 1, 53, 0, 0, 0, 0, 0, 0, [])), (53, (.getfield 18, 56, 0, 0, 0, 0, 6, 212, [])), (56, (.iconst 0, 57, 0, 0, 0, 0, 0, 0, [])), (57, (.aload_n 0, 58, 0, 0, 0, 0, 0, 0, [])), (58, (.getfield 18, 61, 0, 0, 0, 0, 6, 212, [])), (61, (.iconst 0, 62, 0, 0, 0, 0, 0, 0, [])), (62, (.iconst 2, 63, 0, 2, 0, 0, 0, 0, [])), (63, (.invokestatic 80, 66, 0, 0, 0, 3, 0, 700, []))],
  [(66, (.aload_n 0, 67, 0, 0, 0, 0, 0, 0, [])), (67, (.aload_n 1, 68, 0, 0, 0, 0, 0, 0, [])), (68, (.getfield 62, 71, 0, 0, 0, 0, 7, 214, [])), (71, (.putfield 62, 74, 0, 0, 0, 0, 7, 214, [])), (74, (.aload_n 1, 75, 0, 0, 0, 0, 0, 0, [])), (75, (.getfield 21, 78, 0, 0, 0, 0, 8, 215, [])), (78, (.iconst 0, 79, 0, 0, 0, 0, 0, 0, [])), (79, (.aload_n 0, 80, 0, 0, 0, 0, 0, 0, []))],
  [(80, (.getfield 21, 83, 0, 0, 0, 0, 8, 215, [])), (83, (.iconst 0, 84, 0, 0, 0, 0, 0, 0, [])), (84, (.bipush 8, 86, 0, 8, 0, 0, 0, 0, [])), (86, (.invokestatic 80, 89, 0, 0, 0, 3, 0, 700, [])), (89, (.aload_n 1, 90, 0, 0, 0, 0, 0, 0, [])), (90, (.getfield 24, 93, 0, 0, 0, 0, 9, 218, [])), (93, (.iconst 0, 94, 0, 0, 0, 0, 0, 0, [])), (94, (.aload_n 0, 95, 0, 0, 0, 0, 0, 0, [])), (95, (.getfield 24, 98, 0, 0, 0, 0, 9, 218, []))],
  [(98, (.iconst 0, 99, 0, 0, 0, 0, 0, 0, [])), (99, (.bipush 8, 101, 0, 8, 0, 0, 0, 0, [])), (101, (.invokestatic 80, 104, 0, 0, 0, 3, 0, 700, [])), (104, (.aload_n 1, 105, 0, 0, 0, 0, 0, 0, [])), (105, (.getfield 27, 108, 0, 0, 0, 0, 10, 220, [])), (108, (.iconst 0, 109, 0, 0, 0, 0, 0, 0, [])), (109, (.aload_n 0, 110, 0, 0, 0, 0, 0, 0, [])), (110, (.getfield 27, 113, 0, 0, 0, 0, 10, 220, []))],
  [(113, (.iconst 0, 114, 0, 0, 0, 0, 0, 0, [])), (114, (.bipush 26, 116, 0, 26, 0, 0, 0, 0, [])), (116, (.invokestatic 80, 119, 0, 0, 0, 3, 0, 700, [])), (119, (.aload_n 1, 120, 0, 0, 0, 0, 0, 0, [])), (120, (.getfield 30, 123, 0, 0, 0, 0, 11, 222, [])), (123, (.iconst 0, 124, 0, 0, 0, 0, 0, 0, [])), (124, (.aload_n 0, 125, 0, 0, 0, 0, 0, 0, [])), (125, (.getfield 30, 128, 0, 0, 0, 0, 11, 222, []))],
  [(128, (.iconst 0, 129, 0, 0, 0, 0, 0, 0, [])), (129, (.bipush 12, 131, 0, 12, 0, 0, 0, 0, [])), (131, (.invokestatic 80, 134, 0, 0, 0, 3, 0, 700, [])), (134, (.aload_n 0, 135, 0, 0, 0, 0, 0, 0, [])), (135, (.aload_n 1, 136, 0, 0, 0, 0, 0, 0, [])), (136, (.getfield 71, 139, 0, 0, 0, 0, 12, 223, [])), (139, (.putfield 71, 142, 0, 0, 0, 0, 12, 223, [])), (142, (.aload_n 0, 143, 0, 0, 0, 0, 0, 0, [])), (143, (.aload_n 1, 144, 0, 0, 0, 0, 0, 0, []))],
  [(144, (.getfield 74, 147, 0, 0, 0, 0, 13, 224, [])), (147, (.putfield 74, 150, 0, 0, 0, 0, 13, 224, [])), (150, (.aload_n 0, 151, 0, 0, 0, 0, 0, 0, [])), (151, (.getfield 36, 154, 0, 0, 0, 0, 14, 226, [])), (154, (.aload_n 1, 155, 0, 0, 0, 0, 0, 0, [])), (155, (.getfield 36, 158, 0, 0, 0, 0, 14, 226, [])), (158, (.invokevirtual 86, 161, 0, 0, 0, 0, 0, 701, []))],
  [(161, (.return_, 162, 0, 0, 0, 0, 0, 0, []))]])
set_option maxRecDepth 100000 in
theorem kX0_copyFrom : xMk mX0_copyFrom = true := by decide +kernel
set_option maxRecDepth 100000 in
theorem bX0_copyFrom : xcB mX0_copyFrom 0 1 = true := by decide +kernel
def mX0_runTo : xM := (yX0_runTo, cX0_runTo, 3, none, [
  [(0, (.aload_n 0, 1, 0, 0, 0, 0, 0, 0, [])), (1, (.getfield 51, 4, 0, 0, 0, 0, 3, 205, [])), (4, (.istore_n 2, 5, 0, 0, 0, 0, 0, 0, [])), (5, (.iload_n 2, 6, 0, 0, 0, 0, 0, 0, [])), (6, (.iload_n 1, 7, 0, 0, 0, 0, 0, 0, [])), (7, (.if_icmp .ge 13, 10, 20, 0, 0, 0, 0, 0, [])), (10, (.aload_n 0, 11, 0, 0, 0, 0, 0, 0, [])), (11, (.invokevirtual 90, 14, 0, 0, 0, 0, 0, 613, [])), (14, (.iinc 2 1, 17, 0, 1, 0, 0, 0, 0, []))],
  [(17, (.goto (-12), 20, 5, 0, 0, 0, 0, 0, [])), (20, (.return_, 21, 0, 0, 0, 0, 0, 0, []))]])
set_option maxRecDepth 100000 in
theorem kX0_runTo : xMk mX0_runTo = true := by decide +kernel
set_option maxRecDepth 100000 in
theorem bX0_runTo : xcB mX0_runTo 0 1 = true := by decide +kernel
def mX0_passMinute : xM := (yX0_passMinute, cX0_passMinute, 2, none, [
  [(0, (.aload_n 0, 1, 0, 0, 0, 0, 0, 0, [])), (1, (.getfield 51, 4, 0, 0, 0, 0, 3, 205, [])), (4, (.bipush 60, 6, 0, 60, 0, 0, 0, 0, [])), (6, (.if_icmp .lt 4, 9, 10, 0, 0, 0, 0, 0, [])), (9, (.return_, 10, 0, 0, 0, 0, 0, 0, [])), (10, (.aload_n 0, 11, 0, 0, 0, 0, 0, 0, [])), (11, (.invokevirtual 93, 14, 0, 0, 0, 0, 0, 617, [])), (14, (.aload_n 0, 15, 0, 0, 0, 0, 0, 0, [])), (15, (.invokevirtual 96, 18, 0, 0, 0, 0, 0, 621, []))],
  [(18, (.iconst 0, 19, 0, 0, 0, 0, 0, 0, [])), (19, (.istore_n 1, 20, 0, 0, 0, 0, 0, 0, [])), (20, (.iload_n 1, 21, 0, 0, 0, 0, 0, 0, [])), (21, (.iconst 2, 22, 0, 2, 0, 0, 0, 0, [])), (22, (.if_icmp .ge 41, 25, 63, 0, 0, 0, 0, 0, [])), (25, (.aload_n 0, 26, 0, 0, 0, 0, 0, 0, [])), (26, (.getfield 40, 29, 0, 0, 0, 0, 0, 202, [])), (29, (.iload_n 1, 30, 0, 0, 0, 0, 0, 0, [])), (30, (.invokevirtual 99, 33, 0, 0, 0, 0, 0, 639, []))],
  [(33, (.ifCond .eq 24, 36, 57, 0, 0, 0, 0, 0, [])), (36, (.aload_n 0, 37, 0, 0, 0, 0, 0, 0, [])), (37, (.getfield 40, 40, 0, 0, 0, 0, 0, 202, [])), (40, (.getfield 103, 43, 0, 0, 0, 6, 7, 72, [])), (43, (.iload_n 1, 44, 0, 0, 0, 0, 0, 0, [])), (44, (.iaload, 45, 0, 0, 0, 0, 0, 0, [])), (45, (.aload_n 0, 46, 0, 0, 0, 0, 0, 0, [])), (46, (.getfield 51, 49, 0, 0, 0, 0, 3, 205, []))],
  [(49, (.if_icmp .gt 8, 52, 57, 0, 0, 0, 0, 0, [])), (52, (.aload_n 0, 53, 0, 0, 0, 0, 0, 0, [])), (53, (.iload_n 1, 54, 0, 0, 0, 0, 0, 0, [])), (54, (.invokevirtual 106, 57, 0, 0, 0, 0, 0, 643, [])), (57, (.iinc 1 1, 60, 0, 1, 0, 0, 0, 0, [])), (60, (.goto (-40), 63, 20, 0, 0, 0, 0, 0, [])), (63, (.aload_n 0, 64, 0, 0, 0, 0, 0, 0, []))],
  [(64, (.dup, 65, 0, 0, 0, 0, 0, 0, [])), (65, (.getfield 51, 68, 0, 0, 0, 0, 3, 205, [])), (68, (.iconst 1, 69, 0, 1, 0, 0, 0, 0, [])), (69, (.iadd, 70, 0, 0, 0, 0, 0, 0, [])), (70, (.putfield 51, 73, 0, 0, 0, 0, 3, 205, [])), (73, (.return_, 74, 0, 0, 0, 0, 0, 0, []))]])
set_option maxRecDepth 100000 in
theorem kX0_passMinute : xMk mX0_passMinute = true := by decide +kernel
set_option maxRecDepth 100000 in
theorem bX0_passMinute : xcB mX0_passMinute 0 0 = true := by decide +kernel
def mX0_dropStaleCauses : xM := (yX0_dropStaleCauses, cX0_dropStaleCauses, 1, none, [
  [(0, (.aload_n 0, 1, 0, 0, 0, 0, 0, 0, [])), (1, (.getfield 48, 4, 0, 0, 0, 0, 2, 204, [])), (4, (.ifCond .lt 42, 7, 46, 0, 0, 0, 0, 0, [])), (7, (.aload_n 0, 8, 0, 0, 0, 0, 0, 0, [])), (8, (.getfield 51, 11, 0, 0, 0, 0, 3, 205, [])), (11, (.aload_n 0, 12, 0, 0, 0, 0, 0, 0, [])), (12, (.getfield 48, 15, 0, 0, 0, 0, 2, 204, [])), (15, (.if_icmp .lt 31, 18, 46, 0, 0, 0, 0, 0, []))],
  [(18, (.aload_n 0, 19, 0, 0, 0, 0, 0, 0, [])), (19, (.dup, 20, 0, 0, 0, 0, 0, 0, [])), (20, (.getfield 71, 23, 0, 0, 0, 0, 12, 223, [])), (23, (.aload_n 0, 24, 0, 0, 0, 0, 0, 0, [])), (24, (.getfield 40, 27, 0, 0, 0, 0, 0, 202, [])), (27, (.getfield 110, 30, 0, 0, 0, 6, 16, 96, [])), (30, (.aload_n 0, 31, 0, 0, 0, 0, 0, 0, [])), (31, (.getfield 51, 34, 0, 0, 0, 0, 3, 205, []))],
  [(34, (.aload_n 0, 35, 0, 0, 0, 0, 0, 0, [])), (35, (.getfield 48, 38, 0, 0, 0, 0, 2, 204, [])), (38, (.isub, 39, 0, 0, 0, 0, 0, 0, [])), (39, (.iaload, 40, 0, 0, 0, 0, 0, 0, [])), (40, (.iconst (-1), 41, 0, -1, 0, 0, 0, 0, [])), (41, (.ixor, 42, 0, 0, 0, 0, 0, 0, [])), (42, (.iand, 43, 0, 0, 0, 0, 0, 0, [])), (43, (.putfield 71, 46, 0, 0, 0, 0, 12, 223, [])), (46, (.return_, 47, 0, 0, 0, 0, 0, 0, []))]])
set_option maxRecDepth 100000 in
theorem kX0_dropStaleCauses : xMk mX0_dropStaleCauses = true := by decide +kernel
set_option maxRecDepth 100000 in
theorem bX0_dropStaleCauses : xcB mX0_dropStaleCauses 0 0 = true := by decide +kernel
def mX0_feelMoods : xM := (yX0_feelMoods, cX0_feelMoods, 3, none, [
  [(0, (.aload_n 0, 1, 0, 0, 0, 0, 0, 0, [])), (1, (.getfield 40, 4, 0, 0, 0, 0, 0, 202, [])), (4, (.getfield 110, 7, 0, 0, 0, 6, 16, 96, [])), (7, (.aload_n 0, 8, 0, 0, 0, 0, 0, 0, [])), (8, (.getfield 51, 11, 0, 0, 0, 0, 3, 205, [])), (11, (.iaload, 12, 0, 0, 0, 0, 0, 0, [])), (12, (.istore_n 1, 13, 0, 0, 0, 0, 0, 0, [])), (13, (.iload_n 1, 14, 0, 0, 0, 0, 0, 0, [])), (14, (.ifCond .ne 4, 17, 18, 0, 0, 0, 0, 0, []))],
  [(17, (.return_, 18, 0, 0, 0, 0, 0, 0, [])), (18, (.iconst 0, 19, 0, 0, 0, 0, 0, 0, [])), (19, (.istore_n 2, 20, 0, 0, 0, 0, 0, 0, [])), (20, (.iload_n 2, 21, 0, 0, 0, 0, 0, 0, [])), (21, (.aload_n 0, 22, 0, 0, 0, 0, 0, 0, [])), (22, (.getfield 40, 25, 0, 0, 0, 0, 0, 202, [])), (25, (.getfield 113, 28, 0, 0, 0, 6, 12, 84, [])), (28, (.if_icmp .ge 36, 31, 64, 0, 0, 0, 0, 0, [])), (31, (.iload_n 1, 32, 0, 0, 0, 0, 0, 0, []))],
  [(32, (.iload_n 2, 33, 0, 0, 0, 0, 0, 0, [])), (33, (.ishr, 34, 0, 0, 0, 0, 0, 0, [])), (34, (.iconst 1, 35, 0, 1, 0, 0, 0, 0, [])), (35, (.iand, 36, 0, 0, 0, 0, 0, 0, [])), (36, (.iconst 1, 37, 0, 1, 0, 0, 0, 0, [])), (37, (.if_icmp .ne 21, 40, 58, 0, 0, 0, 0, 0, [])), (40, (.aload_n 0, 41, 0, 0, 0, 0, 0, 0, [])), (41, (.iload_n 2, 42, 0, 0, 0, 0, 0, 0, [])), (42, (.aload_n 0, 43, 0, 0, 0, 0, 0, 0, [])), (43, (.aload_n 0, 44, 0, 0, 0, 0, 0, 0, [])), (44, (.getfield 40, 47, 0, 0, 0, 0, 0, 202, [])), (47, (.getfield 116, 50, 0, 0, 0, 6, 13, 88, []))],
  [(50, (.iload_n 2, 51, 0, 0, 0, 0, 0, 0, [])), (51, (.iaload, 52, 0, 0, 0, 0, 0, 0, [])), (52, (.invokevirtual 119, 55, 0, 0, 0, 0, 0, 625, [])), (55, (.invokevirtual 123, 58, 0, 0, 0, 0, 0, 634, [])), (58, (.iinc 2 1, 61, 0, 1, 0, 0, 0, 0, [])), (61, (.goto (-41), 64, 20, 0, 0, 0, 0, 0, []))],
  [(64, (.return_, 65, 0, 0, 0, 0, 0, 0, []))]])
set_option maxRecDepth 100000 in
theorem kX0_feelMoods : xMk mX0_feelMoods = true := by decide +kernel
set_option maxRecDepth 100000 in
theorem bX0_feelMoods : xcB mX0_feelMoods 0 0 = true := by decide +kernel
def mX0_feelMood : xM := (yX0_feelMood, cX0_feelMood, 3, none, [
  [(0, (.aload_n 0, 1, 0, 0, 0, 0, 0, 0, [])), (1, (.getfield 40, 4, 0, 0, 0, 0, 0, 202, [])), (4, (.iload_n 2, 5, 0, 0, 0, 0, 0, 0, [])), (5, (.invokevirtual 127, 8, 0, 0, 0, 0, 0, 638, [])), (8, (.ifCond .ne 4, 11, 12, 0, 0, 0, 0, 0, [])), (11, (.return_, 12, 0, 0, 0, 0, 0, 0, [])), (12, (.aload_n 0, 13, 0, 0, 0, 0, 0, 0, [])), (13, (.getfield 27, 16, 0, 0, 0, 0, 10, 220, []))],
  [(16, (.iload_n 1, 17, 0, 0, 0, 0, 0, 0, [])), (17, (.iload_n 2, 18, 0, 0, 0, 0, 0, 0, [])), (18, (.iastore, 19, 0, 0, 0, 0, 0, 0, [])), (19, (.aload_n 0, 20, 0, 0, 0, 0, 0, 0, [])), (20, (.getfield 30, 23, 0, 0, 0, 0, 11, 222, [])), (23, (.iload_n 2, 24, 0, 0, 0, 0, 0, 0, [])), (24, (.dup2, 25, 0, 0, 0, 0, 0, 0, [])), (25, (.iaload, 26, 0, 0, 0, 0, 0, 0, [])), (26, (.iconst 1, 27, 0, 1, 0, 0, 0, 0, [])), (27, (.iload_n 1, 28, 0, 0, 0, 0, 0, 0, [])), (28, (.ishl, 29, 0, 0, 0, 0, 0, 0, [])), (29, (.ior, 30, 0, 0, 0, 0, 0, 0, [])), (30, (.iastore, 31, 0, 0, 0, 0, 0, 0, [])), (31, (.aload_n 0, 32, 0, 0, 0, 0, 0, 0, []))],
  [(32, (.getfield 44, 35, 0, 0, 0, 0, 1, 203, [])), (35, (.aload_n 0, 36, 0, 0, 0, 0, 0, 0, [])), (36, (.getfield 40, 39, 0, 0, 0, 0, 0, 202, [])), (39, (.getfield 130, 42, 0, 0, 0, 6, 14, 91, [])), (42, (.iload_n 1, 43, 0, 0, 0, 0, 0, 0, [])), (43, (.iaload, 44, 0, 0, 0, 0, 0, 0, [])), (44, (.ishr, 45, 0, 0, 0, 0, 0, 0, [])), (45, (.iconst 1, 46, 0, 1, 0, 0, 0, 0, [])), (46, (.iand, 47, 0, 0, 0, 0, 0, 0, [])), (47, (.iconst 1, 48, 0, 1, 0, 0, 0, 0, []))],
  [(48, (.if_icmp .ne 15, 51, 63, 0, 0, 0, 0, 0, [])), (51, (.aload_n 0, 52, 0, 0, 0, 0, 0, 0, [])), (52, (.dup, 53, 0, 0, 0, 0, 0, 0, [])), (53, (.getfield 71, 56, 0, 0, 0, 0, 12, 223, [])), (56, (.iconst 1, 57, 0, 1, 0, 0, 0, 0, [])), (57, (.iload_n 1, 58, 0, 0, 0, 0, 0, 0, [])), (58, (.ishl, 59, 0, 0, 0, 0, 0, 0, [])), (59, (.ior, 60, 0, 0, 0, 0, 0, 0, [])), (60, (.putfield 71, 63, 0, 0, 0, 0, 12, 223, [])), (63, (.return_, 64, 0, 0, 0, 0, 0, 0, []))]])
set_option maxRecDepth 100000 in
theorem kX0_feelMood : xMk mX0_feelMood = true := by decide +kernel
set_option maxRecDepth 100000 in
theorem bX0_feelMood : xcB mX0_feelMood 0 2 = true := by decide +kernel
def mX0_runTram : xM := (yX0_runTram, cX0_runTram, 3, none, [
  [(0, (.aload_n 0, 1, 0, 0, 0, 0, 0, 0, [])), (1, (.getfield 62, 4, 0, 0, 0, 0, 7, 214, [])), (4, (.iload_n 1, 5, 0, 0, 0, 0, 0, 0, [])), (5, (.ishr, 6, 0, 0, 0, 0, 0, 0, [])), (6, (.iconst 1, 7, 0, 1, 0, 0, 0, 0, [])), (7, (.iand, 8, 0, 0, 0, 0, 0, 0, [])), (8, (.iconst 1, 9, 0, 1, 0, 0, 0, 0, [])), (9, (.if_icmp .ne 7, 12, 16, 0, 0, 0, 0, 0, [])), (12, (.iconst (-1), 13, 0, -1, 0, 0, 0, 0, [])), (13, (.goto 13, 16, 26, 0, 0, 0, 0, 0, []))],
  [(16, (.aload_n 0, 17, 0, 0, 0, 0, 0, 0, [])), (17, (.aload_n 0, 18, 0, 0, 0, 0, 0, 0, [])), (18, (.getfield 9, 21, 0, 0, 0, 0, 4, 208, [])), (21, (.iload_n 1, 22, 0, 0, 0, 0, 0, 0, [])), (22, (.iaload, 23, 0, 0, 0, 0, 0, 0, [])), (23, (.invokevirtual 133, 26, 0, 0, 0, 0, 0, 647, [])), (26, (.istore_n 2, 27, 0, 0, 0, 0, 0, 0, [])), (27, (.iload_n 2, 28, 0, 0, 0, 0, 0, 0, [])), (28, (.iconst (-1), 29, 0, -1, 0, 0, 0, 0, [])), (29, (.if_icmp .ne 9, 32, 38, 0, 0, 0, 0, 0, []))],
  [(32, (.aload_n 0, 33, 0, 0, 0, 0, 0, 0, [])), (33, (.iload_n 1, 34, 0, 0, 0, 0, 0, 0, [])), (34, (.invokevirtual 136, 37, 0, 0, 0, 0, 0, 651, [])), (37, (.return_, 38, 0, 0, 0, 0, 0, 0, [])), (38, (.aload_n 0, 39, 0, 0, 0, 0, 0, 0, [])), (39, (.dup, 40, 0, 0, 0, 0, 0, 0, [])), (40, (.getfield 74, 43, 0, 0, 0, 0, 13, 224, [])), (43, (.iconst 1, 44, 0, 1, 0, 0, 0, 0, [])), (44, (.iload_n 2, 45, 0, 0, 0, 0, 0, 0, [])), (45, (.ishl, 46, 0, 0, 0, 0, 0, 0, [])), (46, (.ior, 47, 0, 0, 0, 0, 0, 0, [])), (47, (.putfield 74, 50, 0, 0, 0, 0, 13, 224, []))],
  [(50, (.aload_n 0, 51, 0, 0, 0, 0, 0, 0, [])), (51, (.dup, 52, 0, 0, 0, 0, 0, 0, [])), (52, (.getfield 71, 55, 0, 0, 0, 0, 12, 223, [])), (55, (.iconst 1, 56, 0, 1, 0, 0, 0, 0, [])), (56, (.iload_n 2, 57, 0, 0, 0, 0, 0, 0, [])), (57, (.ishl, 58, 0, 0, 0, 0, 0, 0, [])), (58, (.iconst (-1), 59, 0, -1, 0, 0, 0, 0, [])), (59, (.ixor, 60, 0, 0, 0, 0, 0, 0, [])), (60, (.iand, 61, 0, 0, 0, 0, 0, 0, [])), (61, (.putfield 71, 64, 0, 0, 0, 0, 12, 223, []))],
  [(64, (.aload_n 0, 65, 0, 0, 0, 0, 0, 0, [])), (65, (.dup, 66, 0, 0, 0, 0, 0, 0, [])), (66, (.getfield 62, 69, 0, 0, 0, 0, 7, 214, [])), (69, (.iconst 1, 70, 0, 1, 0, 0, 0, 0, [])), (70, (.iload_n 1, 71, 0, 0, 0, 0, 0, 0, [])), (71, (.ishl, 72, 0, 0, 0, 0, 0, 0, [])), (72, (.ior, 73, 0, 0, 0, 0, 0, 0, [])), (73, (.putfield 62, 76, 0, 0, 0, 0, 7, 214, [])), (76, (.aload_n 0, 77, 0, 0, 0, 0, 0, 0, [])), (77, (.getfield 36, 80, 0, 0, 0, 0, 14, 226, []))],
  [(80, (.iload_n 1, 81, 0, 0, 0, 0, 0, 0, [])), (81, (.aload_n 0, 82, 0, 0, 0, 0, 0, 0, [])), (82, (.getfield 9, 85, 0, 0, 0, 0, 4, 208, [])), (85, (.iload_n 1, 86, 0, 0, 0, 0, 0, 0, [])), (86, (.iaload, 87, 0, 0, 0, 0, 0, 0, [])), (87, (.aload_n 0, 88, 0, 0, 0, 0, 0, 0, [])), (88, (.getfield 51, 91, 0, 0, 0, 0, 3, 205, [])), (91, (.iload_n 2, 92, 0, 0, 0, 0, 0, 0, [])), (92, (.invokevirtual 139, 95, 0, 0, 0, 0, 0, 655, [])), (95, (.aload_n 0, 96, 0, 0, 0, 0, 0, 0, []))],
  [(96, (.iload_n 1, 97, 0, 0, 0, 0, 0, 0, [])), (97, (.invokevirtual 143, 100, 0, 0, 0, 0, 0, 659, [])), (100, (.aload_n 0, 101, 0, 0, 0, 0, 0, 0, [])), (101, (.iload_n 1, 102, 0, 0, 0, 0, 0, 0, [])), (102, (.invokevirtual 146, 105, 0, 0, 0, 0, 0, 663, [])), (105, (.return_, 106, 0, 0, 0, 0, 0, 0, []))]])
set_option maxRecDepth 100000 in
theorem kX0_runTram : xMk mX0_runTram = true := by decide +kernel
set_option maxRecDepth 100000 in
theorem bX0_runTram : xcB mX0_runTram 0 1 = true := by decide +kernel
def mX0_eldestCause : xM := (yX0_eldestCause, cX0_eldestCause, 6, (some .int), [
  [(0, (.aload_n 0, 1, 0, 0, 0, 0, 0, 0, [])), (1, (.getfield 40, 4, 0, 0, 0, 0, 0, 202, [])), (4, (.iload_n 1, 5, 0, 0, 0, 0, 0, 0, [])), (5, (.invokevirtual 127, 8, 0, 0, 0, 0, 0, 638, [])), (8, (.ifCond .eq 17, 11, 25, 0, 0, 0, 0, 0, [])), (11, (.aload_n 0, 12, 0, 0, 0, 0, 0, 0, [])), (12, (.getfield 30, 15, 0, 0, 0, 0, 11, 222, [])), (15, (.iload_n 1, 16, 0, 0, 0, 0, 0, 0, []))],
  [(16, (.iaload, 17, 0, 0, 0, 0, 0, 0, [])), (17, (.aload_n 0, 18, 0, 0, 0, 0, 0, 0, [])), (18, (.getfield 71, 21, 0, 0, 0, 0, 12, 223, [])), (21, (.iand, 22, 0, 0, 0, 0, 0, 0, [])), (22, (.goto 4, 25, 26, 0, 0, 0, 0, 0, [])), (25, (.iconst 0, 26, 0, 0, 0, 0, 0, 0, [])), (26, (.istore_n 2, 27, 0, 0, 0, 0, 0, 0, [])), (27, (.iload_n 2, 28, 0, 0, 0, 0, 0, 0, [])), (28, (.ifCond .ne 5, 31, 33, 0, 0, 0, 0, 0, [])), (31, (.iconst (-1), 32, 0, -1, 0, 0, 0, 0, []))],
  [(32, (.ireturn, 33, 0, 0, 0, 0, 0, 0, [])), (33, (.iconst (-1), 34, 0, -1, 0, 0, 0, 0, [])), (34, (.istore_n 3, 35, 0, 0, 0, 0, 0, 0, [])), (35, (.iconst 0, 36, 0, 0, 0, 0, 0, 0, [])), (36, (.istore 4, 38, 0, 0, 0, 0, 0, 0, [])), (38, (.iload 4, 40, 0, 0, 0, 0, 0, 0, [])), (40, (.aload_n 0, 41, 0, 0, 0, 0, 0, 0, [])), (41, (.getfield 40, 44, 0, 0, 0, 0, 0, 202, [])), (44, (.getfield 113, 47, 0, 0, 0, 6, 12, 84, [])), (47, (.if_icmp .ge 61, 50, 108, 0, 0, 0, 0, 0, []))],
  [(50, (.iload_n 2, 51, 0, 0, 0, 0, 0, 0, [])), (51, (.iload 4, 53, 0, 0, 0, 0, 0, 0, [])), (53, (.ishr, 54, 0, 0, 0, 0, 0, 0, [])), (54, (.iconst 1, 55, 0, 1, 0, 0, 0, 0, [])), (55, (.iand, 56, 0, 0, 0, 0, 0, 0, [])), (56, (.iconst 1, 57, 0, 1, 0, 0, 0, 0, [])), (57, (.if_icmp .ne 7, 60, 64, 0, 0, 0, 0, 0, [])), (60, (.iconst 1, 61, 0, 1, 0, 0, 0, 0, [])), (61, (.goto 4, 64, 65, 0, 0, 0, 0, 0, []))],
  [(64, (.iconst 0, 65, 0, 0, 0, 0, 0, 0, [])), (65, (.istore 5, 67, 0, 0, 0, 0, 0, 0, [])), (67, (.iload 5, 69, 0, 0, 0, 0, 0, 0, [])), (69, (.ifCond .eq 33, 72, 102, 0, 0, 0, 0, 0, [])), (72, (.iload_n 3, 73, 0, 0, 0, 0, 0, 0, [])), (73, (.iconst (-1), 74, 0, -1, 0, 0, 0, 0, [])), (74, (.if_icmp .eq 25, 77, 99, 0, 0, 0, 0, 0, [])), (77, (.aload_n 0, 78, 0, 0, 0, 0, 0, 0, [])), (78, (.getfield 40, 81, 0, 0, 0, 0, 0, 202, []))],
  [(81, (.getfield 149, 84, 0, 0, 0, 6, 15, 94, [])), (84, (.iload 4, 86, 0, 0, 0, 0, 0, 0, [])), (86, (.iaload, 87, 0, 0, 0, 0, 0, 0, [])), (87, (.aload_n 0, 88, 0, 0, 0, 0, 0, 0, [])), (88, (.getfield 40, 91, 0, 0, 0, 0, 0, 202, [])), (91, (.getfield 149, 94, 0, 0, 0, 6, 15, 94, [])), (94, (.iload_n 3, 95, 0, 0, 0, 0, 0, 0, [])), (95, (.iaload, 96, 0, 0, 0, 0, 0, 0, []))],
  [(96, (.if_icmp .ge 6, 99, 102, 0, 0, 0, 0, 0, [])), (99, (.iload 4, 101, 0, 0, 0, 0, 0, 0, [])), (101, (.istore_n 3, 102, 0, 0, 0, 0, 0, 0, [])), (102, (.iinc 4 1, 105, 0, 1, 0, 0, 0, 0, [])), (105, (.goto (-67), 108, 38, 0, 0, 0, 0, 0, [])), (108, (.iload_n 3, 109, 0, 0, 0, 0, 0, 0, [])), (109, (.ireturn, 110, 0, 0, 0, 0, 0, 0, []))]])
set_option maxRecDepth 100000 in
theorem kX0_eldestCause : xMk mX0_eldestCause = true := by decide +kernel
set_option maxRecDepth 100000 in
theorem bX0_eldestCause : xcB mX0_eldestCause 0 1 = true := by decide +kernel
def mX0_letOff : xM := (yX0_letOff, cX0_letOff, 4, none, [
  [(0, (.iconst 0, 1, 0, 0, 0, 0, 0, 0, [])), (1, (.istore_n 2, 2, 0, 0, 0, 0, 0, 0, [])), (2, (.iload_n 2, 3, 0, 0, 0, 0, 0, 0, [])), (3, (.bipush 8, 5, 0, 8, 0, 0, 0, 0, [])), (5, (.if_icmp .ge 75, 8, 80, 0, 0, 0, 0, 0, [])), (8, (.aload_n 0, 9, 0, 0, 0, 0, 0, 0, [])), (9, (.getfield 18, 12, 0, 0, 0, 0, 6, 212, [])), (12, (.iload_n 1, 13, 0, 0, 0, 0, 0, 0, [])), (13, (.iaload, 14, 0, 0, 0, 0, 0, 0, [])), (14, (.iload_n 2, 15, 0, 0, 0, 0, 0, 0, [])), (15, (.ishr, 16, 0, 0, 0, 0, 0, 0, []))],
  [(16, (.iconst 1, 17, 0, 1, 0, 0, 0, 0, [])), (17, (.iand, 18, 0, 0, 0, 0, 0, 0, [])), (18, (.iconst 1, 19, 0, 1, 0, 0, 0, 0, [])), (19, (.if_icmp .ne 7, 22, 26, 0, 0, 0, 0, 0, [])), (22, (.iconst 1, 23, 0, 1, 0, 0, 0, 0, [])), (23, (.goto 4, 26, 27, 0, 0, 0, 0, 0, [])), (26, (.iconst 0, 27, 0, 0, 0, 0, 0, 0, [])), (27, (.istore_n 3, 28, 0, 0, 0, 0, 0, 0, [])), (28, (.iload_n 3, 29, 0, 0, 0, 0, 0, 0, [])), (29, (.ifCond .eq 45, 32, 74, 0, 0, 0, 0, 0, []))],
  [(32, (.aload_n 0, 33, 0, 0, 0, 0, 0, 0, [])), (33, (.getfield 40, 36, 0, 0, 0, 0, 0, 202, [])), (36, (.getfield 152, 39, 0, 0, 0, 6, 11, 81, [])), (39, (.iload_n 2, 40, 0, 0, 0, 0, 0, 0, [])), (40, (.iaload, 41, 0, 0, 0, 0, 0, 0, [])), (41, (.aload_n 0, 42, 0, 0, 0, 0, 0, 0, [])), (42, (.getfield 9, 45, 0, 0, 0, 0, 4, 208, [])), (45, (.iload_n 1, 46, 0, 0, 0, 0, 0, 0, [])), (46, (.iaload, 47, 0, 0, 0, 0, 0, 0, [])), (47, (.if_icmp .ne 27, 50, 74, 0, 0, 0, 0, 0, []))],
  [(50, (.aload_n 0, 51, 0, 0, 0, 0, 0, 0, [])), (51, (.getfield 18, 54, 0, 0, 0, 0, 6, 212, [])), (54, (.iload_n 1, 55, 0, 0, 0, 0, 0, 0, [])), (55, (.dup2, 56, 0, 0, 0, 0, 0, 0, [])), (56, (.iaload, 57, 0, 0, 0, 0, 0, 0, [])), (57, (.iconst 1, 58, 0, 1, 0, 0, 0, 0, [])), (58, (.iload_n 2, 59, 0, 0, 0, 0, 0, 0, [])), (59, (.ishl, 60, 0, 0, 0, 0, 0, 0, [])), (60, (.iconst (-1), 61, 0, -1, 0, 0, 0, 0, [])), (61, (.ixor, 62, 0, 0, 0, 0, 0, 0, [])), (62, (.iand, 63, 0, 0, 0, 0, 0, 0, [])), (63, (.iastore, 64, 0, 0, 0, 0, 0, 0, []))],
  [(64, (.aload_n 0, 65, 0, 0, 0, 0, 0, 0, [])), (65, (.getfield 21, 68, 0, 0, 0, 0, 8, 215, [])), (68, (.iload_n 2, 69, 0, 0, 0, 0, 0, 0, [])), (69, (.aload_n 0, 70, 0, 0, 0, 0, 0, 0, [])), (70, (.getfield 51, 73, 0, 0, 0, 0, 3, 205, [])), (73, (.iastore, 74, 0, 0, 0, 0, 0, 0, [])), (74, (.iinc 2 1, 77, 0, 1, 0, 0, 0, 0, [])), (77, (.goto (-75), 80, 2, 0, 0, 0, 0, 0, []))],
  [(80, (.return_, 81, 0, 0, 0, 0, 0, 0, []))]])
set_option maxRecDepth 100000 in
theorem kX0_letOff : xMk mX0_letOff = true := by decide +kernel
set_option maxRecDepth 100000 in
theorem bX0_letOff : xcB mX0_letOff 0 1 = true := by decide +kernel
def mX0_letOn : xM := (yX0_letOn, cX0_letOn, 5, none, [
  [(0, (.aload_n 0, 1, 0, 0, 0, 0, 0, 0, [])), (1, (.getfield 40, 4, 0, 0, 0, 0, 0, 202, [])), (4, (.getfield 155, 7, 0, 0, 0, 6, 3, 60, [])), (7, (.aload_n 0, 8, 0, 0, 0, 0, 0, 0, [])), (8, (.getfield 18, 11, 0, 0, 0, 0, 6, 212, [])), (11, (.iload_n 1, 12, 0, 0, 0, 0, 0, 0, [])), (12, (.iaload, 13, 0, 0, 0, 0, 0, 0, [])), (13, (.invokestatic 158, 16, 0, 0, 0, 0, 0, 667, []))],
  [(16, (.isub, 17, 0, 0, 0, 0, 0, 0, [])), (17, (.istore_n 2, 18, 0, 0, 0, 0, 0, 0, [])), (18, (.iconst 0, 19, 0, 0, 0, 0, 0, 0, [])), (19, (.istore_n 3, 20, 0, 0, 0, 0, 0, 0, [])), (20, (.iload_n 3, 21, 0, 0, 0, 0, 0, 0, [])), (21, (.bipush 8, 23, 0, 8, 0, 0, 0, 0, [])), (23, (.if_icmp .ge 88, 26, 111, 0, 0, 0, 0, 0, [])), (26, (.iload_n 2, 27, 0, 0, 0, 0, 0, 0, [])), (27, (.ifCond .le 84, 30, 111, 0, 0, 0, 0, 0, [])), (30, (.aload_n 0, 31, 0, 0, 0, 0, 0, 0, [])), (31, (.getfield 40, 34, 0, 0, 0, 0, 0, 202, []))],
  [(34, (.iload_n 3, 35, 0, 0, 0, 0, 0, 0, [])), (35, (.invokevirtual 163, 38, 0, 0, 0, 0, 0, 629, [])), (38, (.ifCond .eq 26, 41, 64, 0, 0, 0, 0, 0, [])), (41, (.aload_n 0, 42, 0, 0, 0, 0, 0, 0, [])), (42, (.getfield 21, 45, 0, 0, 0, 0, 8, 215, [])), (45, (.iload_n 3, 46, 0, 0, 0, 0, 0, 0, [])), (46, (.iaload, 47, 0, 0, 0, 0, 0, 0, [])), (47, (.iconst (-1), 48, 0, -1, 0, 0, 0, 0, []))],
  [(48, (.if_icmp .ne 16, 51, 64, 0, 0, 0, 0, 0, [])), (51, (.aload_n 0, 52, 0, 0, 0, 0, 0, 0, [])), (52, (.iload_n 3, 53, 0, 0, 0, 0, 0, 0, [])), (53, (.invokevirtual 166, 56, 0, 0, 0, 0, 0, 630, [])), (56, (.iconst (-1), 57, 0, -1, 0, 0, 0, 0, [])), (57, (.if_icmp .ne 7, 60, 64, 0, 0, 0, 0, 0, [])), (60, (.iconst 1, 61, 0, 1, 0, 0, 0, 0, [])), (61, (.goto 4, 64, 65, 0, 0, 0, 0, 0, []))],
  [(64, (.iconst 0, 65, 0, 0, 0, 0, 0, 0, [])), (65, (.istore 4, 67, 0, 0, 0, 0, 0, 0, [])), (67, (.iload 4, 69, 0, 0, 0, 0, 0, 0, [])), (69, (.ifCond .eq 36, 72, 105, 0, 0, 0, 0, 0, [])), (72, (.aload_n 0, 73, 0, 0, 0, 0, 0, 0, [])), (73, (.getfield 40, 76, 0, 0, 0, 0, 0, 202, [])), (76, (.getfield 169, 79, 0, 0, 0, 6, 10, 78, [])), (79, (.iload_n 3, 80, 0, 0, 0, 0, 0, 0, []))],
  [(80, (.iaload, 81, 0, 0, 0, 0, 0, 0, [])), (81, (.aload_n 0, 82, 0, 0, 0, 0, 0, 0, [])), (82, (.getfield 9, 85, 0, 0, 0, 0, 4, 208, [])), (85, (.iload_n 1, 86, 0, 0, 0, 0, 0, 0, [])), (86, (.iaload, 87, 0, 0, 0, 0, 0, 0, [])), (87, (.if_icmp .ne 18, 90, 105, 0, 0, 0, 0, 0, [])), (90, (.aload_n 0, 91, 0, 0, 0, 0, 0, 0, [])), (91, (.getfield 18, 94, 0, 0, 0, 0, 6, 212, [])), (94, (.iload_n 1, 95, 0, 0, 0, 0, 0, 0, [])), (95, (.dup2, 96, 0, 0, 0, 0, 0, 0, []))],
  [(96, (.iaload, 97, 0, 0, 0, 0, 0, 0, [])), (97, (.iconst 1, 98, 0, 1, 0, 0, 0, 0, [])), (98, (.iload_n 3, 99, 0, 0, 0, 0, 0, 0, [])), (99, (.ishl, 100, 0, 0, 0, 0, 0, 0, [])), (100, (.ior, 101, 0, 0, 0, 0, 0, 0, [])), (101, (.iastore, 102, 0, 0, 0, 0, 0, 0, [])), (102, (.iinc 2 (-1), 105, 0, -1, 0, 0, 0, 0, [])), (105, (.iinc 3 1, 108, 0, 1, 0, 0, 0, 0, [])), (108, (.goto (-88), 111, 20, 0, 0, 0, 0, 0, [])), (111, (.return_, 112, 0, 0, 0, 0, 0, 0, []))]])
set_option maxRecDepth 100000 in
theorem kX0_letOn : xMk mX0_letOn = true := by decide +kernel
set_option maxRecDepth 100000 in
theorem bX0_letOn : xcB mX0_letOn 0 1 = true := by decide +kernel
def mX0_moveOn : xM := (yX0_moveOn, cX0_moveOn, 3, none, [
  [(0, (.aload_n 0, 1, 0, 0, 0, 0, 0, 0, [])), (1, (.getfield 9, 4, 0, 0, 0, 0, 4, 208, [])), (4, (.iload_n 1, 5, 0, 0, 0, 0, 0, 0, [])), (5, (.iaload, 6, 0, 0, 0, 0, 0, 0, [])), (6, (.ifCond .gt 13, 9, 19, 0, 0, 0, 0, 0, [])), (9, (.aload_n 0, 10, 0, 0, 0, 0, 0, 0, [])), (10, (.getfield 15, 13, 0, 0, 0, 0, 5, 210, [])), (13, (.iload_n 1, 14, 0, 0, 0, 0, 0, 0, [])), (14, (.iconst 0, 15, 0, 0, 0, 0, 0, 0, [])), (15, (.iastore, 16, 0, 0, 0, 0, 0, 0, []))],
  [(16, (.goto 28, 19, 44, 0, 0, 0, 0, 0, [])), (19, (.aload_n 0, 20, 0, 0, 0, 0, 0, 0, [])), (20, (.getfield 9, 23, 0, 0, 0, 0, 4, 208, [])), (23, (.iload_n 1, 24, 0, 0, 0, 0, 0, 0, [])), (24, (.iaload, 25, 0, 0, 0, 0, 0, 0, [])), (25, (.aload_n 0, 26, 0, 0, 0, 0, 0, 0, [])), (26, (.getfield 40, 29, 0, 0, 0, 0, 0, 202, [])), (29, (.getfield 172, 32, 0, 0, 0, 6, 0, 49, []))],
  [(32, (.iconst 1, 33, 0, 1, 0, 0, 0, 0, [])), (33, (.isub, 34, 0, 0, 0, 0, 0, 0, [])), (34, (.if_icmp .lt 10, 37, 44, 0, 0, 0, 0, 0, [])), (37, (.aload_n 0, 38, 0, 0, 0, 0, 0, 0, [])), (38, (.getfield 15, 41, 0, 0, 0, 0, 5, 210, [])), (41, (.iload_n 1, 42, 0, 0, 0, 0, 0, 0, [])), (42, (.iconst 1, 43, 0, 1, 0, 0, 0, 0, [])), (43, (.iastore, 44, 0, 0, 0, 0, 0, 0, [])), (44, (.aload_n 0, 45, 0, 0, 0, 0, 0, 0, [])), (45, (.getfield 9, 48, 0, 0, 0, 0, 4, 208, []))],
  [(48, (.iload_n 1, 49, 0, 0, 0, 0, 0, 0, [])), (49, (.dup2, 50, 0, 0, 0, 0, 0, 0, [])), (50, (.iaload, 51, 0, 0, 0, 0, 0, 0, [])), (51, (.aload_n 0, 52, 0, 0, 0, 0, 0, 0, [])), (52, (.getfield 15, 55, 0, 0, 0, 0, 5, 210, [])), (55, (.iload_n 1, 56, 0, 0, 0, 0, 0, 0, [])), (56, (.iaload, 57, 0, 0, 0, 0, 0, 0, [])), (57, (.ifCond .ne 7, 60, 64, 0, 0, 0, 0, 0, [])), (60, (.iconst 1, 61, 0, 1, 0, 0, 0, 0, [])), (61, (.goto 4, 64, 65, 0, 0, 0, 0, 0, []))],
  [(64, (.iconst (-1), 65, 0, -1, 0, 0, 0, 0, [])), (65, (.iadd, 66, 0, 0, 0, 0, 0, 0, [])), (66, (.iastore, 67, 0, 0, 0, 0, 0, 0, [])), (67, (.aload_n 0, 68, 0, 0, 0, 0, 0, 0, [])), (68, (.dup, 69, 0, 0, 0, 0, 0, 0, [])), (69, (.getfield 62, 72, 0, 0, 0, 0, 7, 214, [])), (72, (.iconst 1, 73, 0, 1, 0, 0, 0, 0, [])), (73, (.iload_n 1, 74, 0, 0, 0, 0, 0, 0, [])), (74, (.ishl, 75, 0, 0, 0, 0, 0, 0, [])), (75, (.iconst (-1), 76, 0, -1, 0, 0, 0, 0, [])), (76, (.ixor, 77, 0, 0, 0, 0, 0, 0, [])), (77, (.iand, 78, 0, 0, 0, 0, 0, 0, [])), (78, (.putfield 62, 81, 0, 0, 0, 0, 7, 214, []))],
  [(81, (.aload_n 0, 82, 0, 0, 0, 0, 0, 0, [])), (82, (.getfield 18, 85, 0, 0, 0, 0, 6, 212, [])), (85, (.iload_n 1, 86, 0, 0, 0, 0, 0, 0, [])), (86, (.iaload, 87, 0, 0, 0, 0, 0, 0, [])), (87, (.ifCond .ne 4, 90, 91, 0, 0, 0, 0, 0, [])), (90, (.return_, 91, 0, 0, 0, 0, 0, 0, [])), (91, (.iconst 0, 92, 0, 0, 0, 0, 0, 0, [])), (92, (.istore_n 2, 93, 0, 0, 0, 0, 0, 0, [])), (93, (.iload_n 2, 94, 0, 0, 0, 0, 0, 0, [])), (94, (.bipush 8, 96, 0, 8, 0, 0, 0, 0, []))],
  [(96, (.if_icmp .ge 39, 99, 135, 0, 0, 0, 0, 0, [])), (99, (.aload_n 0, 100, 0, 0, 0, 0, 0, 0, [])), (100, (.getfield 18, 103, 0, 0, 0, 0, 6, 212, [])), (103, (.iload_n 1, 104, 0, 0, 0, 0, 0, 0, [])), (104, (.iaload, 105, 0, 0, 0, 0, 0, 0, [])), (105, (.iload_n 2, 106, 0, 0, 0, 0, 0, 0, [])), (106, (.ishr, 107, 0, 0, 0, 0, 0, 0, [])), (107, (.iconst 1, 108, 0, 1, 0, 0, 0, 0, [])), (108, (.iand, 109, 0, 0, 0, 0, 0, 0, [])), (109, (.iconst 1, 110, 0, 1, 0, 0, 0, 0, [])), (110, (.if_icmp .ne 19, 113, 129, 0, 0, 0, 0, 0, []))],
  [(113, (.aload_n 0, 114, 0, 0, 0, 0, 0, 0, [])), (114, (.getfield 24, 117, 0, 0, 0, 0, 9, 218, [])), (117, (.iload_n 2, 118, 0, 0, 0, 0, 0, 0, [])), (118, (.dup2, 119, 0, 0, 0, 0, 0, 0, [])), (119, (.iaload, 120, 0, 0, 0, 0, 0, 0, [])), (120, (.aload_n 0, 121, 0, 0, 0, 0, 0, 0, [])), (121, (.getfield 40, 124, 0, 0, 0, 0, 0, 202, [])), (124, (.getfield 175, 127, 0, 0, 0, 6, 4, 64, [])), (127, (.iadd, 128, 0, 0, 0, 0, 0, 0, []))],
  [(128, (.iastore, 129, 0, 0, 0, 0, 0, 0, [])), (129, (.iinc 2 1, 132, 0, 1, 0, 0, 0, 0, [])), (132, (.goto (-39), 135, 93, 0, 0, 0, 0, 0, [])), (135, (.return_, 136, 0, 0, 0, 0, 0, 0, []))]])
set_option maxRecDepth 100000 in
theorem kX0_moveOn : xMk mX0_moveOn = true := by decide +kernel
set_option maxRecDepth 100000 in
theorem bX0_moveOn : xcB mX0_moveOn 0 1 = true := by decide +kernel
def mX0_tramOf : xM := (yX0_tramOf, cX0_tramOf, 3, (some .int), [
  [(0, (.iconst 0, 1, 0, 0, 0, 0, 0, 0, [])), (1, (.istore_n 2, 2, 0, 0, 0, 0, 0, 0, [])), (2, (.iload_n 2, 3, 0, 0, 0, 0, 0, 0, [])), (3, (.iconst 2, 4, 0, 2, 0, 0, 0, 0, [])), (4, (.if_icmp .ge 25, 7, 29, 0, 0, 0, 0, 0, [])), (7, (.aload_n 0, 8, 0, 0, 0, 0, 0, 0, [])), (8, (.getfield 18, 11, 0, 0, 0, 0, 6, 212, [])), (11, (.iload_n 2, 12, 0, 0, 0, 0, 0, 0, [])), (12, (.iaload, 13, 0, 0, 0, 0, 0, 0, [])), (13, (.iload_n 1, 14, 0, 0, 0, 0, 0, 0, [])), (14, (.ishr, 15, 0, 0, 0, 0, 0, 0, [])), (15, (.iconst 1, 16, 0, 1, 0, 0, 0, 0, []))],
  [(16, (.iand, 17, 0, 0, 0, 0, 0, 0, [])), (17, (.iconst 1, 18, 0, 1, 0, 0, 0, 0, [])), (18, (.if_icmp .ne 5, 21, 23, 0, 0, 0, 0, 0, [])), (21, (.iload_n 2, 22, 0, 0, 0, 0, 0, 0, [])), (22, (.ireturn, 23, 0, 0, 0, 0, 0, 0, [])), (23, (.iinc 2 1, 26, 0, 1, 0, 0, 0, 0, [])), (26, (.goto (-24), 29, 2, 0, 0, 0, 0, 0, [])), (29, (.iconst (-1), 30, 0, -1, 0, 0, 0, 0, [])), (30, (.ireturn, 31, 0, 0, 0, 0, 0, 0, []))]])
set_option maxRecDepth 100000 in
theorem kX0_tramOf : xMk mX0_tramOf = true := by decide +kernel
set_option maxRecDepth 100000 in
theorem bX0_tramOf : xcB mX0_tramOf 0 1 = true := by decide +kernel
def mX0_placeOf : xM := (yX0_placeOf, cX0_placeOf, 3, (some .int), [
  [(0, (.aload_n 0, 1, 0, 0, 0, 0, 0, 0, [])), (1, (.getfield 40, 4, 0, 0, 0, 0, 0, 202, [])), (4, (.iload_n 1, 5, 0, 0, 0, 0, 0, 0, [])), (5, (.invokevirtual 163, 8, 0, 0, 0, 0, 0, 629, [])), (8, (.ifCond .ne 5, 11, 13, 0, 0, 0, 0, 0, [])), (11, (.iconst (-1), 12, 0, -1, 0, 0, 0, 0, [])), (12, (.ireturn, 13, 0, 0, 0, 0, 0, 0, [])), (13, (.aload_n 0, 14, 0, 0, 0, 0, 0, 0, [])), (14, (.iload_n 1, 15, 0, 0, 0, 0, 0, 0, [])), (15, (.invokevirtual 166, 18, 0, 0, 0, 0, 0, 630, []))],
  [(18, (.istore_n 2, 19, 0, 0, 0, 0, 0, 0, [])), (19, (.iload_n 2, 20, 0, 0, 0, 0, 0, 0, [])), (20, (.iconst (-1), 21, 0, -1, 0, 0, 0, 0, [])), (21, (.if_icmp .eq 10, 24, 31, 0, 0, 0, 0, 0, [])), (24, (.aload_n 0, 25, 0, 0, 0, 0, 0, 0, [])), (25, (.getfield 9, 28, 0, 0, 0, 0, 4, 208, [])), (28, (.iload_n 2, 29, 0, 0, 0, 0, 0, 0, [])), (29, (.iaload, 30, 0, 0, 0, 0, 0, 0, [])), (30, (.ireturn, 31, 0, 0, 0, 0, 0, 0, [])), (31, (.aload_n 0, 32, 0, 0, 0, 0, 0, 0, []))],
  [(32, (.getfield 21, 35, 0, 0, 0, 0, 8, 215, [])), (35, (.iload_n 1, 36, 0, 0, 0, 0, 0, 0, [])), (36, (.iaload, 37, 0, 0, 0, 0, 0, 0, [])), (37, (.iconst (-1), 38, 0, -1, 0, 0, 0, 0, [])), (38, (.if_icmp .ne 15, 41, 53, 0, 0, 0, 0, 0, [])), (41, (.aload_n 0, 42, 0, 0, 0, 0, 0, 0, [])), (42, (.getfield 40, 45, 0, 0, 0, 0, 0, 202, [])), (45, (.getfield 169, 48, 0, 0, 0, 6, 10, 78, []))],
  [(48, (.iload_n 1, 49, 0, 0, 0, 0, 0, 0, [])), (49, (.iaload, 50, 0, 0, 0, 0, 0, 0, [])), (50, (.goto 12, 53, 62, 0, 0, 0, 0, 0, [])), (53, (.aload_n 0, 54, 0, 0, 0, 0, 0, 0, [])), (54, (.getfield 40, 57, 0, 0, 0, 0, 0, 202, [])), (57, (.getfield 152, 60, 0, 0, 0, 6, 11, 81, [])), (60, (.iload_n 1, 61, 0, 0, 0, 0, 0, 0, [])), (61, (.iaload, 62, 0, 0, 0, 0, 0, 0, [])), (62, (.ireturn, 63, 0, 0, 0, 0, 0, 0, []))]])
set_option maxRecDepth 100000 in
theorem kX0_placeOf : xMk mX0_placeOf = true := by decide +kernel
set_option maxRecDepth 100000 in
theorem bX0_placeOf : xcB mX0_placeOf 0 1 = true := by decide +kernel
def mX0_lateness : xM := (yX0_lateness, cX0_lateness, 2, (some .int), [
  [(0, (.aload_n 0, 1, 0, 0, 0, 0, 0, 0, [])), (1, (.getfield 21, 4, 0, 0, 0, 0, 8, 215, [])), (4, (.iload_n 1, 5, 0, 0, 0, 0, 0, 0, [])), (5, (.iaload, 6, 0, 0, 0, 0, 0, 0, [])), (6, (.iconst (-1), 7, 0, -1, 0, 0, 0, 0, [])), (7, (.if_icmp .ne 8, 10, 15, 0, 0, 0, 0, 0, [])), (10, (.bipush 60, 12, 0, 60, 0, 0, 0, 0, [])), (12, (.goto 9, 15, 21, 0, 0, 0, 0, 0, [])), (15, (.aload_n 0, 16, 0, 0, 0, 0, 0, 0, []))],
  [(16, (.getfield 21, 19, 0, 0, 0, 0, 8, 215, [])), (19, (.iload_n 1, 20, 0, 0, 0, 0, 0, 0, [])), (20, (.iaload, 21, 0, 0, 0, 0, 0, 0, [])), (21, (.ireturn, 22, 0, 0, 0, 0, 0, 0, []))]])
set_option maxRecDepth 100000 in
theorem kX0_lateness : xMk mX0_lateness = true := by decide +kernel
set_option maxRecDepth 100000 in
theorem bX0_lateness : xcB mX0_lateness 0 1 = true := by decide +kernel
def mX0_lateOf : xM := (yX0_lateOf, cX0_lateOf, 4, (some .int), [
  [(0, (.iconst 0, 1, 0, 0, 0, 0, 0, 0, [])), (1, (.istore_n 2, 2, 0, 0, 0, 0, 0, 0, [])), (2, (.iconst 0, 3, 0, 0, 0, 0, 0, 0, [])), (3, (.istore_n 3, 4, 0, 0, 0, 0, 0, 0, [])), (4, (.iload_n 3, 5, 0, 0, 0, 0, 0, 0, [])), (5, (.bipush 8, 7, 0, 8, 0, 0, 0, 0, [])), (7, (.if_icmp .ge 41, 10, 48, 0, 0, 0, 0, 0, [])), (10, (.aload_n 0, 11, 0, 0, 0, 0, 0, 0, [])), (11, (.getfield 40, 14, 0, 0, 0, 0, 0, 202, [])), (14, (.iload_n 3, 15, 0, 0, 0, 0, 0, 0, [])), (15, (.invokevirtual 163, 18, 0, 0, 0, 0, 0, 629, []))],
  [(18, (.ifCond .eq 24, 21, 42, 0, 0, 0, 0, 0, [])), (21, (.aload_n 0, 22, 0, 0, 0, 0, 0, 0, [])), (22, (.getfield 40, 25, 0, 0, 0, 0, 0, 202, [])), (25, (.getfield 169, 28, 0, 0, 0, 6, 10, 78, [])), (28, (.iload_n 3, 29, 0, 0, 0, 0, 0, 0, [])), (29, (.iaload, 30, 0, 0, 0, 0, 0, 0, [])), (30, (.iload_n 1, 31, 0, 0, 0, 0, 0, 0, [])), (31, (.if_icmp .ne 11, 34, 42, 0, 0, 0, 0, 0, []))],
  [(34, (.iload_n 2, 35, 0, 0, 0, 0, 0, 0, [])), (35, (.aload_n 0, 36, 0, 0, 0, 0, 0, 0, [])), (36, (.iload_n 3, 37, 0, 0, 0, 0, 0, 0, [])), (37, (.invokevirtual 178, 40, 0, 0, 0, 0, 0, 763, [])), (40, (.iadd, 41, 0, 0, 0, 0, 0, 0, [])), (41, (.istore_n 2, 42, 0, 0, 0, 0, 0, 0, [])), (42, (.iinc 3 1, 45, 0, 1, 0, 0, 0, 0, [])), (45, (.goto (-41), 48, 4, 0, 0, 0, 0, 0, []))],
  [(48, (.iload_n 2, 49, 0, 0, 0, 0, 0, 0, [])), (49, (.ireturn, 50, 0, 0, 0, 0, 0, 0, []))]])
set_option maxRecDepth 100000 in
theorem kX0_lateOf : xMk mX0_lateOf = true := by decide +kernel
set_option maxRecDepth 100000 in
theorem bX0_lateOf : xcB mX0_lateOf 0 1 = true := by decide +kernel
def mX0_lateOfAll : xM := (yX0_lateOfAll, cX0_lateOfAll, 3, (some .int), [
  [(0, (.iconst 0, 1, 0, 0, 0, 0, 0, 0, [])), (1, (.istore_n 1, 2, 0, 0, 0, 0, 0, 0, [])), (2, (.iconst 0, 3, 0, 0, 0, 0, 0, 0, [])), (3, (.istore_n 2, 4, 0, 0, 0, 0, 0, 0, [])), (4, (.iload_n 2, 5, 0, 0, 0, 0, 0, 0, [])), (5, (.bipush 8, 7, 0, 8, 0, 0, 0, 0, [])), (7, (.if_icmp .ge 28, 10, 35, 0, 0, 0, 0, 0, [])), (10, (.aload_n 0, 11, 0, 0, 0, 0, 0, 0, [])), (11, (.getfield 40, 14, 0, 0, 0, 0, 0, 202, [])), (14, (.iload_n 2, 15, 0, 0, 0, 0, 0, 0, [])), (15, (.invokevirtual 163, 18, 0, 0, 0, 0, 0, 629, []))],
  [(18, (.ifCond .eq 11, 21, 29, 0, 0, 0, 0, 0, [])), (21, (.iload_n 1, 22, 0, 0, 0, 0, 0, 0, [])), (22, (.aload_n 0, 23, 0, 0, 0, 0, 0, 0, [])), (23, (.iload_n 2, 24, 0, 0, 0, 0, 0, 0, [])), (24, (.invokevirtual 178, 27, 0, 0, 0, 0, 0, 763, [])), (27, (.iadd, 28, 0, 0, 0, 0, 0, 0, [])), (28, (.istore_n 1, 29, 0, 0, 0, 0, 0, 0, [])), (29, (.iinc 2 1, 32, 0, 1, 0, 0, 0, 0, []))],
  [(32, (.goto (-28), 35, 4, 0, 0, 0, 0, 0, [])), (35, (.iload_n 1, 36, 0, 0, 0, 0, 0, 0, [])), (36, (.ireturn, 37, 0, 0, 0, 0, 0, 0, []))]])
set_option maxRecDepth 100000 in
theorem kX0_lateOfAll : xMk mX0_lateOfAll = true := by decide +kernel
set_option maxRecDepth 100000 in
theorem bX0_lateOfAll : xcB mX0_lateOfAll 0 0 = true := by decide +kernel
end
section
/-! the rows of the methods of X4 -/
def mX4_init : xM := (yX4_init, cX4_init, 3, none, [
  [(0, (.aload_n 0, 1, 0, 0, 0, 0, 0, 0, [])), (1, (.invokespecial 3, 4, 0, 0, 0, 1, 0, 137, [])), (4, (.aload_n 0, 5, 0, 0, 0, 0, 0, 0, [])), (5, (.new 9, 8, 0, 0, 0, 6, 0, 138, [])), (8, (.dup, 9, 0, 0, 0, 0, 0, 0, [])), (9, (.invokespecial 11, 12, 0, 0, 0, 0, 0, 0, [])), (12, (.putfield 12, 15, 2, 1, 0, 4, 2, 142, [])), (15, (.aload_n 0, 16, 0, 0, 0, 0, 0, 0, []))],
  [(16, (.iconst 4, 17, 0, 4, 0, 0, 0, 0, [])), (17, (.newarray .int, 19, 0, 0, 0, 0, 4, 0, [])), (19, (.putfield 18, 22, 2, 1, 0, 4, 3, 144, [])), (22, (.aload_n 0, 23, 0, 0, 0, 0, 0, 0, [])), (23, (.aload_n 1, 24, 0, 0, 0, 0, 0, 0, [])), (24, (.putfield 22, 27, 2, 1, 0, 4, 0, 140, [])), (27, (.aload_n 0, 28, 0, 0, 0, 0, 0, 0, [])), (28, (.aload_n 2, 29, 0, 0, 0, 0, 0, 0, [])), (29, (.putfield 26, 32, 2, 1, 0, 4, 1, 141, []))],
  [(32, (.return_, 33, 0, 0, 0, 0, 0, 0, []))]])
set_option maxRecDepth 100000 in
theorem kX4_init : xMk mX4_init = true := by decide +kernel
set_option maxRecDepth 100000 in
theorem bX4_init : xcB mX4_init 2 2 = true := by decide +kernel
def mX4_readLines : xM := (yX4_readLines, cX4_readLines, 3, none, [
  [(0, (.aload_n 0, 1, 0, 0, 0, 0, 0, 0, [])), (1, (.getfield 12, 4, 0, 0, 0, 4, 2, 142, [])), (4, (.aload_n 0, 5, 0, 0, 0, 0, 0, 0, [])), (5, (.getfield 26, 8, 0, 0, 0, 4, 1, 141, [])), (8, (.invokevirtual 29, 11, 0, 0, 0, 0, 0, 412, [])), (11, (.aload_n 0, 12, 0, 0, 0, 0, 0, 0, [])), (12, (.iconst (-1), 13, 0, -1, 0, 0, 0, 0, [])), (13, (.putfield 33, 16, 0, 0, 0, 4, 4, 145, []))],
  [(16, (.aload_n 0, 17, 0, 0, 0, 0, 0, 0, [])), (17, (.iconst 0, 18, 0, 0, 0, 0, 0, 0, [])), (18, (.putfield 37, 21, 0, 0, 0, 4, 5, 147, [])), (21, (.aload_n 0, 22, 0, 0, 0, 0, 0, 0, [])), (22, (.iconst 0, 23, 0, 0, 0, 0, 0, 0, [])), (23, (.putfield 40, 26, 0, 0, 0, 4, 7, 150, [])), (26, (.iconst 1, 27, 0, 1, 0, 0, 0, 0, [])), (27, (.istore_n 1, 28, 0, 0, 0, 0, 0, 0, [])), (28, (.iconst 0, 29, 0, 0, 0, 0, 0, 0, [])), (29, (.istore_n 2, 30, 0, 0, 0, 0, 0, 0, [])), (30, (.iload_n 2, 31, 0, 0, 0, 0, 0, 0, [])), (31, (.bipush 10, 33, 0, 10, 0, 0, 0, 0, []))],
  [(33, (.if_icmp .ge 51, 36, 84, 0, 0, 0, 0, 0, [])), (36, (.iload_n 1, 37, 0, 0, 0, 0, 0, 0, [])), (37, (.ifCond .eq 47, 40, 84, 0, 0, 0, 0, 0, [])), (40, (.aload_n 0, 41, 0, 0, 0, 0, 0, 0, [])), (41, (.invokevirtual 43, 44, 0, 0, 0, 0, 0, 419, [])), (44, (.aload_n 0, 45, 0, 0, 0, 0, 0, 0, [])), (45, (.invokevirtual 46, 48, 0, 0, 0, 0, 0, 433, []))],
  [(48, (.aload_n 0, 49, 0, 0, 0, 0, 0, 0, [])), (49, (.getfield 33, 52, 0, 0, 0, 4, 4, 145, [])), (52, (.iconst (-1), 53, 0, -1, 0, 0, 0, 0, [])), (53, (.if_icmp .ne 23, 56, 76, 0, 0, 0, 0, 0, [])), (56, (.aload_n 0, 57, 0, 0, 0, 0, 0, 0, [])), (57, (.getfield 22, 60, 0, 0, 0, 4, 0, 140, [])), (60, (.aload_n 0, 61, 0, 0, 0, 0, 0, 0, [])), (61, (.getfield 49, 64, 0, 0, 0, 4, 6, 149, []))],
  [(64, (.invokevirtual 52, 67, 0, 0, 0, 0, 0, 423, [])), (67, (.bipush 59, 69, 0, 59, 0, 0, 0, 0, [])), (69, (.if_icmp .ne 7, 72, 76, 0, 0, 0, 0, 0, [])), (72, (.iconst 1, 73, 0, 1, 0, 0, 0, 0, [])), (73, (.goto 4, 76, 77, 0, 0, 0, 0, 0, [])), (76, (.iconst 0, 77, 0, 0, 0, 0, 0, 0, [])), (77, (.istore_n 1, 78, 0, 0, 0, 0, 0, 0, [])), (78, (.iinc 2 1, 81, 0, 1, 0, 0, 0, 0, []))],
  [(81, (.goto (-51), 84, 30, 0, 0, 0, 0, 0, [])), (84, (.aload_n 0, 85, 0, 0, 0, 0, 0, 0, [])), (85, (.getfield 33, 88, 0, 0, 0, 4, 4, 145, [])), (88, (.iconst (-1), 89, 0, -1, 0, 0, 0, 0, [])), (89, (.if_icmp .ne 25, 92, 114, 0, 0, 0, 0, 0, [])), (92, (.aload_n 0, 93, 0, 0, 0, 0, 0, 0, [])), (93, (.getfield 49, 96, 0, 0, 0, 4, 6, 149, []))],
  [(96, (.aload_n 0, 97, 0, 0, 0, 0, 0, 0, [])), (97, (.getfield 22, 100, 0, 0, 0, 4, 0, 140, [])), (100, (.getfield 58, 103, 0, 0, 0, 5, 1, 35, [])), (103, (.if_icmp .ge 11, 106, 114, 0, 0, 0, 0, 0, [])), (106, (.aload_n 0, 107, 0, 0, 0, 0, 0, 0, [])), (107, (.aload_n 0, 108, 0, 0, 0, 0, 0, 0, [])), (108, (.getfield 49, 111, 0, 0, 0, 4, 6, 149, [])), (111, (.putfield 33, 114, 0, 0, 0, 4, 4, 145, []))],
  [(114, (.return_, 115, 0, 0, 0, 0, 0, 0, []))]])
set_option maxRecDepth 100000 in
theorem kX4_readLines : xMk mX4_readLines = true := by decide +kernel
set_option maxRecDepth 100000 in
theorem bX4_readLines : xcB mX4_readLines 0 0 = true := by decide +kernel
def mX4_readLine : xM := (yX4_readLine, cX4_readLine, 3, none, [
  [(0, (.aload_n 0, 1, 0, 0, 0, 0, 0, 0, [])), (1, (.invokevirtual 61, 4, 0, 0, 0, 0, 0, 437, [])), (4, (.istore_n 1, 5, 0, 0, 0, 0, 0, 0, [])), (5, (.aload_n 0, 6, 0, 0, 0, 0, 0, 0, [])), (6, (.iload_n 1, 7, 0, 0, 0, 0, 0, 0, [])), (7, (.invokevirtual 65, 10, 0, 0, 0, 0, 0, 508, [])), (10, (.ifCond .ne 12, 13, 22, 0, 0, 0, 0, 0, [])), (13, (.aload_n 0, 14, 0, 0, 0, 0, 0, 0, [])), (14, (.aload_n 0, 15, 0, 0, 0, 0, 0, 0, [])), (15, (.getfield 49, 18, 0, 0, 0, 4, 6, 149, []))],
  [(18, (.putfield 33, 21, 0, 0, 0, 4, 4, 145, [])), (21, (.return_, 22, 0, 0, 0, 0, 0, 0, [])), (22, (.aload_n 0, 23, 0, 0, 0, 0, 0, 0, [])), (23, (.invokevirtual 43, 26, 0, 0, 0, 0, 0, 419, [])), (26, (.iconst 0, 27, 0, 0, 0, 0, 0, 0, [])), (27, (.istore_n 2, 28, 0, 0, 0, 0, 0, 0, [])), (28, (.iload_n 2, 29, 0, 0, 0, 0, 0, 0, [])), (29, (.getstatic 69, 32, 0, 0, 0, 1, 0, 512, []))],
  [(32, (.iload_n 1, 33, 0, 0, 0, 0, 0, 0, [])), (33, (.iaload, 34, 0, 0, 0, 0, 0, 0, [])), (34, (.if_icmp .ge 46, 37, 80, 0, 0, 0, 0, 0, [])), (37, (.iload_n 2, 38, 0, 0, 0, 0, 0, 0, [])), (38, (.iconst 4, 39, 0, 4, 0, 0, 0, 0, [])), (39, (.if_icmp .ge 41, 42, 80, 0, 0, 0, 0, 0, [])), (42, (.aload_n 0, 43, 0, 0, 0, 0, 0, 0, [])), (43, (.getfield 18, 46, 0, 0, 0, 4, 3, 144, [])), (46, (.iload_n 2, 47, 0, 0, 0, 0, 0, 0, [])), (47, (.aload_n 0, 48, 0, 0, 0, 0, 0, 0, []))],
  [(48, (.invokevirtual 72, 51, 0, 0, 0, 0, 0, 514, [])), (51, (.iastore, 52, 0, 0, 0, 0, 0, 0, [])), (52, (.aload_n 0, 53, 0, 0, 0, 0, 0, 0, [])), (53, (.iload_n 1, 54, 0, 0, 0, 0, 0, 0, [])), (54, (.iload_n 2, 55, 0, 0, 0, 0, 0, 0, [])), (55, (.invokevirtual 75, 58, 0, 0, 0, 0, 0, 518, [])), (58, (.ifCond .ne 12, 61, 70, 0, 0, 0, 0, 0, [])), (61, (.aload_n 0, 62, 0, 0, 0, 0, 0, 0, [])), (62, (.aload_n 0, 63, 0, 0, 0, 0, 0, 0, [])), (63, (.getfield 49, 66, 0, 0, 0, 4, 6, 149, []))],
  [(66, (.putfield 33, 69, 0, 0, 0, 4, 4, 145, [])), (69, (.return_, 70, 0, 0, 0, 0, 0, 0, [])), (70, (.aload_n 0, 71, 0, 0, 0, 0, 0, 0, [])), (71, (.invokevirtual 43, 74, 0, 0, 0, 0, 0, 419, [])), (74, (.iinc 2 1, 77, 0, 1, 0, 0, 0, 0, [])), (77, (.goto (-49), 80, 28, 0, 0, 0, 0, 0, []))],
  [(80, (.aload_n 0, 81, 0, 0, 0, 0, 0, 0, [])), (81, (.iload_n 1, 82, 0, 0, 0, 0, 0, 0, [])), (82, (.invokevirtual 79, 85, 0, 0, 0, 0, 0, 541, [])), (85, (.aload_n 0, 86, 0, 0, 0, 0, 0, 0, [])), (86, (.dup, 87, 0, 0, 0, 0, 0, 0, [])), (87, (.getfield 37, 90, 0, 0, 0, 4, 5, 147, [])), (90, (.iconst 1, 91, 0, 1, 0, 0, 0, 0, [])), (91, (.iadd, 92, 0, 0, 0, 0, 0, 0, [])), (92, (.putfield 37, 95, 0, 0, 0, 4, 5, 147, [])), (95, (.return_, 96, 0, 0, 0, 0, 0, 0, []))]])
set_option maxRecDepth 100000 in
theorem kX4_readLine : xMk mX4_readLine = true := by decide +kernel
set_option maxRecDepth 100000 in
theorem bX4_readLine : xcB mX4_readLine 0 0 = true := by decide +kernel
def mX4_takeToken : xM := (yX4_takeToken, cX4_takeToken, 2, none, [
  [(0, (.aload_n 0, 1, 0, 0, 0, 0, 0, 0, [])), (1, (.aload_n 0, 2, 0, 0, 0, 0, 0, 0, [])), (2, (.getfield 40, 5, 0, 0, 0, 4, 7, 150, [])), (5, (.putfield 49, 8, 0, 0, 0, 4, 6, 149, [])), (8, (.iconst 0, 9, 0, 0, 0, 0, 0, 0, [])), (9, (.istore_n 1, 10, 0, 0, 0, 0, 0, 0, [])), (10, (.iload_n 1, 11, 0, 0, 0, 0, 0, 0, [])), (11, (.sipush 200, 14, 0, 200, 0, 0, 0, 0, [])), (14, (.if_icmp .ge 35, 17, 49, 0, 0, 0, 0, 0, []))],
  [(17, (.aload_n 0, 18, 0, 0, 0, 0, 0, 0, [])), (18, (.getfield 22, 21, 0, 0, 0, 4, 0, 140, [])), (21, (.aload_n 0, 22, 0, 0, 0, 0, 0, 0, [])), (22, (.getfield 49, 25, 0, 0, 0, 4, 6, 149, [])), (25, (.invokevirtual 52, 28, 0, 0, 0, 0, 0, 423, [])), (28, (.bipush 32, 30, 0, 32, 0, 0, 0, 0, [])), (30, (.if_icmp .ne 19, 33, 49, 0, 0, 0, 0, 0, []))],
  [(33, (.aload_n 0, 34, 0, 0, 0, 0, 0, 0, [])), (34, (.dup, 35, 0, 0, 0, 0, 0, 0, [])), (35, (.getfield 49, 38, 0, 0, 0, 4, 6, 149, [])), (38, (.iconst 1, 39, 0, 1, 0, 0, 0, 0, [])), (39, (.iadd, 40, 0, 0, 0, 0, 0, 0, [])), (40, (.putfield 49, 43, 0, 0, 0, 4, 6, 149, [])), (43, (.iinc 1 1, 46, 0, 1, 0, 0, 0, 0, [])), (46, (.goto (-36), 49, 10, 0, 0, 0, 0, 0, []))],
  [(49, (.aload_n 0, 50, 0, 0, 0, 0, 0, 0, [])), (50, (.aload_n 0, 51, 0, 0, 0, 0, 0, 0, [])), (51, (.getfield 49, 54, 0, 0, 0, 4, 6, 149, [])), (54, (.putfield 40, 57, 0, 0, 0, 4, 7, 150, [])), (57, (.aload_n 0, 58, 0, 0, 0, 0, 0, 0, [])), (58, (.getfield 49, 61, 0, 0, 0, 4, 6, 149, [])), (61, (.aload_n 0, 62, 0, 0, 0, 0, 0, 0, [])), (62, (.getfield 22, 65, 0, 0, 0, 4, 0, 140, []))],
  [(65, (.getfield 58, 68, 0, 0, 0, 5, 1, 35, [])), (68, (.if_icmp .ge 13, 71, 81, 0, 0, 0, 0, 0, [])), (71, (.aload_n 0, 72, 0, 0, 0, 0, 0, 0, [])), (72, (.dup, 73, 0, 0, 0, 0, 0, 0, [])), (73, (.getfield 40, 76, 0, 0, 0, 4, 7, 150, [])), (76, (.iconst 1, 77, 0, 1, 0, 0, 0, 0, [])), (77, (.iadd, 78, 0, 0, 0, 0, 0, 0, [])), (78, (.putfield 40, 81, 0, 0, 0, 4, 7, 150, []))],
  [(81, (.aload_n 0, 82, 0, 0, 0, 0, 0, 0, [])), (82, (.getfield 22, 85, 0, 0, 0, 4, 0, 140, [])), (85, (.aload_n 0, 86, 0, 0, 0, 0, 0, 0, [])), (86, (.getfield 49, 89, 0, 0, 0, 4, 6, 149, [])), (89, (.invokevirtual 52, 92, 0, 0, 0, 0, 0, 423, [])), (92, (.invokestatic 83, 95, 0, 0, 0, 0, 0, 427, [])), (95, (.ifCond .eq 48, 98, 143, 0, 0, 0, 0, 0, []))],
  [(98, (.iconst 0, 99, 0, 0, 0, 0, 0, 0, [])), (99, (.istore_n 1, 100, 0, 0, 0, 0, 0, 0, [])), (100, (.iload_n 1, 101, 0, 0, 0, 0, 0, 0, [])), (101, (.sipush 200, 104, 0, 200, 0, 0, 0, 0, [])), (104, (.if_icmp .ge 36, 107, 140, 0, 0, 0, 0, 0, [])), (107, (.aload_n 0, 108, 0, 0, 0, 0, 0, 0, [])), (108, (.getfield 22, 111, 0, 0, 0, 4, 0, 140, [])), (111, (.aload_n 0, 112, 0, 0, 0, 0, 0, 0, []))],
  [(112, (.getfield 40, 115, 0, 0, 0, 4, 7, 150, [])), (115, (.invokevirtual 52, 118, 0, 0, 0, 0, 0, 423, [])), (118, (.invokestatic 83, 121, 0, 0, 0, 0, 0, 427, [])), (121, (.ifCond .eq 19, 124, 140, 0, 0, 0, 0, 0, [])), (124, (.aload_n 0, 125, 0, 0, 0, 0, 0, 0, [])), (125, (.dup, 126, 0, 0, 0, 0, 0, 0, [])), (126, (.getfield 40, 129, 0, 0, 0, 4, 7, 150, []))],
  [(129, (.iconst 1, 130, 0, 1, 0, 0, 0, 0, [])), (130, (.iadd, 131, 0, 0, 0, 0, 0, 0, [])), (131, (.putfield 40, 134, 0, 0, 0, 4, 7, 150, [])), (134, (.iinc 1 1, 137, 0, 1, 0, 0, 0, 0, [])), (137, (.goto (-37), 140, 100, 0, 0, 0, 0, 0, [])), (140, (.goto 62, 143, 202, 0, 0, 0, 0, 0, [])), (143, (.aload_n 0, 144, 0, 0, 0, 0, 0, 0, []))],
  [(144, (.getfield 22, 147, 0, 0, 0, 4, 0, 140, [])), (147, (.aload_n 0, 148, 0, 0, 0, 0, 0, 0, [])), (148, (.getfield 49, 151, 0, 0, 0, 4, 6, 149, [])), (151, (.invokevirtual 52, 154, 0, 0, 0, 0, 0, 423, [])), (154, (.invokestatic 86, 157, 0, 0, 0, 0, 0, 430, [])), (157, (.ifCond .eq 45, 160, 202, 0, 0, 0, 0, 0, []))],
  [(160, (.iconst 0, 161, 0, 0, 0, 0, 0, 0, [])), (161, (.istore_n 1, 162, 0, 0, 0, 0, 0, 0, [])), (162, (.iload_n 1, 163, 0, 0, 0, 0, 0, 0, [])), (163, (.sipush 200, 166, 0, 200, 0, 0, 0, 0, [])), (166, (.if_icmp .ge 36, 169, 202, 0, 0, 0, 0, 0, [])), (169, (.aload_n 0, 170, 0, 0, 0, 0, 0, 0, [])), (170, (.getfield 22, 173, 0, 0, 0, 4, 0, 140, [])), (173, (.aload_n 0, 174, 0, 0, 0, 0, 0, 0, [])), (174, (.getfield 40, 177, 0, 0, 0, 4, 7, 150, []))],
  [(177, (.invokevirtual 52, 180, 0, 0, 0, 0, 0, 423, [])), (180, (.invokestatic 86, 183, 0, 0, 0, 0, 0, 430, [])), (183, (.ifCond .eq 19, 186, 202, 0, 0, 0, 0, 0, [])), (186, (.aload_n 0, 187, 0, 0, 0, 0, 0, 0, [])), (187, (.dup, 188, 0, 0, 0, 0, 0, 0, [])), (188, (.getfield 40, 191, 0, 0, 0, 4, 7, 150, [])), (191, (.iconst 1, 192, 0, 1, 0, 0, 0, 0, []))],
  [(192, (.iadd, 193, 0, 0, 0, 0, 0, 0, [])), (193, (.putfield 40, 196, 0, 0, 0, 4, 7, 150, [])), (196, (.iinc 1 1, 199, 0, 1, 0, 0, 0, 0, [])), (199, (.goto (-37), 202, 162, 0, 0, 0, 0, 0, [])), (202, (.return_, 203, 0, 0, 0, 0, 0, 0, []))]])
set_option maxRecDepth 100000 in
theorem kX4_takeToken : xMk mX4_takeToken = true := by decide +kernel
set_option maxRecDepth 100000 in
theorem bX4_takeToken : xcB mX4_takeToken 0 0 = true := by decide +kernel
def mX4_isLetter : xM := (yX4_isLetter, cX4_isLetter, 1, (some .boolean), [
  [(0, (.iload_n 0, 1, 0, 0, 0, 0, 0, 0, [])), (1, (.bipush 97, 3, 0, 97, 0, 0, 0, 0, [])), (3, (.if_icmp .lt 13, 6, 16, 0, 0, 0, 0, 0, [])), (6, (.iload_n 0, 7, 0, 0, 0, 0, 0, 0, [])), (7, (.bipush 122, 9, 0, 122, 0, 0, 0, 0, [])), (9, (.if_icmp .gt 7, 12, 16, 0, 0, 0, 0, 0, [])), (12, (.iconst 1, 13, 0, 1, 0, 0, 0, 0, [])), (13, (.goto 4, 16, 17, 0, 0, 0, 0, 0, []))],
  [(16, (.iconst 0, 17, 0, 0, 0, 0, 0, 0, [])), (17, (.ireturn, 18, 0, 0, 0, 0, 0, 0, []))]])
set_option maxRecDepth 100000 in
theorem kX4_isLetter : xMk mX4_isLetter = true := by decide +kernel
set_option maxRecDepth 100000 in
theorem bX4_isLetter : xcB mX4_isLetter 1 1 = true := by decide +kernel
def mX4_isDigit : xM := (yX4_isDigit, cX4_isDigit, 1, (some .boolean), [
  [(0, (.iload_n 0, 1, 0, 0, 0, 0, 0, 0, [])), (1, (.bipush 48, 3, 0, 48, 0, 0, 0, 0, [])), (3, (.if_icmp .lt 13, 6, 16, 0, 0, 0, 0, 0, [])), (6, (.iload_n 0, 7, 0, 0, 0, 0, 0, 0, [])), (7, (.bipush 57, 9, 0, 57, 0, 0, 0, 0, [])), (9, (.if_icmp .gt 7, 12, 16, 0, 0, 0, 0, 0, [])), (12, (.iconst 1, 13, 0, 1, 0, 0, 0, 0, [])), (13, (.goto 4, 16, 17, 0, 0, 0, 0, 0, []))],
  [(16, (.iconst 0, 17, 0, 0, 0, 0, 0, 0, [])), (17, (.ireturn, 18, 0, 0, 0, 0, 0, 0, []))]])
set_option maxRecDepth 100000 in
theorem kX4_isDigit : xMk mX4_isDigit = true := by decide +kernel
set_option maxRecDepth 100000 in
theorem bX4_isDigit : xcB mX4_isDigit 1 1 = true := by decide +kernel
def mX4_wordInHand : xM := (yX4_wordInHand, cX4_wordInHand, 1, (some .int), [
  [(0, (.aload_n 0, 1, 0, 0, 0, 0, 0, 0, [])), (1, (.ldc 89, 3, 0, 0, 0, 1, 0, 0, [])), (3, (.invokevirtual 91, 6, 0, 0, 0, 0, 0, 442, [])), (6, (.ifCond .eq 5, 9, 11, 0, 0, 0, 0, 0, [])), (9, (.iconst 0, 10, 0, 0, 0, 0, 0, 0, [])), (10, (.ireturn, 11, 0, 0, 0, 0, 0, 0, [])), (11, (.aload_n 0, 12, 0, 0, 0, 0, 0, 0, [])), (12, (.ldc 95, 14, 0, 0, 0, 1, 1, 0, [])), (14, (.invokevirtual 91, 17, 0, 0, 0, 0, 0, 442, []))],
  [(17, (.ifCond .eq 5, 20, 22, 0, 0, 0, 0, 0, [])), (20, (.iconst 1, 21, 0, 1, 0, 0, 0, 0, [])), (21, (.ireturn, 22, 0, 0, 0, 0, 0, 0, [])), (22, (.aload_n 0, 23, 0, 0, 0, 0, 0, 0, [])), (23, (.ldc 97, 25, 0, 0, 0, 1, 2, 0, [])), (25, (.invokevirtual 91, 28, 0, 0, 0, 0, 0, 442, [])), (28, (.ifCond .eq 5, 31, 33, 0, 0, 0, 0, 0, [])), (31, (.iconst 2, 32, 0, 2, 0, 0, 0, 0, []))],
  [(32, (.ireturn, 33, 0, 0, 0, 0, 0, 0, [])), (33, (.aload_n 0, 34, 0, 0, 0, 0, 0, 0, [])), (34, (.ldc 99, 36, 0, 0, 0, 1, 3, 0, [])), (36, (.invokevirtual 91, 39, 0, 0, 0, 0, 0, 442, [])), (39, (.ifCond .eq 5, 42, 44, 0, 0, 0, 0, 0, [])), (42, (.iconst 3, 43, 0, 3, 0, 0, 0, 0, [])), (43, (.ireturn, 44, 0, 0, 0, 0, 0, 0, [])), (44, (.aload_n 0, 45, 0, 0, 0, 0, 0, 0, [])), (45, (.ldc 101, 47, 0, 0, 0, 1, 4, 0, [])), (47, (.invokevirtual 91, 50, 0, 0, 0, 0, 0, 442, []))],
  [(50, (.ifCond .eq 5, 53, 55, 0, 0, 0, 0, 0, [])), (53, (.iconst 4, 54, 0, 4, 0, 0, 0, 0, [])), (54, (.ireturn, 55, 0, 0, 0, 0, 0, 0, [])), (55, (.aload_n 0, 56, 0, 0, 0, 0, 0, 0, [])), (56, (.ldc 103, 58, 0, 0, 0, 1, 5, 0, [])), (58, (.invokevirtual 91, 61, 0, 0, 0, 0, 0, 442, [])), (61, (.ifCond .eq 5, 64, 66, 0, 0, 0, 0, 0, []))],
  [(64, (.iconst 5, 65, 0, 5, 0, 0, 0, 0, [])), (65, (.ireturn, 66, 0, 0, 0, 0, 0, 0, [])), (66, (.aload_n 0, 67, 0, 0, 0, 0, 0, 0, [])), (67, (.ldc 105, 69, 0, 0, 0, 1, 6, 0, [])), (69, (.invokevirtual 91, 72, 0, 0, 0, 0, 0, 442, [])), (72, (.ifCond .eq 6, 75, 78, 0, 0, 0, 0, 0, [])), (75, (.bipush 6, 77, 0, 6, 0, 0, 0, 0, [])), (77, (.ireturn, 78, 0, 0, 0, 0, 0, 0, [])), (78, (.aload_n 0, 79, 0, 0, 0, 0, 0, 0, [])), (79, (.ldc 107, 81, 0, 0, 0, 1, 7, 0, []))],
  [(81, (.invokevirtual 91, 84, 0, 0, 0, 0, 0, 442, [])), (84, (.ifCond .eq 6, 87, 90, 0, 0, 0, 0, 0, [])), (87, (.bipush 7, 89, 0, 7, 0, 0, 0, 0, [])), (89, (.ireturn, 90, 0, 0, 0, 0, 0, 0, [])), (90, (.aload_n 0, 91, 0, 0, 0, 0, 0, 0, [])), (91, (.ldc 109, 93, 0, 0, 0, 1, 8, 0, [])), (93, (.invokevirtual 91, 96, 0, 0, 0, 0, 0, 442, []))],
  [(96, (.ifCond .eq 6, 99, 102, 0, 0, 0, 0, 0, [])), (99, (.bipush 8, 101, 0, 8, 0, 0, 0, 0, [])), (101, (.ireturn, 102, 0, 0, 0, 0, 0, 0, [])), (102, (.aload_n 0, 103, 0, 0, 0, 0, 0, 0, [])), (103, (.ldc 111, 105, 0, 0, 0, 1, 9, 0, [])), (105, (.invokevirtual 91, 108, 0, 0, 0, 0, 0, 442, [])), (108, (.ifCond .eq 8, 111, 116, 0, 0, 0, 0, 0, [])), (111, (.bipush 9, 113, 0, 9, 0, 0, 0, 0, []))],
  [(113, (.goto 4, 116, 117, 0, 0, 0, 0, 0, [])), (116, (.iconst (-1), 117, 0, -1, 0, 0, 0, 0, [])), (117, (.ireturn, 118, 0, 0, 0, 0, 0, 0, []))]])
set_option maxRecDepth 100000 in
theorem kX4_wordInHand : xMk mX4_wordInHand = true := by decide +kernel
set_option maxRecDepth 100000 in
theorem bX4_wordInHand : xcB mX4_wordInHand 0 0 = true := by decide +kernel
def mX4_isWord : xM := (yX4_isWord, cX4_isWord, 2, (some .boolean), [
  [(0, (.aload_n 0, 1, 0, 0, 0, 0, 0, 0, [])), (1, (.getfield 22, 4, 0, 0, 0, 4, 0, 140, [])), (4, (.aload_n 1, 5, 0, 0, 0, 0, 0, 0, [])), (5, (.aload_n 0, 6, 0, 0, 0, 0, 0, 0, [])), (6, (.getfield 49, 9, 0, 0, 0, 4, 6, 149, [])), (9, (.aload_n 0, 10, 0, 0, 0, 0, 0, 0, [])), (10, (.getfield 40, 13, 0, 0, 0, 4, 7, 150, [])), (13, (.invokevirtual 113, 16, 0, 0, 0, 0, 0, 446, []))],
  [(16, (.ireturn, 17, 0, 0, 0, 0, 0, 0, []))]])
set_option maxRecDepth 100000 in
theorem kX4_isWord : xMk mX4_isWord = true := by decide +kernel
set_option maxRecDepth 100000 in
theorem bX4_isWord : xcB mX4_isWord 0 1 = true := by decide +kernel
def mX4_numberInHand : xM := (yX4_numberInHand, cX4_numberInHand, 3, (some .int), [
  [(0, (.aload_n 0, 1, 0, 0, 0, 0, 0, 0, [])), (1, (.getfield 22, 4, 0, 0, 0, 4, 0, 140, [])), (4, (.aload_n 0, 5, 0, 0, 0, 0, 0, 0, [])), (5, (.getfield 49, 8, 0, 0, 0, 4, 6, 149, [])), (8, (.invokevirtual 52, 11, 0, 0, 0, 0, 0, 423, [])), (11, (.invokestatic 86, 14, 0, 0, 0, 0, 0, 430, [])), (14, (.ifCond .eq 16, 17, 30, 0, 0, 0, 0, 0, []))],
  [(17, (.aload_n 0, 18, 0, 0, 0, 0, 0, 0, [])), (18, (.getfield 40, 21, 0, 0, 0, 4, 7, 150, [])), (21, (.aload_n 0, 22, 0, 0, 0, 0, 0, 0, [])), (22, (.getfield 49, 25, 0, 0, 0, 4, 6, 149, [])), (25, (.isub, 26, 0, 0, 0, 0, 0, 0, [])), (26, (.iconst 2, 27, 0, 2, 0, 0, 0, 0, [])), (27, (.if_icmp .le 5, 30, 32, 0, 0, 0, 0, 0, [])), (30, (.iconst (-1), 31, 0, -1, 0, 0, 0, 0, [])), (31, (.ireturn, 32, 0, 0, 0, 0, 0, 0, []))],
  [(32, (.iconst 0, 33, 0, 0, 0, 0, 0, 0, [])), (33, (.istore_n 1, 34, 0, 0, 0, 0, 0, 0, [])), (34, (.aload_n 0, 35, 0, 0, 0, 0, 0, 0, [])), (35, (.getfield 49, 38, 0, 0, 0, 4, 6, 149, [])), (38, (.istore_n 2, 39, 0, 0, 0, 0, 0, 0, [])), (39, (.iload_n 2, 40, 0, 0, 0, 0, 0, 0, [])), (40, (.aload_n 0, 41, 0, 0, 0, 0, 0, 0, [])), (41, (.getfield 40, 44, 0, 0, 0, 4, 7, 150, [])), (44, (.if_icmp .ge 26, 47, 70, 0, 0, 0, 0, 0, [])), (47, (.iload_n 1, 48, 0, 0, 0, 0, 0, 0, []))],
  [(48, (.bipush 10, 50, 0, 10, 0, 0, 0, 0, [])), (50, (.imul, 51, 0, 0, 0, 0, 0, 0, [])), (51, (.aload_n 0, 52, 0, 0, 0, 0, 0, 0, [])), (52, (.getfield 22, 55, 0, 0, 0, 4, 0, 140, [])), (55, (.iload_n 2, 56, 0, 0, 0, 0, 0, 0, [])), (56, (.invokevirtual 52, 59, 0, 0, 0, 0, 0, 423, [])), (59, (.iadd, 60, 0, 0, 0, 0, 0, 0, [])), (60, (.bipush 48, 62, 0, 48, 0, 0, 0, 0, [])), (62, (.isub, 63, 0, 0, 0, 0, 0, 0, [])), (63, (.istore_n 1, 64, 0, 0, 0, 0, 0, 0, []))],
  [(64, (.iinc 2 1, 67, 0, 1, 0, 0, 0, 0, [])), (67, (.goto (-28), 70, 39, 0, 0, 0, 0, 0, [])), (70, (.iload_n 1, 71, 0, 0, 0, 0, 0, 0, [])), (71, (.ireturn, 72, 0, 0, 0, 0, 0, 0, []))]])
set_option maxRecDepth 100000 in
theorem kX4_numberInHand : xMk mX4_numberInHand = true := by decide +kernel
set_option maxRecDepth 100000 in
theorem bX4_numberInHand : xcB mX4_numberInHand 0 0 = true := by decide +kernel
def mX4_canBegin : xM := (yX4_canBegin, cX4_canBegin, 3, (some .boolean), [
  [(0, (.iload_n 1, 1, 0, 0, 0, 0, 0, 0, [])), (1, (.bipush 6, 3, 0, 6, 0, 0, 0, 0, [])), (3, (.if_icmp .eq 15, 6, 18, 0, 0, 0, 0, 0, [])), (6, (.iload_n 1, 7, 0, 0, 0, 0, 0, 0, [])), (7, (.bipush 7, 9, 0, 7, 0, 0, 0, 0, [])), (9, (.if_icmp .eq 9, 12, 18, 0, 0, 0, 0, 0, [])), (12, (.iload_n 1, 13, 0, 0, 0, 0, 0, 0, [])), (13, (.bipush 8, 15, 0, 8, 0, 0, 0, 0, [])), (15, (.if_icmp .ne 7, 18, 22, 0, 0, 0, 0, 0, []))],
  [(18, (.iconst 1, 19, 0, 1, 0, 0, 0, 0, [])), (19, (.goto 4, 22, 23, 0, 0, 0, 0, 0, [])), (22, (.iconst 0, 23, 0, 0, 0, 0, 0, 0, [])), (23, (.istore_n 2, 24, 0, 0, 0, 0, 0, 0, [])), (24, (.iload_n 1, 25, 0, 0, 0, 0, 0, 0, [])), (25, (.ifCond .lt 31, 28, 56, 0, 0, 0, 0, 0, [])), (28, (.iload_n 1, 29, 0, 0, 0, 0, 0, 0, [])), (29, (.getstatic 69, 32, 0, 0, 0, 1, 0, 512, []))],
  [(32, (.arraylength, 33, 0, 0, 0, 0, 0, 0, [])), (33, (.if_icmp .ge 23, 36, 56, 0, 0, 0, 0, 0, [])), (36, (.iload_n 2, 37, 0, 0, 0, 0, 0, 0, [])), (37, (.ifCond .eq 15, 40, 52, 0, 0, 0, 0, 0, [])), (40, (.aload_n 0, 41, 0, 0, 0, 0, 0, 0, [])), (41, (.getfield 12, 44, 0, 0, 0, 4, 2, 142, [])), (44, (.getfield 117, 47, 0, 0, 0, 6, 12, 85, [])), (47, (.bipush 24, 49, 0, 24, 0, 0, 0, 0, []))],
  [(49, (.if_icmp .ge 7, 52, 56, 0, 0, 0, 0, 0, [])), (52, (.iconst 1, 53, 0, 1, 0, 0, 0, 0, [])), (53, (.goto 4, 56, 57, 0, 0, 0, 0, 0, [])), (56, (.iconst 0, 57, 0, 0, 0, 0, 0, 0, [])), (57, (.ireturn, 58, 0, 0, 0, 0, 0, 0, []))]])
set_option maxRecDepth 100000 in
theorem kX4_canBegin : xMk mX4_canBegin = true := by decide +kernel
set_option maxRecDepth 100000 in
theorem bX4_canBegin : xcB mX4_canBegin 0 1 = true := by decide +kernel
def mX4_canStand : xM := (yX4_canStand, cX4_canStand, 4, (some .boolean), [
  [(0, (.aload_n 0, 1, 0, 0, 0, 0, 0, 0, [])), (1, (.getfield 18, 4, 0, 0, 0, 4, 3, 144, [])), (4, (.iload_n 2, 5, 0, 0, 0, 0, 0, 0, [])), (5, (.iaload, 6, 0, 0, 0, 0, 0, 0, [])), (6, (.istore_n 3, 7, 0, 0, 0, 0, 0, 0, [])), (7, (.iload_n 1, 8, 0, 0, 0, 0, 0, 0, [])), (8, (.tableswitch 100 0 5 #[40, 48, 70, 78, 86, 93], 48, 108, 0, 0, 0, 0, 0, [(0, 48), (1, 56), (2, 78), (3, 86), (4, 94), (5, 101)]))],
  [],
  [],
  [(48, (.iload_n 3, 49, 0, 0, 0, 0, 0, 0, [])), (49, (.iconst 2, 50, 0, 2, 0, 0, 0, 0, [])), (50, (.bipush 12, 52, 0, 12, 0, 0, 0, 0, [])), (52, (.invokestatic 120, 55, 0, 0, 0, 0, 0, 522, [])), (55, (.ireturn, 56, 0, 0, 0, 0, 0, 0, [])), (56, (.iload_n 2, 57, 0, 0, 0, 0, 0, 0, [])), (57, (.ifCond .ne 13, 60, 70, 0, 0, 0, 0, 0, [])), (60, (.iload_n 3, 61, 0, 0, 0, 0, 0, 0, [])), (61, (.iconst 0, 62, 0, 0, 0, 0, 0, 0, [])), (62, (.bipush 7, 64, 0, 7, 0, 0, 0, 0, []))],
  [(64, (.invokestatic 120, 67, 0, 0, 0, 0, 0, 522, [])), (67, (.goto 10, 70, 77, 0, 0, 0, 0, 0, [])), (70, (.iload_n 3, 71, 0, 0, 0, 0, 0, 0, [])), (71, (.iconst 1, 72, 0, 1, 0, 0, 0, 0, [])), (72, (.bipush 30, 74, 0, 30, 0, 0, 0, 0, [])), (74, (.invokestatic 120, 77, 0, 0, 0, 0, 0, 522, [])), (77, (.ireturn, 78, 0, 0, 0, 0, 0, 0, [])), (78, (.iload_n 3, 79, 0, 0, 0, 0, 0, 0, [])), (79, (.iconst 1, 80, 0, 1, 0, 0, 0, 0, []))],
  [(80, (.bipush 6, 82, 0, 6, 0, 0, 0, 0, [])), (82, (.invokestatic 120, 85, 0, 0, 0, 0, 0, 522, [])), (85, (.ireturn, 86, 0, 0, 0, 0, 0, 0, [])), (86, (.iload_n 3, 87, 0, 0, 0, 0, 0, 0, [])), (87, (.iconst 0, 88, 0, 0, 0, 0, 0, 0, [])), (88, (.bipush 99, 90, 0, 99, 0, 0, 0, 0, [])), (90, (.invokestatic 120, 93, 0, 0, 0, 0, 0, 522, [])), (93, (.ireturn, 94, 0, 0, 0, 0, 0, 0, [])), (94, (.aload_n 0, 95, 0, 0, 0, 0, 0, 0, [])), (95, (.iload_n 3, 96, 0, 0, 0, 0, 0, 0, []))],
  [(96, (.iload_n 2, 97, 0, 0, 0, 0, 0, 0, [])), (97, (.invokevirtual 124, 100, 0, 0, 0, 0, 0, 525, [])), (100, (.ireturn, 101, 0, 0, 0, 0, 0, 0, [])), (101, (.aload_n 0, 102, 0, 0, 0, 0, 0, 0, [])), (102, (.iload_n 3, 103, 0, 0, 0, 0, 0, 0, [])), (103, (.iload_n 2, 104, 0, 0, 0, 0, 0, 0, [])), (104, (.invokevirtual 127, 107, 0, 0, 0, 0, 0, 533, [])), (107, (.ireturn, 108, 0, 0, 0, 0, 0, 0, [])), (108, (.iload_n 2, 109, 0, 0, 0, 0, 0, 0, [])), (109, (.ifCond .ne 14, 112, 123, 0, 0, 0, 0, 0, []))],
  [(112, (.aload_n 0, 113, 0, 0, 0, 0, 0, 0, [])), (113, (.getfield 12, 116, 0, 0, 0, 4, 2, 142, [])), (116, (.iload_n 3, 117, 0, 0, 0, 0, 0, 0, [])), (117, (.invokevirtual 130, 120, 0, 0, 0, 0, 0, 537, [])), (120, (.goto 10, 123, 130, 0, 0, 0, 0, 0, [])), (123, (.iload_n 3, 124, 0, 0, 0, 0, 0, 0, [])), (124, (.iconst 0, 125, 0, 0, 0, 0, 0, 0, [])), (125, (.bipush 59, 127, 0, 59, 0, 0, 0, 0, [])), (127, (.invokestatic 120, 130, 0, 0, 0, 0, 0, 522, []))],
  [(130, (.ireturn, 131, 0, 0, 0, 0, 0, 0, []))]])
set_option maxRecDepth 100000 in
theorem kX4_canStand : xMk mX4_canStand = true := by decide +kernel
set_option maxRecDepth 100000 in
theorem bX4_canStand : xcB mX4_canStand 0 2 = true := by decide +kernel
def mX4_canStandInTram : xM := (yX4_canStandInTram, cX4_canStandInTram, 3, (some .boolean), [
  [(0, (.iload_n 2, 1, 0, 0, 0, 0, 0, 0, [])), (1, (.tableswitch 51 0 2 #[27, 34, 43], 28, 52, 0, 0, 0, 0, 0, [(0, 28), (1, 35), (2, 44)]))],
  [(28, (.iload_n 1, 29, 0, 0, 0, 0, 0, 0, [])), (29, (.iconst 0, 30, 0, 0, 0, 0, 0, 0, [])), (30, (.iconst 1, 31, 0, 1, 0, 0, 0, 0, [])), (31, (.invokestatic 120, 34, 0, 0, 0, 0, 0, 522, []))],
  [(34, (.ireturn, 35, 0, 0, 0, 0, 0, 0, [])), (35, (.aload_n 0, 36, 0, 0, 0, 0, 0, 0, [])), (36, (.getfield 12, 39, 0, 0, 0, 4, 2, 142, [])), (39, (.iload_n 1, 40, 0, 0, 0, 0, 0, 0, [])), (40, (.invokevirtual 133, 43, 0, 0, 0, 0, 0, 529, [])), (43, (.ireturn, 44, 0, 0, 0, 0, 0, 0, [])), (44, (.iload_n 1, 45, 0, 0, 0, 0, 0, 0, [])), (45, (.iconst 0, 46, 0, 0, 0, 0, 0, 0, [])), (46, (.bipush 59, 48, 0, 59, 0, 0, 0, 0, []))],
  [(48, (.invokestatic 120, 51, 0, 0, 0, 0, 0, 522, [])), (51, (.ireturn, 52, 0, 0, 0, 0, 0, 0, [])), (52, (.iload_n 1, 53, 0, 0, 0, 0, 0, 0, [])), (53, (.iconst 0, 54, 0, 0, 0, 0, 0, 0, [])), (54, (.iconst 1, 55, 0, 1, 0, 0, 0, 0, [])), (55, (.invokestatic 120, 58, 0, 0, 0, 0, 0, 522, [])), (58, (.ireturn, 59, 0, 0, 0, 0, 0, 0, []))]])
set_option maxRecDepth 100000 in
theorem kX4_canStandInTram : xMk mX4_canStandInTram = true := by decide +kernel
set_option maxRecDepth 100000 in
theorem bX4_canStandInTram : xcB mX4_canStandInTram 0 2 = true := by decide +kernel
def mX4_canStandInFolk : xM := (yX4_canStandInFolk, cX4_canStandInFolk, 3, (some .boolean), [
  [(0, (.iload_n 2, 1, 0, 0, 0, 0, 0, 0, [])), (1, (.lookupswitch 44 #[(0, 27), (1, 35)], 28, 45, 0, 0, 0, 0, 0, [(0, 28), (1, 36)]))],
  [(28, (.iload_n 1, 29, 0, 0, 0, 0, 0, 0, [])), (29, (.iconst 0, 30, 0, 0, 0, 0, 0, 0, [])), (30, (.bipush 7, 32, 0, 7, 0, 0, 0, 0, []))],
  [(32, (.invokestatic 120, 35, 0, 0, 0, 0, 0, 522, [])), (35, (.ireturn, 36, 0, 0, 0, 0, 0, 0, [])), (36, (.aload_n 0, 37, 0, 0, 0, 0, 0, 0, [])), (37, (.getfield 12, 40, 0, 0, 0, 4, 2, 142, [])), (40, (.iload_n 1, 41, 0, 0, 0, 0, 0, 0, [])), (41, (.invokevirtual 133, 44, 0, 0, 0, 0, 0, 529, [])), (44, (.ireturn, 45, 0, 0, 0, 0, 0, 0, [])), (45, (.aload_n 0, 46, 0, 0, 0, 0, 0, 0, [])), (46, (.getfield 12, 49, 0, 0, 0, 4, 2, 142, []))],
  [(49, (.iload_n 1, 50, 0, 0, 0, 0, 0, 0, [])), (50, (.invokevirtual 133, 53, 0, 0, 0, 0, 0, 529, [])), (53, (.ifCond .eq 17, 56, 70, 0, 0, 0, 0, 0, [])), (56, (.iload_n 1, 57, 0, 0, 0, 0, 0, 0, [])), (57, (.aload_n 0, 58, 0, 0, 0, 0, 0, 0, [])), (58, (.getfield 18, 61, 0, 0, 0, 4, 3, 144, [])), (61, (.iconst 1, 62, 0, 1, 0, 0, 0, 0, [])), (62, (.iaload, 63, 0, 0, 0, 0, 0, 0, [])), (63, (.if_icmp .eq 7, 66, 70, 0, 0, 0, 0, 0, []))],
  [(66, (.iconst 1, 67, 0, 1, 0, 0, 0, 0, [])), (67, (.goto 4, 70, 71, 0, 0, 0, 0, 0, [])), (70, (.iconst 0, 71, 0, 0, 0, 0, 0, 0, [])), (71, (.ireturn, 72, 0, 0, 0, 0, 0, 0, []))]])
set_option maxRecDepth 100000 in
theorem kX4_canStandInFolk : xMk mX4_canStandInFolk = true := by decide +kernel
set_option maxRecDepth 100000 in
theorem bX4_canStandInFolk : xcB mX4_canStandInFolk 0 2 = true := by decide +kernel
def mX4_isWithin : xM := (yX4_isWithin, cX4_isWithin, 3, (some .boolean), [
  [(0, (.iload_n 0, 1, 0, 0, 0, 0, 0, 0, [])), (1, (.iload_n 1, 2, 0, 0, 0, 0, 0, 0, [])), (2, (.if_icmp .lt 12, 5, 14, 0, 0, 0, 0, 0, [])), (5, (.iload_n 0, 6, 0, 0, 0, 0, 0, 0, [])), (6, (.iload_n 2, 7, 0, 0, 0, 0, 0, 0, [])), (7, (.if_icmp .gt 7, 10, 14, 0, 0, 0, 0, 0, [])), (10, (.iconst 1, 11, 0, 1, 0, 0, 0, 0, [])), (11, (.goto 4, 14, 15, 0, 0, 0, 0, 0, [])), (14, (.iconst 0, 15, 0, 0, 0, 0, 0, 0, [])), (15, (.ireturn, 16, 0, 0, 0, 0, 0, 0, []))]])
set_option maxRecDepth 100000 in
theorem kX4_isWithin : xMk mX4_isWithin = true := by decide +kernel
set_option maxRecDepth 100000 in
theorem bX4_isWithin : xcB mX4_isWithin 1 3 = true := by decide +kernel
def mX4_doLine : xM := (yX4_doLine, cX4_doLine, 2, none, [
  [(0, (.iload_n 1, 1, 0, 0, 0, 0, 0, 0, [])), (1, (.tableswitch 204 0 9 #[55, 71, 100, 116, 132, 166, 204, 204, 204, 194], 56, 205, 0, 0, 0, 0, 0, [(0, 56), (1, 72), (2, 101), (3, 117), (4, 133), (5, 167), (6, 205), (7, 205), (8, 205), (9, 195)]))],
  [],
  [],
  [(56, (.aload_n 0, 57, 0, 0, 0, 0, 0, 0, [])), (57, (.getfield 12, 60, 0, 0, 0, 4, 2, 142, [])), (60, (.aload_n 0, 61, 0, 0, 0, 0, 0, 0, [])), (61, (.getfield 18, 64, 0, 0, 0, 4, 3, 144, []))],
  [(64, (.iconst 0, 65, 0, 0, 0, 0, 0, 0, [])), (65, (.iaload, 66, 0, 0, 0, 0, 0, 0, [])), (66, (.invokevirtual 136, 69, 0, 0, 0, 0, 0, 545, [])), (69, (.goto 159, 72, 228, 0, 0, 0, 0, 0, [])), (72, (.aload_n 0, 73, 0, 0, 0, 0, 0, 0, [])), (73, (.getfield 12, 76, 0, 0, 0, 4, 2, 142, [])), (76, (.aload_n 0, 77, 0, 0, 0, 0, 0, 0, [])), (77, (.getfield 18, 80, 0, 0, 0, 4, 3, 144, []))],
  [(80, (.iconst 0, 81, 0, 0, 0, 0, 0, 0, [])), (81, (.iaload, 82, 0, 0, 0, 0, 0, 0, [])), (82, (.putfield 139, 85, 0, 0, 0, 6, 1, 54, [])), (85, (.aload_n 0, 86, 0, 0, 0, 0, 0, 0, [])), (86, (.getfield 12, 89, 0, 0, 0, 4, 2, 142, [])), (89, (.aload_n 0, 90, 0, 0, 0, 0, 0, 0, [])), (90, (.getfield 18, 93, 0, 0, 0, 4, 3, 144, [])), (93, (.iconst 1, 94, 0, 1, 0, 0, 0, 0, [])), (94, (.iaload, 95, 0, 0, 0, 0, 0, 0, [])), (95, (.putfield 142, 98, 0, 0, 0, 6, 2, 58, []))],
  [(98, (.goto 130, 101, 228, 0, 0, 0, 0, 0, [])), (101, (.aload_n 0, 102, 0, 0, 0, 0, 0, 0, [])), (102, (.getfield 12, 105, 0, 0, 0, 4, 2, 142, [])), (105, (.aload_n 0, 106, 0, 0, 0, 0, 0, 0, [])), (106, (.getfield 18, 109, 0, 0, 0, 4, 3, 144, [])), (109, (.iconst 0, 110, 0, 0, 0, 0, 0, 0, [])), (110, (.iaload, 111, 0, 0, 0, 0, 0, 0, [])), (111, (.putfield 145, 114, 0, 0, 0, 6, 3, 61, []))],
  [(114, (.goto 114, 117, 228, 0, 0, 0, 0, 0, [])), (117, (.aload_n 0, 118, 0, 0, 0, 0, 0, 0, [])), (118, (.getfield 12, 121, 0, 0, 0, 4, 2, 142, [])), (121, (.aload_n 0, 122, 0, 0, 0, 0, 0, 0, [])), (122, (.getfield 18, 125, 0, 0, 0, 4, 3, 144, [])), (125, (.iconst 0, 126, 0, 0, 0, 0, 0, 0, [])), (126, (.iaload, 127, 0, 0, 0, 0, 0, 0, [])), (127, (.putfield 147, 130, 0, 0, 0, 6, 4, 65, []))],
  [(130, (.goto 98, 133, 228, 0, 0, 0, 0, 0, [])), (133, (.aload_n 0, 134, 0, 0, 0, 0, 0, 0, [])), (134, (.getfield 12, 137, 0, 0, 0, 4, 2, 142, [])), (137, (.aload_n 0, 138, 0, 0, 0, 0, 0, 0, [])), (138, (.getfield 18, 141, 0, 0, 0, 4, 3, 144, [])), (141, (.iconst 0, 142, 0, 0, 0, 0, 0, 0, [])), (142, (.iaload, 143, 0, 0, 0, 0, 0, 0, [])), (143, (.aload_n 0, 144, 0, 0, 0, 0, 0, 0, []))],
  [(144, (.getfield 18, 147, 0, 0, 0, 4, 3, 144, [])), (147, (.iconst 1, 148, 0, 1, 0, 0, 0, 0, [])), (148, (.iaload, 149, 0, 0, 0, 0, 0, 0, [])), (149, (.aload_n 0, 150, 0, 0, 0, 0, 0, 0, [])), (150, (.getfield 18, 153, 0, 0, 0, 4, 3, 144, [])), (153, (.iconst 2, 154, 0, 2, 0, 0, 0, 0, [])), (154, (.iaload, 155, 0, 0, 0, 0, 0, 0, [])), (155, (.aload_n 0, 156, 0, 0, 0, 0, 0, 0, [])), (156, (.getfield 18, 159, 0, 0, 0, 4, 3, 144, [])), (159, (.iconst 3, 160, 0, 3, 0, 0, 0, 0, []))],
  [(160, (.iaload, 161, 0, 0, 0, 0, 0, 0, [])), (161, (.invokevirtual 149, 164, 0, 0, 0, 0, 0, 554, [])), (164, (.goto 64, 167, 228, 0, 0, 0, 0, 0, [])), (167, (.aload_n 0, 168, 0, 0, 0, 0, 0, 0, [])), (168, (.getfield 12, 171, 0, 0, 0, 4, 2, 142, [])), (171, (.aload_n 0, 172, 0, 0, 0, 0, 0, 0, [])), (172, (.getfield 18, 175, 0, 0, 0, 4, 3, 144, [])), (175, (.iconst 0, 176, 0, 0, 0, 0, 0, 0, []))],
  [(176, (.iaload, 177, 0, 0, 0, 0, 0, 0, [])), (177, (.aload_n 0, 178, 0, 0, 0, 0, 0, 0, [])), (178, (.getfield 18, 181, 0, 0, 0, 4, 3, 144, [])), (181, (.iconst 1, 182, 0, 1, 0, 0, 0, 0, [])), (182, (.iaload, 183, 0, 0, 0, 0, 0, 0, [])), (183, (.aload_n 0, 184, 0, 0, 0, 0, 0, 0, [])), (184, (.getfield 18, 187, 0, 0, 0, 4, 3, 144, [])), (187, (.iconst 2, 188, 0, 2, 0, 0, 0, 0, [])), (188, (.iaload, 189, 0, 0, 0, 0, 0, 0, [])), (189, (.invokevirtual 153, 192, 0, 0, 0, 0, 0, 558, []))],
  [(192, (.goto 36, 195, 228, 0, 0, 0, 0, 0, [])), (195, (.aload_n 0, 196, 0, 0, 0, 0, 0, 0, [])), (196, (.getfield 12, 199, 0, 0, 0, 4, 2, 142, [])), (199, (.invokevirtual 157, 202, 0, 0, 0, 0, 0, 562, [])), (202, (.goto 26, 205, 228, 0, 0, 0, 0, 0, [])), (205, (.aload_n 0, 206, 0, 0, 0, 0, 0, 0, [])), (206, (.getfield 12, 209, 0, 0, 0, 4, 2, 142, []))],
  [(209, (.aload_n 0, 210, 0, 0, 0, 0, 0, 0, [])), (210, (.getfield 18, 213, 0, 0, 0, 4, 3, 144, [])), (213, (.iconst 0, 214, 0, 0, 0, 0, 0, 0, [])), (214, (.iaload, 215, 0, 0, 0, 0, 0, 0, [])), (215, (.iload_n 1, 216, 0, 0, 0, 0, 0, 0, [])), (216, (.bipush 6, 218, 0, 6, 0, 0, 0, 0, [])), (218, (.isub, 219, 0, 0, 0, 0, 0, 0, [])), (219, (.aload_n 0, 220, 0, 0, 0, 0, 0, 0, [])), (220, (.getfield 18, 223, 0, 0, 0, 4, 3, 144, [])), (223, (.iconst 1, 224, 0, 1, 0, 0, 0, 0, []))],
  [(224, (.iaload, 225, 0, 0, 0, 0, 0, 0, [])), (225, (.invokevirtual 160, 228, 0, 0, 0, 0, 0, 563, [])), (228, (.return_, 229, 0, 0, 0, 0, 0, 0, []))]])
set_option maxRecDepth 100000 in
theorem kX4_doLine : xMk mX4_doLine = true := by decide +kernel
set_option maxRecDepth 100000 in
theorem bX4_doLine : xcB mX4_doLine 0 1 = true := by decide +kernel
end
section
/-! the rows of the methods of X1 -/
def mX1_init : xM := (yX1_init, cX1_init, 2, none, [
  [(0, (.aload_n 0, 1, 0, 0, 0, 0, 0, 0, [])), (1, (.invokespecial 3, 4, 0, 0, 0, 1, 0, 266, [])), (4, (.aload_n 0, 5, 0, 0, 0, 0, 0, 0, [])), (5, (.new 9, 8, 0, 0, 0, 6, 0, 267, [])), (8, (.dup, 9, 0, 0, 0, 0, 0, 0, [])), (9, (.invokespecial 11, 12, 0, 0, 0, 0, 0, 0, [])), (12, (.putfield 12, 15, 2, 1, 0, 1, 1, 272, [])), (15, (.aload_n 0, 16, 0, 0, 0, 0, 0, 0, []))],
  [(16, (.new 18, 19, 0, 0, 0, 0, 0, 269, [])), (19, (.dup, 20, 0, 0, 0, 0, 0, 0, [])), (20, (.aload_n 0, 21, 0, 0, 0, 0, 0, 0, [])), (21, (.getfield 12, 24, 0, 0, 0, 1, 1, 272, [])), (24, (.invokespecial 20, 27, 0, 0, 0, 0, 0, 270, [])), (27, (.putfield 23, 30, 2, 1, 0, 1, 2, 273, [])), (30, (.aload_n 0, 31, 0, 0, 0, 0, 0, 0, [])), (31, (.new 18, 34, 0, 0, 0, 0, 0, 269, []))],
  [(34, (.dup, 35, 0, 0, 0, 0, 0, 0, [])), (35, (.aload_n 0, 36, 0, 0, 0, 0, 0, 0, [])), (36, (.getfield 12, 39, 0, 0, 0, 1, 1, 272, [])), (39, (.invokespecial 20, 42, 0, 0, 0, 0, 0, 270, [])), (42, (.putfield 27, 45, 2, 1, 0, 1, 3, 274, [])), (45, (.aload_n 0, 46, 0, 0, 0, 0, 0, 0, [])), (46, (.new 18, 49, 0, 0, 0, 0, 0, 269, []))],
  [(49, (.dup, 50, 0, 0, 0, 0, 0, 0, [])), (50, (.aload_n 0, 51, 0, 0, 0, 0, 0, 0, [])), (51, (.getfield 12, 54, 0, 0, 0, 1, 1, 272, [])), (54, (.invokespecial 20, 57, 0, 0, 0, 0, 0, 270, [])), (57, (.putfield 30, 60, 2, 1, 0, 1, 4, 275, [])), (60, (.aload_n 0, 61, 0, 0, 0, 0, 0, 0, [])), (61, (.aload_n 1, 62, 0, 0, 0, 0, 0, 0, [])), (62, (.putfield 33, 65, 2, 1, 0, 1, 0, 271, []))],
  [(65, (.return_, 66, 0, 0, 0, 0, 0, 0, []))]])
set_option maxRecDepth 100000 in
theorem kX1_init : xMk mX1_init = true := by decide +kernel
set_option maxRecDepth 100000 in
theorem bX1_init : xcB mX1_init 2 1 = true := by decide +kernel
def mX1_search : xM := (yX1_search, cX1_search, 3, none, [
  [(0, (.aload_n 0, 1, 0, 0, 0, 0, 0, 0, [])), (1, (.getfield 36, 4, 0, 0, 0, 1, 5, 276, [])), (4, (.ifCond .eq 20, 7, 24, 0, 0, 0, 0, 0, [])), (7, (.aload_n 0, 8, 0, 0, 0, 0, 0, 0, [])), (8, (.getfield 40, 11, 0, 0, 0, 1, 6, 278, [])), (11, (.iload_n 1, 12, 0, 0, 0, 0, 0, 0, [])), (12, (.if_icmp .ne 12, 15, 24, 0, 0, 0, 0, 0, [])), (15, (.aload_n 0, 16, 0, 0, 0, 0, 0, 0, []))],
  [(16, (.getfield 44, 19, 0, 0, 0, 1, 7, 279, [])), (19, (.iload_n 2, 20, 0, 0, 0, 0, 0, 0, [])), (20, (.if_icmp .ne 4, 23, 24, 0, 0, 0, 0, 0, [])), (23, (.return_, 24, 0, 0, 0, 0, 0, 0, [])), (24, (.aload_n 0, 25, 0, 0, 0, 0, 0, 0, [])), (25, (.iconst 1, 26, 0, 1, 0, 0, 0, 0, [])), (26, (.putfield 36, 29, 1, 0, 0, 1, 5, 276, [])), (29, (.aload_n 0, 30, 0, 0, 0, 0, 0, 0, [])), (30, (.iload_n 1, 31, 0, 0, 0, 0, 0, 0, [])), (31, (.putfield 40, 34, 0, 0, 0, 1, 6, 278, []))],
  [(34, (.aload_n 0, 35, 0, 0, 0, 0, 0, 0, [])), (35, (.iload_n 2, 36, 0, 0, 0, 0, 0, 0, [])), (36, (.putfield 44, 39, 0, 0, 0, 1, 7, 279, [])), (39, (.aload_n 0, 40, 0, 0, 0, 0, 0, 0, [])), (40, (.getfield 12, 43, 0, 0, 0, 1, 1, 272, [])), (43, (.aload_n 0, 44, 0, 0, 0, 0, 0, 0, [])), (44, (.getfield 33, 47, 0, 0, 0, 1, 0, 271, [])), (47, (.invokevirtual 47, 50, 0, 0, 0, 0, 0, 726, []))],
  [(50, (.aload_n 0, 51, 0, 0, 0, 0, 0, 0, [])), (51, (.bipush 60, 53, 0, 60, 0, 0, 0, 0, [])), (53, (.putfield 50, 56, 0, 0, 0, 1, 8, 280, [])), (56, (.aload_n 0, 57, 0, 0, 0, 0, 0, 0, [])), (57, (.iconst (-1), 58, 0, -1, 0, 0, 0, 0, [])), (58, (.putfield 53, 61, 0, 0, 0, 1, 9, 281, [])), (61, (.aload_n 0, 62, 0, 0, 0, 0, 0, 0, [])), (62, (.iconst (-1), 63, 0, -1, 0, 0, 0, 0, [])), (63, (.putfield 56, 66, 0, 0, 0, 1, 10, 283, []))],
  [(66, (.aload_n 0, 67, 0, 0, 0, 0, 0, 0, [])), (67, (.iconst (-1), 68, 0, -1, 0, 0, 0, 0, [])), (68, (.putfield 59, 71, 0, 0, 0, 1, 11, 285, [])), (71, (.aload_n 0, 72, 0, 0, 0, 0, 0, 0, [])), (72, (.iconst (-1), 73, 0, -1, 0, 0, 0, 0, [])), (73, (.putfield 62, 76, 0, 0, 0, 1, 12, 287, [])), (76, (.aload_n 0, 77, 0, 0, 0, 0, 0, 0, [])), (77, (.invokevirtual 65, 80, 0, 0, 0, 0, 0, 727, []))],
  [(80, (.aload_n 0, 81, 0, 0, 0, 0, 0, 0, [])), (81, (.getfield 44, 84, 0, 0, 0, 1, 7, 279, [])), (84, (.iconst 1, 85, 0, 1, 0, 0, 0, 0, [])), (85, (.if_icmp .lt 7, 88, 92, 0, 0, 0, 0, 0, [])), (88, (.aload_n 0, 89, 0, 0, 0, 0, 0, 0, [])), (89, (.invokevirtual 68, 92, 0, 0, 0, 0, 0, 737, [])), (92, (.aload_n 0, 93, 0, 0, 0, 0, 0, 0, [])), (93, (.getfield 44, 96, 0, 0, 0, 1, 7, 279, []))],
  [(96, (.iconst 2, 97, 0, 2, 0, 0, 0, 0, [])), (97, (.if_icmp .lt 7, 100, 104, 0, 0, 0, 0, 0, [])), (100, (.aload_n 0, 101, 0, 0, 0, 0, 0, 0, [])), (101, (.invokevirtual 71, 104, 0, 0, 0, 0, 0, 751, [])), (104, (.return_, 105, 0, 0, 0, 0, 0, 0, []))]])
set_option maxRecDepth 100000 in
theorem kX1_search : xMk mX1_search = true := by decide +kernel
set_option maxRecDepth 100000 in
theorem bX1_search : xcB mX1_search 0 2 = true := by decide +kernel
def mX1_tryNone : xM := (yX1_tryNone, cX1_tryNone, 1, none, [
  [(0, (.aload_n 0, 1, 0, 0, 0, 0, 0, 0, [])), (1, (.getfield 23, 4, 0, 0, 0, 1, 2, 273, [])), (4, (.aload_n 0, 5, 0, 0, 0, 0, 0, 0, [])), (5, (.getfield 12, 8, 0, 0, 0, 1, 1, 272, [])), (8, (.getfield 74, 11, 0, 0, 0, 6, 1, 53, [])), (11, (.aload_n 0, 12, 0, 0, 0, 0, 0, 0, [])), (12, (.getfield 12, 15, 0, 0, 0, 1, 1, 272, [])), (15, (.getfield 77, 18, 0, 0, 0, 6, 2, 57, []))],
  [(18, (.invokevirtual 80, 21, 0, 0, 0, 0, 0, 731, [])), (21, (.aload_n 0, 22, 0, 0, 0, 0, 0, 0, [])), (22, (.aload_n 0, 23, 0, 0, 0, 0, 0, 0, [])), (23, (.getfield 23, 26, 0, 0, 0, 1, 2, 273, [])), (26, (.iconst 0, 27, 0, 0, 0, 0, 0, 0, [])), (27, (.iconst (-1), 28, 0, -1, 0, 0, 0, 0, [])), (28, (.iconst (-1), 29, 0, -1, 0, 0, 0, 0, [])), (29, (.invokevirtual 84, 32, 0, 0, 0, 0, 0, 732, []))],
  [(32, (.return_, 33, 0, 0, 0, 0, 0, 0, []))]])
set_option maxRecDepth 100000 in
theorem kX1_tryNone : xMk mX1_tryNone = true := by decide +kernel
set_option maxRecDepth 100000 in
theorem bX1_tryNone : xcB mX1_tryNone 0 0 = true := by decide +kernel
def mX1_tryOne : xM := (yX1_tryOne, cX1_tryOne, 2, none, [
  [(0, (.aload_n 0, 1, 0, 0, 0, 0, 0, 0, [])), (1, (.getfield 23, 4, 0, 0, 0, 1, 2, 273, [])), (4, (.aload_n 0, 5, 0, 0, 0, 0, 0, 0, [])), (5, (.getfield 12, 8, 0, 0, 0, 1, 1, 272, [])), (8, (.getfield 74, 11, 0, 0, 0, 6, 1, 53, [])), (11, (.aload_n 0, 12, 0, 0, 0, 0, 0, 0, [])), (12, (.getfield 12, 15, 0, 0, 0, 1, 1, 272, [])), (15, (.getfield 77, 18, 0, 0, 0, 6, 2, 57, []))],
  [(18, (.invokevirtual 80, 21, 0, 0, 0, 0, 0, 731, [])), (21, (.iconst 0, 22, 0, 0, 0, 0, 0, 0, [])), (22, (.istore_n 1, 23, 0, 0, 0, 0, 0, 0, [])), (23, (.iload_n 1, 24, 0, 0, 0, 0, 0, 0, [])), (24, (.aload_n 0, 25, 0, 0, 0, 0, 0, 0, [])), (25, (.getfield 50, 28, 0, 0, 0, 1, 8, 280, [])), (28, (.if_icmp .ge 64, 31, 92, 0, 0, 0, 0, 0, [])), (31, (.aload_n 0, 32, 0, 0, 0, 0, 0, 0, []))],
  [(32, (.getfield 12, 35, 0, 0, 0, 1, 1, 272, [])), (35, (.aload_n 0, 36, 0, 0, 0, 0, 0, 0, [])), (36, (.getfield 40, 39, 0, 0, 0, 1, 6, 278, [])), (39, (.aload_n 0, 40, 0, 0, 0, 0, 0, 0, [])), (40, (.getfield 12, 43, 0, 0, 0, 1, 1, 272, [])), (43, (.invokevirtual 88, 46, 0, 0, 0, 0, 0, 741, [])), (46, (.iload_n 1, 47, 0, 0, 0, 0, 0, 0, [])), (47, (.invokevirtual 92, 50, 0, 0, 0, 0, 0, 745, []))],
  [(50, (.aload_n 0, 51, 0, 0, 0, 0, 0, 0, [])), (51, (.getfield 27, 54, 0, 0, 0, 1, 3, 274, [])), (54, (.aload_n 0, 55, 0, 0, 0, 0, 0, 0, [])), (55, (.getfield 23, 58, 0, 0, 0, 1, 2, 273, [])), (58, (.invokevirtual 96, 61, 0, 0, 0, 0, 0, 746, [])), (61, (.aload_n 0, 62, 0, 0, 0, 0, 0, 0, [])), (62, (.aload_n 0, 63, 0, 0, 0, 0, 0, 0, [])), (63, (.getfield 27, 66, 0, 0, 0, 1, 3, 274, []))],
  [(66, (.iconst 1, 67, 0, 1, 0, 0, 0, 0, [])), (67, (.iload_n 1, 68, 0, 0, 0, 0, 0, 0, [])), (68, (.iconst (-1), 69, 0, -1, 0, 0, 0, 0, [])), (69, (.invokevirtual 84, 72, 0, 0, 0, 0, 0, 732, [])), (72, (.aload_n 0, 73, 0, 0, 0, 0, 0, 0, [])), (73, (.getfield 12, 76, 0, 0, 0, 1, 1, 272, [])), (76, (.invokevirtual 99, 79, 0, 0, 0, 0, 0, 747, [])), (79, (.aload_n 0, 80, 0, 0, 0, 0, 0, 0, []))],
  [(80, (.getfield 23, 83, 0, 0, 0, 1, 2, 273, [])), (83, (.invokevirtual 102, 86, 0, 0, 0, 0, 0, 736, [])), (86, (.iinc 1 1, 89, 0, 1, 0, 0, 0, 0, [])), (89, (.goto (-66), 92, 23, 0, 0, 0, 0, 0, [])), (92, (.return_, 93, 0, 0, 0, 0, 0, 0, []))]])
set_option maxRecDepth 100000 in
theorem kX1_tryOne : xMk mX1_tryOne = true := by decide +kernel
set_option maxRecDepth 100000 in
theorem bX1_tryOne : xcB mX1_tryOne 0 0 = true := by decide +kernel
def mX1_tryTwo : xM := (yX1_tryTwo, cX1_tryTwo, 3, none, [
  [(0, (.aload_n 0, 1, 0, 0, 0, 0, 0, 0, [])), (1, (.getfield 23, 4, 0, 0, 0, 1, 2, 273, [])), (4, (.aload_n 0, 5, 0, 0, 0, 0, 0, 0, [])), (5, (.getfield 12, 8, 0, 0, 0, 1, 1, 272, [])), (8, (.getfield 74, 11, 0, 0, 0, 6, 1, 53, [])), (11, (.aload_n 0, 12, 0, 0, 0, 0, 0, 0, [])), (12, (.getfield 12, 15, 0, 0, 0, 1, 1, 272, [])), (15, (.getfield 77, 18, 0, 0, 0, 6, 2, 57, []))],
  [(18, (.invokevirtual 80, 21, 0, 0, 0, 0, 0, 731, [])), (21, (.iconst 0, 22, 0, 0, 0, 0, 0, 0, [])), (22, (.istore_n 1, 23, 0, 0, 0, 0, 0, 0, [])), (23, (.iload_n 1, 24, 0, 0, 0, 0, 0, 0, [])), (24, (.aload_n 0, 25, 0, 0, 0, 0, 0, 0, [])), (25, (.getfield 50, 28, 0, 0, 0, 1, 8, 280, [])), (28, (.if_icmp .ge 149, 31, 177, 0, 0, 0, 0, 0, [])), (31, (.aload_n 0, 32, 0, 0, 0, 0, 0, 0, []))],
  [(32, (.getfield 12, 35, 0, 0, 0, 1, 1, 272, [])), (35, (.aload_n 0, 36, 0, 0, 0, 0, 0, 0, [])), (36, (.getfield 40, 39, 0, 0, 0, 1, 6, 278, [])), (39, (.aload_n 0, 40, 0, 0, 0, 0, 0, 0, [])), (40, (.getfield 12, 43, 0, 0, 0, 1, 1, 272, [])), (43, (.invokevirtual 88, 46, 0, 0, 0, 0, 0, 741, [])), (46, (.iload_n 1, 47, 0, 0, 0, 0, 0, 0, [])), (47, (.invokevirtual 92, 50, 0, 0, 0, 0, 0, 745, []))],
  [(50, (.aload_n 0, 51, 0, 0, 0, 0, 0, 0, [])), (51, (.getfield 27, 54, 0, 0, 0, 1, 3, 274, [])), (54, (.aload_n 0, 55, 0, 0, 0, 0, 0, 0, [])), (55, (.getfield 23, 58, 0, 0, 0, 1, 2, 273, [])), (58, (.invokevirtual 96, 61, 0, 0, 0, 0, 0, 746, [])), (61, (.aload_n 0, 62, 0, 0, 0, 0, 0, 0, [])), (62, (.getfield 27, 65, 0, 0, 0, 1, 3, 274, []))],
  [(65, (.invokevirtual 102, 68, 0, 0, 0, 0, 0, 736, [])), (68, (.iload_n 1, 69, 0, 0, 0, 0, 0, 0, [])), (69, (.iconst 1, 70, 0, 1, 0, 0, 0, 0, [])), (70, (.iadd, 71, 0, 0, 0, 0, 0, 0, [])), (71, (.istore_n 2, 72, 0, 0, 0, 0, 0, 0, [])), (72, (.iload_n 2, 73, 0, 0, 0, 0, 0, 0, [])), (73, (.aload_n 0, 74, 0, 0, 0, 0, 0, 0, [])), (74, (.getfield 50, 77, 0, 0, 0, 1, 8, 280, [])), (77, (.if_icmp .ge 80, 80, 157, 0, 0, 0, 0, 0, []))],
  [(80, (.aload_n 0, 81, 0, 0, 0, 0, 0, 0, [])), (81, (.getfield 27, 84, 0, 0, 0, 1, 3, 274, [])), (84, (.getfield 105, 87, 0, 0, 0, 0, 8, 216, [])), (87, (.aload_n 0, 88, 0, 0, 0, 0, 0, 0, [])), (88, (.getfield 40, 91, 0, 0, 0, 1, 6, 278, [])), (91, (.iaload, 92, 0, 0, 0, 0, 0, 0, [])), (92, (.iconst (-1), 93, 0, -1, 0, 0, 0, 0, [])), (93, (.if_icmp .ne 64, 96, 157, 0, 0, 0, 0, 0, []))],
  [(96, (.aload_n 0, 97, 0, 0, 0, 0, 0, 0, [])), (97, (.getfield 12, 100, 0, 0, 0, 1, 1, 272, [])), (100, (.aload_n 0, 101, 0, 0, 0, 0, 0, 0, [])), (101, (.getfield 40, 104, 0, 0, 0, 1, 6, 278, [])), (104, (.aload_n 0, 105, 0, 0, 0, 0, 0, 0, [])), (105, (.getfield 12, 108, 0, 0, 0, 1, 1, 272, [])), (108, (.invokevirtual 88, 111, 0, 0, 0, 0, 0, 741, [])), (111, (.iload_n 2, 112, 0, 0, 0, 0, 0, 0, []))],
  [(112, (.invokevirtual 92, 115, 0, 0, 0, 0, 0, 745, [])), (115, (.aload_n 0, 116, 0, 0, 0, 0, 0, 0, [])), (116, (.getfield 30, 119, 0, 0, 0, 1, 4, 275, [])), (119, (.aload_n 0, 120, 0, 0, 0, 0, 0, 0, [])), (120, (.getfield 27, 123, 0, 0, 0, 1, 3, 274, [])), (123, (.invokevirtual 96, 126, 0, 0, 0, 0, 0, 746, [])), (126, (.aload_n 0, 127, 0, 0, 0, 0, 0, 0, [])), (127, (.aload_n 0, 128, 0, 0, 0, 0, 0, 0, []))],
  [(128, (.getfield 30, 131, 0, 0, 0, 1, 4, 275, [])), (131, (.iconst 2, 132, 0, 2, 0, 0, 0, 0, [])), (132, (.iload_n 1, 133, 0, 0, 0, 0, 0, 0, [])), (133, (.iload_n 2, 134, 0, 0, 0, 0, 0, 0, [])), (134, (.invokevirtual 84, 137, 0, 0, 0, 0, 0, 732, [])), (137, (.aload_n 0, 138, 0, 0, 0, 0, 0, 0, [])), (138, (.getfield 12, 141, 0, 0, 0, 1, 1, 272, [])), (141, (.invokevirtual 99, 144, 0, 0, 0, 0, 0, 747, []))],
  [(144, (.aload_n 0, 145, 0, 0, 0, 0, 0, 0, [])), (145, (.getfield 27, 148, 0, 0, 0, 1, 3, 274, [])), (148, (.invokevirtual 102, 151, 0, 0, 0, 0, 0, 736, [])), (151, (.iinc 2 1, 154, 0, 1, 0, 0, 0, 0, [])), (154, (.goto (-82), 157, 72, 0, 0, 0, 0, 0, [])), (157, (.aload_n 0, 158, 0, 0, 0, 0, 0, 0, [])), (158, (.getfield 12, 161, 0, 0, 0, 1, 1, 272, []))],
  [(161, (.invokevirtual 99, 164, 0, 0, 0, 0, 0, 747, [])), (164, (.aload_n 0, 165, 0, 0, 0, 0, 0, 0, [])), (165, (.getfield 23, 168, 0, 0, 0, 1, 2, 273, [])), (168, (.invokevirtual 102, 171, 0, 0, 0, 0, 0, 736, [])), (171, (.iinc 1 1, 174, 0, 1, 0, 0, 0, 0, [])), (174, (.goto (-151), 177, 23, 0, 0, 0, 0, 0, []))],
  [(177, (.return_, 178, 0, 0, 0, 0, 0, 0, []))]])
set_option maxRecDepth 100000 in
theorem kX1_tryTwo : xMk mX1_tryTwo = true := by decide +kernel
set_option maxRecDepth 100000 in
theorem bX1_tryTwo : xcB mX1_tryTwo 0 0 = true := by decide +kernel
def mX1_take : xM := (yX1_take, cX1_take, 6, none, [
  [(0, (.aload_n 1, 1, 0, 0, 0, 0, 0, 0, [])), (1, (.getfield 108, 4, 0, 0, 0, 0, 3, 206, [])), (4, (.istore 5, 6, 0, 0, 0, 0, 0, 0, [])), (6, (.iload 5, 8, 0, 0, 0, 0, 0, 0, [])), (8, (.aload_n 0, 9, 0, 0, 0, 0, 0, 0, [])), (9, (.getfield 50, 12, 0, 0, 0, 1, 8, 280, [])), (12, (.if_icmp .ge 26, 15, 38, 0, 0, 0, 0, 0, [])), (15, (.aload_n 1, 16, 0, 0, 0, 0, 0, 0, []))],
  [(16, (.getfield 105, 19, 0, 0, 0, 0, 8, 216, [])), (19, (.aload_n 0, 20, 0, 0, 0, 0, 0, 0, [])), (20, (.getfield 40, 23, 0, 0, 0, 1, 6, 278, [])), (23, (.iaload, 24, 0, 0, 0, 0, 0, 0, [])), (24, (.iconst (-1), 25, 0, -1, 0, 0, 0, 0, [])), (25, (.if_icmp .ne 13, 28, 38, 0, 0, 0, 0, 0, [])), (28, (.aload_n 1, 29, 0, 0, 0, 0, 0, 0, [])), (29, (.invokevirtual 102, 32, 0, 0, 0, 0, 0, 736, []))],
  [(32, (.iinc 5 1, 35, 0, 1, 0, 0, 0, 0, [])), (35, (.goto (-29), 38, 6, 0, 0, 0, 0, 0, [])), (38, (.aload_n 1, 39, 0, 0, 0, 0, 0, 0, [])), (39, (.getfield 105, 42, 0, 0, 0, 0, 8, 216, [])), (42, (.aload_n 0, 43, 0, 0, 0, 0, 0, 0, [])), (43, (.getfield 40, 46, 0, 0, 0, 1, 6, 278, [])), (46, (.iaload, 47, 0, 0, 0, 0, 0, 0, [])), (47, (.istore 5, 49, 0, 0, 0, 0, 0, 0, []))],
  [(49, (.iload 5, 51, 0, 0, 0, 0, 0, 0, [])), (51, (.iconst (-1), 52, 0, -1, 0, 0, 0, 0, [])), (52, (.if_icmp .eq 40, 55, 92, 0, 0, 0, 0, 0, [])), (55, (.iload 5, 57, 0, 0, 0, 0, 0, 0, [])), (57, (.aload_n 0, 58, 0, 0, 0, 0, 0, 0, [])), (58, (.getfield 50, 61, 0, 0, 0, 1, 8, 280, [])), (61, (.if_icmp .ge 31, 64, 92, 0, 0, 0, 0, 0, []))],
  [(64, (.aload_n 0, 65, 0, 0, 0, 0, 0, 0, [])), (65, (.iload 5, 67, 0, 0, 0, 0, 0, 0, [])), (67, (.putfield 50, 70, 0, 0, 0, 1, 8, 280, [])), (70, (.aload_n 0, 71, 0, 0, 0, 0, 0, 0, [])), (71, (.iload 5, 73, 0, 0, 0, 0, 0, 0, [])), (73, (.putfield 53, 76, 0, 0, 0, 1, 9, 281, [])), (76, (.aload_n 0, 77, 0, 0, 0, 0, 0, 0, [])), (77, (.iload_n 2, 78, 0, 0, 0, 0, 0, 0, [])), (78, (.putfield 56, 81, 0, 0, 0, 1, 10, 283, []))],
  [(81, (.aload_n 0, 82, 0, 0, 0, 0, 0, 0, [])), (82, (.iload_n 3, 83, 0, 0, 0, 0, 0, 0, [])), (83, (.putfield 59, 86, 0, 0, 0, 1, 11, 285, [])), (86, (.aload_n 0, 87, 0, 0, 0, 0, 0, 0, [])), (87, (.iload 4, 89, 0, 0, 0, 0, 0, 0, [])), (89, (.putfield 62, 92, 0, 0, 0, 1, 12, 287, [])), (92, (.return_, 93, 0, 0, 0, 0, 0, 0, []))]])
set_option maxRecDepth 100000 in
theorem kX1_take : xMk mX1_take = true := by decide +kernel
set_option maxRecDepth 100000 in
theorem bX1_take : xcB mX1_take 0 4 = true := by decide +kernel
end
section
/-! the rows of the methods of X3 -/
def mX3_init : xM := (yX3_init, cX3_init, 2, none, [
  [(0, (.aload_n 0, 1, 0, 0, 0, 0, 0, 0, [])), (1, (.invokespecial 3, 4, 0, 0, 0, 1, 0, 322, [])), (4, (.aload_n 0, 5, 0, 0, 0, 0, 0, 0, [])), (5, (.bipush 8, 7, 0, 8, 0, 0, 0, 0, [])), (7, (.newarray .int, 9, 0, 0, 0, 0, 8, 0, [])), (9, (.putfield 9, 12, 2, 1, 0, 3, 1, 324, [])), (12, (.aload_n 0, 13, 0, 0, 0, 0, 0, 0, [])), (13, (.bipush 8, 15, 0, 8, 0, 0, 0, 0, [])), (15, (.newarray .int, 17, 0, 0, 0, 0, 8, 0, []))],
  [(17, (.putfield 15, 20, 2, 1, 0, 3, 2, 325, [])), (20, (.aload_n 0, 21, 0, 0, 0, 0, 0, 0, [])), (21, (.iconst 3, 22, 0, 3, 0, 0, 0, 0, [])), (22, (.newarray .int, 24, 0, 0, 0, 0, 3, 0, [])), (24, (.putfield 18, 27, 2, 1, 0, 3, 8, 336, [])), (27, (.aload_n 0, 28, 0, 0, 0, 0, 0, 0, [])), (28, (.aload_n 1, 29, 0, 0, 0, 0, 0, 0, [])), (29, (.putfield 21, 32, 2, 1, 0, 3, 0, 323, []))],
  [(32, (.return_, 33, 0, 0, 0, 0, 0, 0, []))]])
set_option maxRecDepth 100000 in
theorem kX3_init : xMk mX3_init = true := by decide +kernel
set_option maxRecDepth 100000 in
theorem bX3_init : xcB mX3_init 2 1 = true := by decide +kernel
def mX3_add : xM := (yX3_add, cX3_add, 3, none, [
  [(0, (.aload_n 0, 1, 0, 0, 0, 0, 0, 0, [])), (1, (.getfield 25, 4, 0, 0, 0, 3, 3, 326, [])), (4, (.bipush 8, 6, 0, 8, 0, 0, 0, 0, [])), (6, (.if_icmp .ge 38, 9, 44, 0, 0, 0, 0, 0, [])), (9, (.aload_n 0, 10, 0, 0, 0, 0, 0, 0, [])), (10, (.getfield 9, 13, 0, 0, 0, 3, 1, 324, [])), (13, (.aload_n 0, 14, 0, 0, 0, 0, 0, 0, [])), (14, (.getfield 25, 17, 0, 0, 0, 3, 3, 326, []))],
  [(17, (.iload_n 1, 18, 0, 0, 0, 0, 0, 0, [])), (18, (.iastore, 19, 0, 0, 0, 0, 0, 0, [])), (19, (.aload_n 0, 20, 0, 0, 0, 0, 0, 0, [])), (20, (.getfield 15, 23, 0, 0, 0, 3, 2, 325, [])), (23, (.aload_n 0, 24, 0, 0, 0, 0, 0, 0, [])), (24, (.getfield 25, 27, 0, 0, 0, 3, 3, 326, [])), (27, (.iload_n 2, 28, 0, 0, 0, 0, 0, 0, [])), (28, (.iastore, 29, 0, 0, 0, 0, 0, 0, [])), (29, (.aload_n 0, 30, 0, 0, 0, 0, 0, 0, [])), (30, (.dup, 31, 0, 0, 0, 0, 0, 0, [])), (31, (.getfield 25, 34, 0, 0, 0, 3, 3, 326, []))],
  [(34, (.iconst 1, 35, 0, 1, 0, 0, 0, 0, [])), (35, (.iadd, 36, 0, 0, 0, 0, 0, 0, [])), (36, (.putfield 25, 39, 0, 0, 0, 3, 3, 326, [])), (39, (.aload_n 0, 40, 0, 0, 0, 0, 0, 0, [])), (40, (.iconst 0, 41, 0, 0, 0, 0, 0, 0, [])), (41, (.putfield 29, 44, 1, 0, 0, 3, 4, 328, [])), (44, (.return_, 45, 0, 0, 0, 0, 0, 0, []))]])
set_option maxRecDepth 100000 in
theorem kX3_add : xMk mX3_add = true := by decide +kernel
set_option maxRecDepth 100000 in
theorem bX3_add : xcB mX3_add 0 2 = true := by decide +kernel
def mX3_clear : xM := (yX3_clear, cX3_clear, 1, none, [
  [(0, (.aload_n 0, 1, 0, 0, 0, 0, 0, 0, [])), (1, (.iconst 0, 2, 0, 0, 0, 0, 0, 0, [])), (2, (.putfield 25, 5, 0, 0, 0, 3, 3, 326, [])), (5, (.aload_n 0, 6, 0, 0, 0, 0, 0, 0, [])), (6, (.iconst 0, 7, 0, 0, 0, 0, 0, 0, [])), (7, (.putfield 29, 10, 1, 0, 0, 3, 4, 328, [])), (10, (.return_, 11, 0, 0, 0, 0, 0, 0, []))]])
set_option maxRecDepth 100000 in
theorem kX3_clear : xMk mX3_clear = true := by decide +kernel
set_option maxRecDepth 100000 in
theorem bX3_clear : xcB mX3_clear 0 0 = true := by decide +kernel
def mX3_findLaws : xM := (yX3_findLaws, cX3_findLaws, 4, none, [
  [(0, (.aload_n 0, 1, 0, 0, 0, 0, 0, 0, [])), (1, (.getfield 29, 4, 0, 0, 0, 3, 4, 328, [])), (4, (.ifCond .eq 4, 7, 8, 0, 0, 0, 0, 0, [])), (7, (.return_, 8, 0, 0, 0, 0, 0, 0, [])), (8, (.aload_n 0, 9, 0, 0, 0, 0, 0, 0, [])), (9, (.iconst 1, 10, 0, 1, 0, 0, 0, 0, [])), (10, (.putfield 29, 13, 1, 0, 0, 3, 4, 328, [])), (13, (.aload_n 0, 14, 0, 0, 0, 0, 0, 0, [])), (14, (.iconst 0, 15, 0, 0, 0, 0, 0, 0, [])), (15, (.putfield 33, 18, 0, 0, 0, 3, 5, 330, []))],
  [(18, (.aload_n 0, 19, 0, 0, 0, 0, 0, 0, [])), (19, (.iconst (-1), 20, 0, -1, 0, 0, 0, 0, [])), (20, (.putfield 36, 23, 0, 0, 0, 3, 6, 332, [])), (23, (.aload_n 0, 24, 0, 0, 0, 0, 0, 0, [])), (24, (.iconst (-1), 25, 0, -1, 0, 0, 0, 0, [])), (25, (.putfield 39, 28, 0, 0, 0, 3, 7, 334, [])), (28, (.aload_n 0, 29, 0, 0, 0, 0, 0, 0, [])), (29, (.getfield 18, 32, 0, 0, 0, 3, 8, 336, []))],
  [(32, (.iconst 0, 33, 0, 0, 0, 0, 0, 0, [])), (33, (.invokestatic 42, 36, 0, 0, 0, 0, 0, 822, [])), (36, (.aload_n 0, 37, 0, 0, 0, 0, 0, 0, [])), (37, (.invokevirtual 48, 40, 0, 0, 0, 0, 0, 823, [])), (40, (.iconst 1, 41, 0, 1, 0, 0, 0, 0, [])), (41, (.iadd, 42, 0, 0, 0, 0, 0, 0, [])), (42, (.istore_n 1, 43, 0, 0, 0, 0, 0, 0, [])), (43, (.iconst 1, 44, 0, 1, 0, 0, 0, 0, [])), (44, (.istore_n 2, 45, 0, 0, 0, 0, 0, 0, [])), (45, (.iload_n 2, 46, 0, 0, 0, 0, 0, 0, [])), (46, (.bipush 7, 48, 0, 7, 0, 0, 0, 0, []))],
  [(48, (.if_icmp .gt 39, 51, 87, 0, 0, 0, 0, 0, [])), (51, (.iconst 1, 52, 0, 1, 0, 0, 0, 0, [])), (52, (.istore_n 3, 53, 0, 0, 0, 0, 0, 0, [])), (53, (.iload_n 3, 54, 0, 0, 0, 0, 0, 0, [])), (54, (.bipush 30, 56, 0, 30, 0, 0, 0, 0, [])), (56, (.if_icmp .gt 25, 59, 81, 0, 0, 0, 0, 0, [])), (59, (.aload_n 0, 60, 0, 0, 0, 0, 0, 0, [])), (60, (.iload_n 2, 61, 0, 0, 0, 0, 0, 0, [])), (61, (.iload_n 3, 62, 0, 0, 0, 0, 0, 0, [])), (62, (.iload_n 1, 63, 0, 0, 0, 0, 0, 0, [])), (63, (.invokevirtual 52, 66, 0, 0, 0, 0, 0, 830, []))],
  [(66, (.ifCond .eq 9, 69, 75, 0, 0, 0, 0, 0, [])), (69, (.aload_n 0, 70, 0, 0, 0, 0, 0, 0, [])), (70, (.iload_n 2, 71, 0, 0, 0, 0, 0, 0, [])), (71, (.iload_n 3, 72, 0, 0, 0, 0, 0, 0, [])), (72, (.invokevirtual 56, 75, 0, 0, 0, 0, 0, 840, [])), (75, (.iinc 3 1, 78, 0, 1, 0, 0, 0, 0, [])), (78, (.goto (-25), 81, 53, 0, 0, 0, 0, 0, []))],
  [(81, (.iinc 2 1, 84, 0, 1, 0, 0, 0, 0, [])), (84, (.goto (-39), 87, 45, 0, 0, 0, 0, 0, [])), (87, (.return_, 88, 0, 0, 0, 0, 0, 0, []))]])
set_option maxRecDepth 100000 in
theorem kX3_findLaws : xMk mX3_findLaws = true := by decide +kernel
set_option maxRecDepth 100000 in
theorem bX3_findLaws : xcB mX3_findLaws 0 0 = true := by decide +kernel
def mX3_lastSeen : xM := (yX3_lastSeen, cX3_lastSeen, 3, (some .int), [
  [(0, (.iconst (-1), 1, 0, -1, 0, 0, 0, 0, [])), (1, (.istore_n 1, 2, 0, 0, 0, 0, 0, 0, [])), (2, (.iconst 0, 3, 0, 0, 0, 0, 0, 0, [])), (3, (.istore_n 2, 4, 0, 0, 0, 0, 0, 0, [])), (4, (.iload_n 2, 5, 0, 0, 0, 0, 0, 0, [])), (5, (.aload_n 0, 6, 0, 0, 0, 0, 0, 0, [])), (6, (.getfield 25, 9, 0, 0, 0, 3, 3, 326, [])), (9, (.if_icmp .ge 20, 12, 29, 0, 0, 0, 0, 0, [])), (12, (.iload_n 1, 13, 0, 0, 0, 0, 0, 0, [])), (13, (.aload_n 0, 14, 0, 0, 0, 0, 0, 0, [])), (14, (.getfield 15, 17, 0, 0, 0, 3, 2, 325, []))],
  [(17, (.iload_n 2, 18, 0, 0, 0, 0, 0, 0, [])), (18, (.iaload, 19, 0, 0, 0, 0, 0, 0, [])), (19, (.invokestatic 60, 22, 0, 0, 0, 1, 0, 827, [])), (22, (.istore_n 1, 23, 0, 0, 0, 0, 0, 0, [])), (23, (.iinc 2 1, 26, 0, 1, 0, 0, 0, 0, [])), (26, (.goto (-22), 29, 4, 0, 0, 0, 0, 0, [])), (29, (.iload_n 1, 30, 0, 0, 0, 0, 0, 0, [])), (30, (.ireturn, 31, 0, 0, 0, 0, 0, 0, []))]])
set_option maxRecDepth 100000 in
theorem kX3_lastSeen : xMk mX3_lastSeen = true := by decide +kernel
set_option maxRecDepth 100000 in
theorem bX3_lastSeen : xcB mX3_lastSeen 0 0 = true := by decide +kernel
def mX3_fits : xM := (yX3_fits, cX3_fits, 5, (some .boolean), [
  [(0, (.aload_n 0, 1, 0, 0, 0, 0, 0, 0, [])), (1, (.getfield 21, 4, 0, 0, 0, 3, 0, 323, [])), (4, (.iload_n 1, 5, 0, 0, 0, 0, 0, 0, [])), (5, (.iload_n 2, 6, 0, 0, 0, 0, 0, 0, [])), (6, (.invokevirtual 66, 9, 0, 0, 0, 0, 0, 834, [])), (9, (.aload_n 0, 10, 0, 0, 0, 0, 0, 0, [])), (10, (.getfield 21, 13, 0, 0, 0, 3, 0, 323, [])), (13, (.iload_n 3, 14, 0, 0, 0, 0, 0, 0, [])), (14, (.invokevirtual 71, 17, 0, 0, 0, 0, 0, 835, []))],
  [(17, (.iconst 0, 18, 0, 0, 0, 0, 0, 0, [])), (18, (.istore 4, 20, 0, 0, 0, 0, 0, 0, [])), (20, (.iload 4, 22, 0, 0, 0, 0, 0, 0, [])), (22, (.aload_n 0, 23, 0, 0, 0, 0, 0, 0, [])), (23, (.getfield 25, 26, 0, 0, 0, 3, 3, 326, [])), (26, (.if_icmp .ge 38, 29, 64, 0, 0, 0, 0, 0, [])), (29, (.aload_n 0, 30, 0, 0, 0, 0, 0, 0, [])), (30, (.getfield 21, 33, 0, 0, 0, 3, 0, 323, []))],
  [(33, (.getfield 75, 36, 0, 0, 0, 0, 14, 227, [])), (36, (.aload_n 0, 37, 0, 0, 0, 0, 0, 0, [])), (37, (.getfield 9, 40, 0, 0, 0, 3, 1, 324, [])), (40, (.iload 4, 42, 0, 0, 0, 0, 0, 0, [])), (42, (.iaload, 43, 0, 0, 0, 0, 0, 0, [])), (43, (.aload_n 0, 44, 0, 0, 0, 0, 0, 0, [])), (44, (.getfield 15, 47, 0, 0, 0, 3, 2, 325, [])), (47, (.iload 4, 49, 0, 0, 0, 0, 0, 0, []))],
  [(49, (.iaload, 50, 0, 0, 0, 0, 0, 0, [])), (50, (.invokevirtual 79, 53, 0, 0, 0, 0, 0, 836, [])), (53, (.ifCond .ne 5, 56, 58, 0, 0, 0, 0, 0, [])), (56, (.iconst 0, 57, 0, 0, 0, 0, 0, 0, [])), (57, (.ireturn, 58, 0, 0, 0, 0, 0, 0, [])), (58, (.iinc 4 1, 61, 0, 1, 0, 0, 0, 0, [])), (61, (.goto (-41), 64, 20, 0, 0, 0, 0, 0, []))],
  [(64, (.iconst 1, 65, 0, 1, 0, 0, 0, 0, [])), (65, (.ireturn, 66, 0, 0, 0, 0, 0, 0, []))]])
set_option maxRecDepth 100000 in
theorem kX3_fits : xMk mX3_fits = true := by decide +kernel
set_option maxRecDepth 100000 in
theorem bX3_fits : xcB mX3_fits 0 3 = true := by decide +kernel
def mX3_addLaw : xM := (yX3_addLaw, cX3_addLaw, 4, none, [
  [(0, (.aload_n 0, 1, 0, 0, 0, 0, 0, 0, [])), (1, (.getfield 33, 4, 0, 0, 0, 3, 5, 330, [])), (4, (.ifCond .ne 13, 7, 17, 0, 0, 0, 0, 0, [])), (7, (.aload_n 0, 8, 0, 0, 0, 0, 0, 0, [])), (8, (.iload_n 1, 9, 0, 0, 0, 0, 0, 0, [])), (9, (.putfield 36, 12, 0, 0, 0, 3, 6, 332, [])), (12, (.aload_n 0, 13, 0, 0, 0, 0, 0, 0, [])), (13, (.iload_n 2, 14, 0, 0, 0, 0, 0, 0, [])), (14, (.putfield 39, 17, 0, 0, 0, 3, 7, 334, []))],
  [(17, (.aload_n 0, 18, 0, 0, 0, 0, 0, 0, [])), (18, (.dup, 19, 0, 0, 0, 0, 0, 0, [])), (19, (.getfield 33, 22, 0, 0, 0, 3, 5, 330, [])), (22, (.iconst 1, 23, 0, 1, 0, 0, 0, 0, [])), (23, (.iadd, 24, 0, 0, 0, 0, 0, 0, [])), (24, (.putfield 33, 27, 0, 0, 0, 3, 5, 330, [])), (27, (.iconst 0, 28, 0, 0, 0, 0, 0, 0, [])), (28, (.istore_n 3, 29, 0, 0, 0, 0, 0, 0, [])), (29, (.iload_n 3, 30, 0, 0, 0, 0, 0, 0, [])), (30, (.iconst 3, 31, 0, 3, 0, 0, 0, 0, [])), (31, (.if_icmp .ge 23, 34, 54, 0, 0, 0, 0, 0, []))],
  [(34, (.aload_n 0, 35, 0, 0, 0, 0, 0, 0, [])), (35, (.getfield 18, 38, 0, 0, 0, 3, 8, 336, [])), (38, (.iload_n 3, 39, 0, 0, 0, 0, 0, 0, [])), (39, (.dup2, 40, 0, 0, 0, 0, 0, 0, [])), (40, (.iaload, 41, 0, 0, 0, 0, 0, 0, [])), (41, (.iload_n 1, 42, 0, 0, 0, 0, 0, 0, [])), (42, (.iload_n 3, 43, 0, 0, 0, 0, 0, 0, [])), (43, (.ishr, 44, 0, 0, 0, 0, 0, 0, [])), (44, (.iconst 1, 45, 0, 1, 0, 0, 0, 0, [])), (45, (.iand, 46, 0, 0, 0, 0, 0, 0, [])), (46, (.iadd, 47, 0, 0, 0, 0, 0, 0, [])), (47, (.iastore, 48, 0, 0, 0, 0, 0, 0, []))],
  [(48, (.iinc 3 1, 51, 0, 1, 0, 0, 0, 0, [])), (51, (.goto (-22), 54, 29, 0, 0, 0, 0, 0, [])), (54, (.return_, 55, 0, 0, 0, 0, 0, 0, []))]])
set_option maxRecDepth 100000 in
theorem kX3_addLaw : xMk mX3_addLaw = true := by decide +kernel
set_option maxRecDepth 100000 in
theorem bX3_addLaw : xcB mX3_addLaw 0 2 = true := by decide +kernel
end
section
/-! the rows of the methods of X7 -/
def mX7_init : xM := (yX7_init, cX7_init, 2, none, [
  [(0, (.aload_n 0, 1, 0, 0, 0, 0, 0, 0, [])), (1, (.invokespecial 3, 4, 0, 0, 0, 1, 0, 23, [])), (4, (.aload_n 0, 5, 0, 0, 0, 0, 0, 0, [])), (5, (.new 9, 8, 0, 0, 0, 5, 0, 26, [])), (8, (.dup, 9, 0, 0, 0, 0, 0, 0, [])), (9, (.invokespecial 11, 12, 0, 0, 0, 0, 0, 0, [])), (12, (.putfield 12, 15, 2, 1, 0, 7, 0, 364, [])), (15, (.aload_n 0, 16, 0, 0, 0, 0, 0, 0, []))],
  [(16, (.new 16, 19, 0, 0, 0, 6, 0, 42, [])), (19, (.dup, 20, 0, 0, 0, 0, 0, 0, [])), (20, (.invokespecial 18, 23, 0, 0, 0, 0, 0, 0, [])), (23, (.putfield 19, 26, 2, 1, 0, 7, 1, 365, [])), (26, (.aload_n 0, 27, 0, 0, 0, 0, 0, 0, [])), (27, (.new 23, 30, 0, 0, 0, 4, 0, 132, [])), (30, (.dup, 31, 0, 0, 0, 0, 0, 0, [])), (31, (.aload_n 0, 32, 0, 0, 0, 0, 0, 0, []))],
  [(32, (.getfield 12, 35, 0, 0, 0, 7, 0, 364, [])), (35, (.aload_n 0, 36, 0, 0, 0, 0, 0, 0, [])), (36, (.getfield 19, 39, 0, 0, 0, 7, 1, 365, [])), (39, (.invokespecial 25, 42, 0, 0, 0, 0, 0, 134, [])), (42, (.putfield 28, 45, 2, 1, 0, 7, 2, 366, [])), (45, (.aload_n 0, 46, 0, 0, 0, 0, 0, 0, [])), (46, (.new 32, 49, 0, 0, 0, 0, 0, 168, []))],
  [(49, (.dup, 50, 0, 0, 0, 0, 0, 0, [])), (50, (.aload_n 0, 51, 0, 0, 0, 0, 0, 0, [])), (51, (.getfield 19, 54, 0, 0, 0, 7, 1, 365, [])), (54, (.invokespecial 34, 57, 0, 0, 0, 0, 0, 170, [])), (57, (.putfield 37, 60, 2, 1, 0, 7, 3, 367, [])), (60, (.aload_n 0, 61, 0, 0, 0, 0, 0, 0, [])), (61, (.new 32, 64, 0, 0, 0, 0, 0, 168, []))],
  [(64, (.dup, 65, 0, 0, 0, 0, 0, 0, [])), (65, (.aload_n 0, 66, 0, 0, 0, 0, 0, 0, [])), (66, (.getfield 19, 69, 0, 0, 0, 7, 1, 365, [])), (69, (.invokespecial 34, 72, 0, 0, 0, 0, 0, 170, [])), (72, (.putfield 41, 75, 2, 1, 0, 7, 4, 368, [])), (75, (.aload_n 0, 76, 0, 0, 0, 0, 0, 0, [])), (76, (.iconst 2, 77, 0, 2, 0, 0, 0, 0, [])), (77, (.anewarray 32, 80, 0, 0, 0, 0, 2, 168, []))],
  [(80, (.putfield 44, 83, 2, 1, 0, 7, 5, 369, [])), (83, (.aload_n 0, 84, 0, 0, 0, 0, 0, 0, [])), (84, (.iconst 2, 85, 0, 2, 0, 0, 0, 0, [])), (85, (.newarray .boolean, 87, 0, 0, 0, 1, 2, 0, [])), (87, (.putfield 48, 90, 2, 1, 0, 7, 6, 370, [])), (90, (.aload_n 0, 91, 0, 0, 0, 0, 0, 0, [])), (91, (.new 52, 94, 0, 0, 0, 1, 0, 261, [])), (94, (.dup, 95, 0, 0, 0, 0, 0, 0, [])), (95, (.aload_n 0, 96, 0, 0, 0, 0, 0, 0, []))],
  [(96, (.getfield 19, 99, 0, 0, 0, 7, 1, 365, [])), (99, (.invokespecial 54, 102, 0, 0, 0, 0, 0, 263, [])), (102, (.putfield 55, 105, 2, 1, 0, 7, 7, 371, [])), (105, (.aload_n 0, 106, 0, 0, 0, 0, 0, 0, [])), (106, (.new 59, 109, 0, 0, 0, 3, 0, 317, [])), (109, (.dup, 110, 0, 0, 0, 0, 0, 0, [])), (110, (.aload_n 0, 111, 0, 0, 0, 0, 0, 0, [])), (111, (.getfield 41, 114, 0, 0, 0, 7, 4, 368, []))],
  [(114, (.invokespecial 61, 117, 0, 0, 0, 0, 0, 319, [])), (117, (.putfield 64, 120, 2, 1, 0, 7, 8, 372, [])), (120, (.iconst 0, 121, 0, 0, 0, 0, 0, 0, [])), (121, (.istore_n 1, 122, 0, 0, 0, 0, 0, 0, [])), (122, (.iload_n 1, 123, 0, 0, 0, 0, 0, 0, [])), (123, (.iconst 2, 124, 0, 2, 0, 0, 0, 0, [])), (124, (.if_icmp .ge 26, 127, 150, 0, 0, 0, 0, 0, [])), (127, (.aload_n 0, 128, 0, 0, 0, 0, 0, 0, []))],
  [(128, (.getfield 44, 131, 0, 0, 0, 7, 5, 369, [])), (131, (.iload_n 1, 132, 0, 0, 0, 0, 0, 0, [])), (132, (.new 32, 135, 0, 0, 0, 0, 0, 168, [])), (135, (.dup, 136, 0, 0, 0, 0, 0, 0, [])), (136, (.aload_n 0, 137, 0, 0, 0, 0, 0, 0, [])), (137, (.getfield 19, 140, 0, 0, 0, 7, 1, 365, [])), (140, (.invokespecial 34, 143, 0, 0, 0, 0, 0, 170, [])), (143, (.aastore, 144, 0, 0, 0, 0, 0, 0, []))],
  [(144, (.iinc 1 1, 147, 0, 1, 0, 0, 0, 0, [])), (147, (.goto (-25), 150, 122, 0, 0, 0, 0, 0, [])), (150, (.aload_n 0, 151, 0, 0, 0, 0, 0, 0, [])), (151, (.getfield 37, 154, 0, 0, 0, 7, 3, 367, [])), (154, (.aload_n 0, 155, 0, 0, 0, 0, 0, 0, [])), (155, (.getfield 19, 158, 0, 0, 0, 7, 1, 365, [])), (158, (.getfield 68, 161, 0, 0, 0, 6, 1, 52, []))],
  [(161, (.aload_n 0, 162, 0, 0, 0, 0, 0, 0, [])), (162, (.getfield 19, 165, 0, 0, 0, 7, 1, 365, [])), (165, (.getfield 72, 168, 0, 0, 0, 6, 2, 56, [])), (168, (.invokevirtual 75, 171, 0, 0, 0, 0, 0, 357, [])), (171, (.return_, 172, 0, 0, 0, 0, 0, 0, []))]])
set_option maxRecDepth 100000 in
theorem kX7_init : xMk mX7_init = true := by decide +kernel
set_option maxRecDepth 100000 in
theorem bX7_init : xcB mX7_init 2 0 = true := by decide +kernel
def mX7_write : xM := (yX7_write, cX7_write, 5, (some .int), [
  [(0, (.iload_n 3, 1, 0, 0, 0, 0, 0, 0, [])), (1, (.iconst 1, 2, 0, 1, 0, 0, 0, 0, [])), (2, (.if_icmp .lt 9, 5, 11, 0, 0, 0, 0, 0, [])), (5, (.iload_n 3, 6, 0, 0, 0, 0, 0, 0, [])), (6, (.bipush 8, 8, 0, 8, 0, 0, 0, 0, [])), (8, (.if_icmp .le 6, 11, 14, 0, 0, 0, 0, 0, [])), (11, (.bipush (-3), 13, 0, -3, 0, 0, 0, 0, [])), (13, (.ireturn, 14, 0, 0, 0, 0, 0, 0, [])), (14, (.aload_n 0, 15, 0, 0, 0, 0, 0, 0, [])), (15, (.getfield 12, 18, 0, 0, 0, 7, 0, 364, []))],
  [(18, (.getfield 79, 21, 0, 0, 0, 5, 1, 34, [])), (21, (.iload_n 3, 22, 0, 0, 0, 0, 0, 0, [])), (22, (.iadd, 23, 0, 0, 0, 0, 0, 0, [])), (23, (.sipush 200, 26, 0, 200, 0, 0, 0, 0, [])), (26, (.if_icmp .le 6, 29, 32, 0, 0, 0, 0, 0, [])), (29, (.bipush (-5), 31, 0, -5, 0, 0, 0, 0, [])), (31, (.ireturn, 32, 0, 0, 0, 0, 0, 0, []))],
  [(32, (.iconst 0, 33, 0, 0, 0, 0, 0, 0, [])), (33, (.istore 4, 35, 0, 0, 0, 0, 0, 0, [])), (35, (.iload 4, 37, 0, 0, 0, 0, 0, 0, [])), (37, (.iload_n 3, 38, 0, 0, 0, 0, 0, 0, [])), (38, (.if_icmp .ge 28, 41, 66, 0, 0, 0, 0, 0, [])), (41, (.aload_n 0, 42, 0, 0, 0, 0, 0, 0, [])), (42, (.getfield 12, 45, 0, 0, 0, 7, 0, 364, [])), (45, (.lload_n 1, 46, 0, 0, 0, 0, 0, 0, [])), (46, (.bipush 8, 48, 0, 8, 0, 0, 0, 0, []))],
  [(48, (.iload 4, 50, 0, 0, 0, 0, 0, 0, [])), (50, (.imul, 51, 0, 0, 0, 0, 0, 0, [])), (51, (.lshr, 52, 0, 0, 0, 0, 0, 0, [])), (52, (.l2i, 53, 0, 0, 0, 0, 0, 0, [])), (53, (.sipush 255, 56, 0, 255, 0, 0, 0, 0, [])), (56, (.iand, 57, 0, 0, 0, 0, 0, 0, [])), (57, (.invokevirtual 82, 60, 0, 0, 0, 0, 0, 396, [])), (60, (.iinc 4 1, 63, 0, 1, 0, 0, 0, 0, [])), (63, (.goto (-28), 66, 35, 0, 0, 0, 0, 0, []))],
  [(66, (.aload_n 0, 67, 0, 0, 0, 0, 0, 0, [])), (67, (.getfield 12, 70, 0, 0, 0, 7, 0, 364, [])), (70, (.getfield 79, 73, 0, 0, 0, 5, 1, 34, [])), (73, (.ireturn, 74, 0, 0, 0, 0, 0, 0, []))]])
set_option maxRecDepth 100000 in
theorem kX7_write : xMk mX7_write = true := by decide +kernel
set_option maxRecDepth 100000 in
theorem bX7_write : xcB mX7_write 0 2 = true := by decide +kernel
def mX7_erase : xM := (yX7_erase, cX7_erase, 2, (some .int), [
  [(0, (.aload_n 0, 1, 0, 0, 0, 0, 0, 0, [])), (1, (.getfield 12, 4, 0, 0, 0, 7, 0, 364, [])), (4, (.getfield 79, 7, 0, 0, 0, 5, 1, 34, [])), (7, (.istore_n 1, 8, 0, 0, 0, 0, 0, 0, [])), (8, (.aload_n 0, 9, 0, 0, 0, 0, 0, 0, [])), (9, (.getfield 12, 12, 0, 0, 0, 7, 0, 364, [])), (12, (.iconst 0, 13, 0, 0, 0, 0, 0, 0, [])), (13, (.putfield 79, 16, 0, 0, 0, 5, 1, 34, []))],
  [(16, (.iload_n 1, 17, 0, 0, 0, 0, 0, 0, [])), (17, (.ireturn, 18, 0, 0, 0, 0, 0, 0, []))]])
set_option maxRecDepth 100000 in
theorem kX7_erase : xMk mX7_erase = true := by decide +kernel
set_option maxRecDepth 100000 in
theorem bX7_erase : xcB mX7_erase 0 0 = true := by decide +kernel
def mX7_fault : xM := (yX7_fault, cX7_fault, 1, (some .int), [
  [(0, (.aload_n 0, 1, 0, 0, 0, 0, 0, 0, [])), (1, (.getfield 28, 4, 0, 0, 0, 7, 2, 366, [])), (4, (.invokevirtual 86, 7, 0, 0, 0, 0, 0, 408, [])), (7, (.aload_n 0, 8, 0, 0, 0, 0, 0, 0, [])), (8, (.getfield 28, 11, 0, 0, 0, 7, 2, 366, [])), (11, (.getfield 89, 14, 0, 0, 0, 4, 4, 146, [])), (14, (.ireturn, 15, 0, 0, 0, 0, 0, 0, []))]])
set_option maxRecDepth 100000 in
theorem kX7_fault : xMk mX7_fault = true := by decide +kernel
set_option maxRecDepth 100000 in
theorem bX7_fault : xcB mX7_fault 0 0 = true := by decide +kernel
def mX7_rail : xM := (yX7_rail, cX7_rail, 1, (some .int), [
  [(0, (.aload_n 0, 1, 0, 0, 0, 0, 0, 0, [])), (1, (.getfield 28, 4, 0, 0, 0, 7, 2, 366, [])), (4, (.invokevirtual 86, 7, 0, 0, 0, 0, 0, 408, [])), (7, (.aload_n 0, 8, 0, 0, 0, 0, 0, 0, [])), (8, (.getfield 28, 11, 0, 0, 0, 7, 2, 366, [])), (11, (.getfield 89, 14, 0, 0, 0, 4, 4, 146, [])), (14, (.iconst (-1), 15, 0, -1, 0, 0, 0, 0, [])), (15, (.if_icmp .eq 6, 18, 21, 0, 0, 0, 0, 0, []))],
  [(18, (.bipush (-4), 20, 0, -4, 0, 0, 0, 0, [])), (20, (.ireturn, 21, 0, 0, 0, 0, 0, 0, [])), (21, (.aload_n 0, 22, 0, 0, 0, 0, 0, 0, [])), (22, (.getfield 19, 25, 0, 0, 0, 7, 1, 365, [])), (25, (.aload_n 0, 26, 0, 0, 0, 0, 0, 0, [])), (26, (.getfield 28, 29, 0, 0, 0, 7, 2, 366, [])), (29, (.getfield 92, 32, 0, 0, 0, 4, 2, 143, []))],
  [(32, (.invokevirtual 95, 35, 0, 0, 0, 0, 0, 572, [])), (35, (.aload_n 0, 36, 0, 0, 0, 0, 0, 0, [])), (36, (.getfield 12, 39, 0, 0, 0, 7, 0, 364, [])), (39, (.iconst 0, 40, 0, 0, 0, 0, 0, 0, [])), (40, (.putfield 79, 43, 0, 0, 0, 5, 1, 34, [])), (43, (.aload_n 0, 44, 0, 0, 0, 0, 0, 0, [])), (44, (.getfield 37, 47, 0, 0, 0, 7, 3, 367, [])), (47, (.aload_n 0, 48, 0, 0, 0, 0, 0, 0, []))],
  [(48, (.getfield 19, 51, 0, 0, 0, 7, 1, 365, [])), (51, (.getfield 68, 54, 0, 0, 0, 6, 1, 52, [])), (54, (.aload_n 0, 55, 0, 0, 0, 0, 0, 0, [])), (55, (.getfield 19, 58, 0, 0, 0, 7, 1, 365, [])), (58, (.getfield 72, 61, 0, 0, 0, 6, 2, 56, [])), (61, (.invokevirtual 75, 64, 0, 0, 0, 0, 0, 357, []))],
  [(64, (.aload_n 0, 65, 0, 0, 0, 0, 0, 0, [])), (65, (.getfield 64, 68, 0, 0, 0, 7, 8, 372, [])), (68, (.invokevirtual 98, 71, 0, 0, 0, 0, 0, 573, [])), (71, (.aload_n 0, 72, 0, 0, 0, 0, 0, 0, [])), (72, (.invokevirtual 101, 75, 0, 0, 0, 0, 0, 577, [])), (75, (.aload_n 0, 76, 0, 0, 0, 0, 0, 0, [])), (76, (.getfield 28, 79, 0, 0, 0, 7, 2, 366, [])), (79, (.getfield 104, 82, 0, 0, 0, 4, 5, 148, []))],
  [(82, (.ireturn, 83, 0, 0, 0, 0, 0, 0, []))]])
set_option maxRecDepth 100000 in
theorem kX7_rail : xMk mX7_rail = true := by decide +kernel
set_option maxRecDepth 100000 in
theorem bX7_rail : xcB mX7_rail 0 0 = true := by decide +kernel
def mX7_mood : xM := (yX7_mood, cX7_mood, 3, (some .int), [
  [(0, (.iload_n 1, 1, 0, 0, 0, 0, 0, 0, [])), (1, (.ifCond .lt 14, 4, 15, 0, 0, 0, 0, 0, [])), (4, (.iload_n 1, 5, 0, 0, 0, 0, 0, 0, [])), (5, (.aload_n 0, 6, 0, 0, 0, 0, 0, 0, [])), (6, (.getfield 19, 9, 0, 0, 0, 7, 1, 365, [])), (9, (.getfield 107, 12, 0, 0, 0, 6, 12, 83, [])), (12, (.if_icmp .lt 6, 15, 18, 0, 0, 0, 0, 0, [])), (15, (.bipush (-2), 17, 0, -2, 0, 0, 0, 0, []))],
  [(17, (.ireturn, 18, 0, 0, 0, 0, 0, 0, [])), (18, (.iload_n 2, 19, 0, 0, 0, 0, 0, 0, [])), (19, (.tableswitch 85 0 4 #[33, 43, 53, 63, 73], 52, 104, 0, 0, 0, 0, 0, [(0, 52), (1, 62), (2, 72), (3, 82), (4, 92)]))],
  [],
  [(52, (.aload_n 0, 53, 0, 0, 0, 0, 0, 0, [])), (53, (.getfield 19, 56, 0, 0, 0, 7, 1, 365, [])), (56, (.getfield 110, 59, 0, 0, 0, 6, 13, 87, [])), (59, (.iload_n 1, 60, 0, 0, 0, 0, 0, 0, [])), (60, (.iaload, 61, 0, 0, 0, 0, 0, 0, [])), (61, (.ireturn, 62, 0, 0, 0, 0, 0, 0, [])), (62, (.aload_n 0, 63, 0, 0, 0, 0, 0, 0, [])), (63, (.getfield 19, 66, 0, 0, 0, 7, 1, 365, []))],
  [(66, (.getfield 114, 69, 0, 0, 0, 6, 14, 90, [])), (69, (.iload_n 1, 70, 0, 0, 0, 0, 0, 0, [])), (70, (.iaload, 71, 0, 0, 0, 0, 0, 0, [])), (71, (.ireturn, 72, 0, 0, 0, 0, 0, 0, [])), (72, (.aload_n 0, 73, 0, 0, 0, 0, 0, 0, [])), (73, (.getfield 19, 76, 0, 0, 0, 7, 1, 365, [])), (76, (.getfield 117, 79, 0, 0, 0, 6, 15, 93, [])), (79, (.iload_n 1, 80, 0, 0, 0, 0, 0, 0, []))],
  [(80, (.iaload, 81, 0, 0, 0, 0, 0, 0, [])), (81, (.ireturn, 82, 0, 0, 0, 0, 0, 0, [])), (82, (.aload_n 0, 83, 0, 0, 0, 0, 0, 0, [])), (83, (.getfield 37, 86, 0, 0, 0, 7, 3, 367, [])), (86, (.getfield 120, 89, 0, 0, 0, 0, 10, 221, [])), (89, (.iload_n 1, 90, 0, 0, 0, 0, 0, 0, [])), (90, (.iaload, 91, 0, 0, 0, 0, 0, 0, [])), (91, (.ireturn, 92, 0, 0, 0, 0, 0, 0, [])), (92, (.aload_n 0, 93, 0, 0, 0, 0, 0, 0, [])), (93, (.getfield 37, 96, 0, 0, 0, 7, 3, 367, []))],
  [(96, (.getfield 123, 99, 0, 0, 0, 0, 13, 225, [])), (99, (.iload_n 1, 100, 0, 0, 0, 0, 0, 0, [])), (100, (.ishr, 101, 0, 0, 0, 0, 0, 0, [])), (101, (.iconst 1, 102, 0, 1, 0, 0, 0, 0, [])), (102, (.iand, 103, 0, 0, 0, 0, 0, 0, [])), (103, (.ireturn, 104, 0, 0, 0, 0, 0, 0, [])), (104, (.bipush (-3), 106, 0, -3, 0, 0, 0, 0, [])), (106, (.ireturn, 107, 0, 0, 0, 0, 0, 0, []))]])
set_option maxRecDepth 100000 in
theorem kX7_mood : xMk mX7_mood = true := by decide +kernel
set_option maxRecDepth 100000 in
theorem bX7_mood : xcB mX7_mood 0 2 = true := by decide +kernel
def mX7_drawn : xM := (yX7_drawn, cX7_drawn, 5, (some .int), [
  [(0, (.iload_n 1, 1, 0, 0, 0, 0, 0, 0, [])), (1, (.iconst 1, 2, 0, 1, 0, 0, 0, 0, [])), (2, (.if_icmp .lt 21, 5, 23, 0, 0, 0, 0, 0, [])), (5, (.iload_n 1, 6, 0, 0, 0, 0, 0, 0, [])), (6, (.sipush 9999, 9, 0, 9999, 0, 0, 0, 0, [])), (9, (.if_icmp .gt 14, 12, 23, 0, 0, 0, 0, 0, [])), (12, (.iload_n 2, 13, 0, 0, 0, 0, 0, 0, [])), (13, (.iconst 1, 14, 0, 1, 0, 0, 0, 0, [])), (14, (.if_icmp .lt 9, 17, 23, 0, 0, 0, 0, 0, []))],
  [(17, (.iload_n 2, 18, 0, 0, 0, 0, 0, 0, [])), (18, (.bipush 24, 20, 0, 24, 0, 0, 0, 0, [])), (20, (.if_icmp .le 6, 23, 26, 0, 0, 0, 0, 0, [])), (23, (.bipush (-3), 25, 0, -3, 0, 0, 0, 0, [])), (25, (.ireturn, 26, 0, 0, 0, 0, 0, 0, [])), (26, (.aload_n 0, 27, 0, 0, 0, 0, 0, 0, [])), (27, (.getfield 37, 30, 0, 0, 0, 7, 3, 367, [])), (30, (.getfield 126, 33, 0, 0, 0, 0, 3, 207, []))],
  [(33, (.ifCond .gt 13, 36, 46, 0, 0, 0, 0, 0, [])), (36, (.aload_n 0, 37, 0, 0, 0, 0, 0, 0, [])), (37, (.getfield 19, 40, 0, 0, 0, 7, 1, 365, [])), (40, (.getfield 129, 43, 0, 0, 0, 6, 9, 76, [])), (43, (.ifCond .ne 6, 46, 49, 0, 0, 0, 0, 0, [])), (46, (.bipush (-4), 48, 0, -4, 0, 0, 0, 0, []))],
  [(48, (.ireturn, 49, 0, 0, 0, 0, 0, 0, [])), (49, (.aload_n 0, 50, 0, 0, 0, 0, 0, 0, [])), (50, (.getfield 19, 53, 0, 0, 0, 7, 1, 365, [])), (53, (.getfield 107, 56, 0, 0, 0, 6, 12, 83, [])), (56, (.iload_n 2, 57, 0, 0, 0, 0, 0, 0, [])), (57, (.iadd, 58, 0, 0, 0, 0, 0, 0, [])), (58, (.bipush 24, 60, 0, 24, 0, 0, 0, 0, [])), (60, (.if_icmp .le 6, 63, 66, 0, 0, 0, 0, 0, [])), (63, (.bipush (-5), 65, 0, -5, 0, 0, 0, 0, []))],
  [(65, (.ireturn, 66, 0, 0, 0, 0, 0, 0, [])), (66, (.iload_n 1, 67, 0, 0, 0, 0, 0, 0, [])), (67, (.istore_n 3, 68, 0, 0, 0, 0, 0, 0, [])), (68, (.iconst 0, 69, 0, 0, 0, 0, 0, 0, [])), (69, (.istore 4, 71, 0, 0, 0, 0, 0, 0, [])), (71, (.iload 4, 73, 0, 0, 0, 0, 0, 0, [])), (73, (.iload_n 2, 74, 0, 0, 0, 0, 0, 0, [])), (74, (.if_icmp .ge 46, 77, 120, 0, 0, 0, 0, 0, [])), (77, (.sipush 16807, 80, 0, 16807, 0, 0, 0, 0, []))],
  [(80, (.iload_n 3, 81, 0, 0, 0, 0, 0, 0, [])), (81, (.imul, 82, 0, 0, 0, 0, 0, 0, [])), (82, (.ldc 132, 84, 0, 65521, 0, 0, 0, 589, [])), (84, (.irem, 85, 0, 0, 0, 0, 0, 0, [])), (85, (.istore_n 3, 86, 0, 0, 0, 0, 0, 0, [])), (86, (.aload_n 0, 87, 0, 0, 0, 0, 0, 0, [])), (87, (.getfield 19, 90, 0, 0, 0, 7, 1, 365, [])), (90, (.aload_n 0, 91, 0, 0, 0, 0, 0, 0, [])), (91, (.getfield 19, 94, 0, 0, 0, 7, 1, 365, [])), (94, (.iload_n 3, 95, 0, 0, 0, 0, 0, 0, [])), (95, (.invokevirtual 133, 98, 0, 0, 0, 0, 0, 590, []))],
  [(98, (.iload_n 3, 99, 0, 0, 0, 0, 0, 0, [])), (99, (.bipush 8, 101, 0, 8, 0, 0, 0, 0, [])), (101, (.idiv, 102, 0, 0, 0, 0, 0, 0, [])), (102, (.iconst 3, 103, 0, 3, 0, 0, 0, 0, [])), (103, (.irem, 104, 0, 0, 0, 0, 0, 0, [])), (104, (.iload_n 3, 105, 0, 0, 0, 0, 0, 0, [])), (105, (.bipush 32, 107, 0, 32, 0, 0, 0, 0, [])), (107, (.idiv, 108, 0, 0, 0, 0, 0, 0, [])), (108, (.bipush 60, 110, 0, 60, 0, 0, 0, 0, [])), (110, (.irem, 111, 0, 0, 0, 0, 0, 0, [])), (111, (.invokevirtual 137, 114, 0, 0, 0, 0, 0, 601, []))],
  [(114, (.iinc 4 1, 117, 0, 1, 0, 0, 0, 0, [])), (117, (.goto (-46), 120, 71, 0, 0, 0, 0, 0, [])), (120, (.aload_n 0, 121, 0, 0, 0, 0, 0, 0, [])), (121, (.invokevirtual 101, 124, 0, 0, 0, 0, 0, 577, [])), (124, (.aload_n 0, 125, 0, 0, 0, 0, 0, 0, [])), (125, (.getfield 19, 128, 0, 0, 0, 7, 1, 365, []))],
  [(128, (.getfield 107, 131, 0, 0, 0, 6, 12, 83, [])), (131, (.ireturn, 132, 0, 0, 0, 0, 0, 0, []))]])
set_option maxRecDepth 100000 in
theorem kX7_drawn : xMk mX7_drawn = true := by decide +kernel
set_option maxRecDepth 100000 in
theorem bX7_drawn : xcB mX7_drawn 0 2 = true := by decide +kernel
def mX7_go : xM := (yX7_go, cX7_go, 2, (some .int), [
  [(0, (.iload_n 1, 1, 0, 0, 0, 0, 0, 0, [])), (1, (.iconst 1, 2, 0, 1, 0, 0, 0, 0, [])), (2, (.if_icmp .lt 9, 5, 11, 0, 0, 0, 0, 0, [])), (5, (.iload_n 1, 6, 0, 0, 0, 0, 0, 0, [])), (6, (.bipush 60, 8, 0, 60, 0, 0, 0, 0, [])), (8, (.if_icmp .le 6, 11, 14, 0, 0, 0, 0, 0, [])), (11, (.bipush (-3), 13, 0, -3, 0, 0, 0, 0, [])), (13, (.ireturn, 14, 0, 0, 0, 0, 0, 0, [])), (14, (.aload_n 0, 15, 0, 0, 0, 0, 0, 0, [])), (15, (.getfield 37, 18, 0, 0, 0, 7, 3, 367, []))],
  [(18, (.bipush 60, 20, 0, 60, 0, 0, 0, 0, [])), (20, (.aload_n 0, 21, 0, 0, 0, 0, 0, 0, [])), (21, (.getfield 37, 24, 0, 0, 0, 7, 3, 367, [])), (24, (.getfield 126, 27, 0, 0, 0, 0, 3, 207, [])), (27, (.iload_n 1, 28, 0, 0, 0, 0, 0, 0, [])), (28, (.iadd, 29, 0, 0, 0, 0, 0, 0, [])), (29, (.invokestatic 141, 32, 0, 0, 0, 2, 0, 606, []))],
  [(32, (.invokevirtual 147, 35, 0, 0, 0, 0, 0, 609, [])), (35, (.aload_n 0, 36, 0, 0, 0, 0, 0, 0, [])), (36, (.getfield 37, 39, 0, 0, 0, 7, 3, 367, [])), (39, (.getfield 126, 42, 0, 0, 0, 0, 3, 207, [])), (42, (.ireturn, 43, 0, 0, 0, 0, 0, 0, []))]])
set_option maxRecDepth 100000 in
theorem kX7_go : xMk mX7_go = true := by decide +kernel
set_option maxRecDepth 100000 in
theorem bX7_go : xcB mX7_go 0 1 = true := by decide +kernel
def mX7_tram : xM := (yX7_tram, cX7_tram, 3, (some .int), [
  [(0, (.aload_n 0, 1, 0, 0, 0, 0, 0, 0, [])), (1, (.getfield 19, 4, 0, 0, 0, 7, 1, 365, [])), (4, (.iload_n 1, 5, 0, 0, 0, 0, 0, 0, [])), (5, (.invokevirtual 150, 8, 0, 0, 0, 0, 0, 672, [])), (8, (.ifCond .ne 6, 11, 14, 0, 0, 0, 0, 0, [])), (11, (.bipush (-2), 13, 0, -2, 0, 0, 0, 0, [])), (13, (.ireturn, 14, 0, 0, 0, 0, 0, 0, [])), (14, (.iload_n 2, 15, 0, 0, 0, 0, 0, 0, [])), (15, (.tableswitch 71 0 3 #[29, 39, 49, 59], 44, 86, 0, 0, 0, 0, 0, [(0, 44), (1, 54), (2, 64), (3, 74)]))],
  [],
  [(44, (.aload_n 0, 45, 0, 0, 0, 0, 0, 0, [])), (45, (.getfield 37, 48, 0, 0, 0, 7, 3, 367, []))],
  [(48, (.getfield 154, 51, 0, 0, 0, 0, 4, 209, [])), (51, (.iload_n 1, 52, 0, 0, 0, 0, 0, 0, [])), (52, (.iaload, 53, 0, 0, 0, 0, 0, 0, [])), (53, (.ireturn, 54, 0, 0, 0, 0, 0, 0, [])), (54, (.aload_n 0, 55, 0, 0, 0, 0, 0, 0, [])), (55, (.getfield 37, 58, 0, 0, 0, 7, 3, 367, [])), (58, (.getfield 157, 61, 0, 0, 0, 0, 5, 211, [])), (61, (.iload_n 1, 62, 0, 0, 0, 0, 0, 0, [])), (62, (.iaload, 63, 0, 0, 0, 0, 0, 0, [])), (63, (.ireturn, 64, 0, 0, 0, 0, 0, 0, []))],
  [(64, (.aload_n 0, 65, 0, 0, 0, 0, 0, 0, [])), (65, (.getfield 37, 68, 0, 0, 0, 7, 3, 367, [])), (68, (.getfield 160, 71, 0, 0, 0, 0, 6, 213, [])), (71, (.iload_n 1, 72, 0, 0, 0, 0, 0, 0, [])), (72, (.iaload, 73, 0, 0, 0, 0, 0, 0, [])), (73, (.ireturn, 74, 0, 0, 0, 0, 0, 0, [])), (74, (.aload_n 0, 75, 0, 0, 0, 0, 0, 0, [])), (75, (.getfield 37, 78, 0, 0, 0, 7, 3, 367, [])), (78, (.getfield 163, 81, 0, 0, 0, 0, 14, 228, []))],
  [(81, (.iload_n 1, 82, 0, 0, 0, 0, 0, 0, [])), (82, (.invokevirtual 167, 85, 0, 0, 0, 0, 0, 673, [])), (85, (.ireturn, 86, 0, 0, 0, 0, 0, 0, [])), (86, (.bipush (-3), 88, 0, -3, 0, 0, 0, 0, [])), (88, (.ireturn, 89, 0, 0, 0, 0, 0, 0, []))]])
set_option maxRecDepth 100000 in
theorem kX7_tram : xMk mX7_tram = true := by decide +kernel
set_option maxRecDepth 100000 in
theorem bX7_tram : xcB mX7_tram 0 2 = true := by decide +kernel
def mX7_person : xM := (yX7_person, cX7_person, 3, (some .int), [
  [(0, (.aload_n 0, 1, 0, 0, 0, 0, 0, 0, [])), (1, (.getfield 19, 4, 0, 0, 0, 7, 1, 365, [])), (4, (.iload_n 1, 5, 0, 0, 0, 0, 0, 0, [])), (5, (.invokevirtual 172, 8, 0, 0, 0, 0, 0, 681, [])), (8, (.ifCond .ne 6, 11, 14, 0, 0, 0, 0, 0, [])), (11, (.bipush (-2), 13, 0, -2, 0, 0, 0, 0, [])), (13, (.ireturn, 14, 0, 0, 0, 0, 0, 0, [])), (14, (.iload_n 2, 15, 0, 0, 0, 0, 0, 0, [])), (15, (.tableswitch 81 0 4 #[33, 42, 51, 61, 71], 48, 96, 0, 0, 0, 0, 0, [(0, 48), (1, 57), (2, 66), (3, 76), (4, 86)]))],
  [],
  [],
  [(48, (.aload_n 0, 49, 0, 0, 0, 0, 0, 0, [])), (49, (.getfield 37, 52, 0, 0, 0, 7, 3, 367, [])), (52, (.iload_n 1, 53, 0, 0, 0, 0, 0, 0, [])), (53, (.invokevirtual 175, 56, 0, 0, 0, 0, 0, 682, [])), (56, (.ireturn, 57, 0, 0, 0, 0, 0, 0, [])), (57, (.aload_n 0, 58, 0, 0, 0, 0, 0, 0, [])), (58, (.getfield 37, 61, 0, 0, 0, 7, 3, 367, [])), (61, (.iload_n 1, 62, 0, 0, 0, 0, 0, 0, [])), (62, (.invokevirtual 178, 65, 0, 0, 0, 0, 0, 683, []))],
  [(65, (.ireturn, 66, 0, 0, 0, 0, 0, 0, [])), (66, (.aload_n 0, 67, 0, 0, 0, 0, 0, 0, [])), (67, (.getfield 37, 70, 0, 0, 0, 7, 3, 367, [])), (70, (.getfield 181, 73, 0, 0, 0, 0, 8, 217, [])), (73, (.iload_n 1, 74, 0, 0, 0, 0, 0, 0, [])), (74, (.iaload, 75, 0, 0, 0, 0, 0, 0, [])), (75, (.ireturn, 76, 0, 0, 0, 0, 0, 0, [])), (76, (.aload_n 0, 77, 0, 0, 0, 0, 0, 0, [])), (77, (.getfield 37, 80, 0, 0, 0, 7, 3, 367, []))],
  [(80, (.getfield 184, 83, 0, 0, 0, 0, 9, 219, [])), (83, (.iload_n 1, 84, 0, 0, 0, 0, 0, 0, [])), (84, (.iaload, 85, 0, 0, 0, 0, 0, 0, [])), (85, (.ireturn, 86, 0, 0, 0, 0, 0, 0, [])), (86, (.aload_n 0, 87, 0, 0, 0, 0, 0, 0, [])), (87, (.getfield 19, 90, 0, 0, 0, 7, 1, 365, [])), (90, (.getfield 187, 93, 0, 0, 0, 6, 11, 80, [])), (93, (.iload_n 1, 94, 0, 0, 0, 0, 0, 0, [])), (94, (.iaload, 95, 0, 0, 0, 0, 0, 0, [])), (95, (.ireturn, 96, 0, 0, 0, 0, 0, 0, []))],
  [(96, (.bipush (-3), 98, 0, -3, 0, 0, 0, 0, [])), (98, (.ireturn, 99, 0, 0, 0, 0, 0, 0, []))]])
set_option maxRecDepth 100000 in
theorem kX7_person : xMk mX7_person = true := by decide +kernel
set_option maxRecDepth 100000 in
theorem bX7_person : xcB mX7_person 0 2 = true := by decide +kernel
def mX7_halt : xM := (yX7_halt, cX7_halt, 3, (some .int), [
  [(0, (.iload_n 1, 1, 0, 0, 0, 0, 0, 0, [])), (1, (.ifCond .lt 12, 4, 13, 0, 0, 0, 0, 0, [])), (4, (.iload_n 2, 5, 0, 0, 0, 0, 0, 0, [])), (5, (.ifCond .lt 8, 8, 13, 0, 0, 0, 0, 0, [])), (8, (.iload_n 2, 9, 0, 0, 0, 0, 0, 0, [])), (9, (.iconst 4, 10, 0, 4, 0, 0, 0, 0, [])), (10, (.if_icmp .le 6, 13, 16, 0, 0, 0, 0, 0, [])), (13, (.bipush (-3), 15, 0, -3, 0, 0, 0, 0, [])), (15, (.ireturn, 16, 0, 0, 0, 0, 0, 0, []))],
  [(16, (.iload_n 1, 17, 0, 0, 0, 0, 0, 0, [])), (17, (.aload_n 0, 18, 0, 0, 0, 0, 0, 0, [])), (18, (.getfield 37, 21, 0, 0, 0, 7, 3, 367, [])), (21, (.getfield 163, 24, 0, 0, 0, 0, 14, 228, [])), (24, (.getfield 190, 27, 0, 0, 0, 2, 4, 190, [])), (27, (.if_icmp .lt 5, 30, 32, 0, 0, 0, 0, 0, [])), (30, (.iconst (-1), 31, 0, -1, 0, 0, 0, 0, [])), (31, (.ireturn, 32, 0, 0, 0, 0, 0, 0, []))],
  [(32, (.iload_n 2, 33, 0, 0, 0, 0, 0, 0, [])), (33, (.tableswitch 83 0 3 #[31, 44, 57, 70], 64, 116, 0, 0, 0, 0, 0, [(0, 64), (1, 77), (2, 90), (3, 103)]))],
  [],
  [(64, (.aload_n 0, 65, 0, 0, 0, 0, 0, 0, [])), (65, (.getfield 37, 68, 0, 0, 0, 7, 3, 367, [])), (68, (.getfield 163, 71, 0, 0, 0, 0, 14, 228, [])), (71, (.getfield 191, 74, 0, 0, 0, 2, 0, 181, [])), (74, (.iload_n 1, 75, 0, 0, 0, 0, 0, 0, [])), (75, (.iaload, 76, 0, 0, 0, 0, 0, 0, [])), (76, (.ireturn, 77, 0, 0, 0, 0, 0, 0, [])), (77, (.aload_n 0, 78, 0, 0, 0, 0, 0, 0, [])), (78, (.getfield 37, 81, 0, 0, 0, 7, 3, 367, []))],
  [(81, (.getfield 163, 84, 0, 0, 0, 0, 14, 228, [])), (84, (.getfield 194, 87, 0, 0, 0, 2, 1, 183, [])), (87, (.iload_n 1, 88, 0, 0, 0, 0, 0, 0, [])), (88, (.iaload, 89, 0, 0, 0, 0, 0, 0, [])), (89, (.ireturn, 90, 0, 0, 0, 0, 0, 0, [])), (90, (.aload_n 0, 91, 0, 0, 0, 0, 0, 0, [])), (91, (.getfield 37, 94, 0, 0, 0, 7, 3, 367, [])), (94, (.getfield 163, 97, 0, 0, 0, 0, 14, 228, []))],
  [(97, (.getfield 197, 100, 0, 0, 0, 2, 2, 185, [])), (100, (.iload_n 1, 101, 0, 0, 0, 0, 0, 0, [])), (101, (.iaload, 102, 0, 0, 0, 0, 0, 0, [])), (102, (.ireturn, 103, 0, 0, 0, 0, 0, 0, [])), (103, (.aload_n 0, 104, 0, 0, 0, 0, 0, 0, [])), (104, (.getfield 37, 107, 0, 0, 0, 7, 3, 367, [])), (107, (.getfield 163, 110, 0, 0, 0, 0, 14, 228, [])), (110, (.getfield 198, 113, 0, 0, 0, 2, 3, 187, []))],
  [(113, (.iload_n 1, 114, 0, 0, 0, 0, 0, 0, [])), (114, (.iaload, 115, 0, 0, 0, 0, 0, 0, [])), (115, (.ireturn, 116, 0, 0, 0, 0, 0, 0, [])), (116, (.aload_n 0, 117, 0, 0, 0, 0, 0, 0, [])), (117, (.getfield 19, 120, 0, 0, 0, 7, 1, 365, [])), (120, (.aload_n 0, 121, 0, 0, 0, 0, 0, 0, [])), (121, (.getfield 37, 124, 0, 0, 0, 7, 3, 367, [])), (124, (.getfield 163, 127, 0, 0, 0, 0, 14, 228, [])), (127, (.getfield 198, 130, 0, 0, 0, 2, 3, 187, []))],
  [(130, (.iload_n 1, 131, 0, 0, 0, 0, 0, 0, [])), (131, (.iaload, 132, 0, 0, 0, 0, 0, 0, [])), (132, (.invokevirtual 201, 135, 0, 0, 0, 0, 0, 688, [])), (135, (.ireturn, 136, 0, 0, 0, 0, 0, 0, []))]])
set_option maxRecDepth 100000 in
theorem kX7_halt : xMk mX7_halt = true := by decide +kernel
set_option maxRecDepth 100000 in
theorem bX7_halt : xcB mX7_halt 0 2 = true := by decide +kernel
def mX7_keep : xM := (yX7_keep, cX7_keep, 2, (some .int), [
  [(0, (.iload_n 1, 1, 0, 0, 0, 0, 0, 0, [])), (1, (.ifCond .lt 8, 4, 9, 0, 0, 0, 0, 0, [])), (4, (.iload_n 1, 5, 0, 0, 0, 0, 0, 0, [])), (5, (.iconst 2, 6, 0, 2, 0, 0, 0, 0, [])), (6, (.if_icmp .lt 6, 9, 12, 0, 0, 0, 0, 0, [])), (9, (.bipush (-2), 11, 0, -2, 0, 0, 0, 0, [])), (11, (.ireturn, 12, 0, 0, 0, 0, 0, 0, [])), (12, (.aload_n 0, 13, 0, 0, 0, 0, 0, 0, [])), (13, (.getfield 44, 16, 0, 0, 0, 7, 5, 369, []))],
  [(16, (.iload_n 1, 17, 0, 0, 0, 0, 0, 0, [])), (17, (.aaload, 18, 0, 0, 0, 0, 0, 0, [])), (18, (.aload_n 0, 19, 0, 0, 0, 0, 0, 0, [])), (19, (.getfield 37, 22, 0, 0, 0, 7, 3, 367, [])), (22, (.invokevirtual 204, 25, 0, 0, 0, 0, 0, 696, [])), (25, (.aload_n 0, 26, 0, 0, 0, 0, 0, 0, [])), (26, (.getfield 48, 29, 0, 0, 0, 7, 6, 370, [])), (29, (.iload_n 1, 30, 0, 0, 0, 0, 0, 0, [])), (30, (.iconst 1, 31, 0, 1, 0, 0, 0, 0, [])), (31, (.bastore, 32, 0, 0, 0, 0, 0, 0, []))],
  [(32, (.aload_n 0, 33, 0, 0, 0, 0, 0, 0, [])), (33, (.getfield 37, 36, 0, 0, 0, 7, 3, 367, [])), (36, (.getfield 126, 39, 0, 0, 0, 0, 3, 207, [])), (39, (.ireturn, 40, 0, 0, 0, 0, 0, 0, []))]])
set_option maxRecDepth 100000 in
theorem kX7_keep : xMk mX7_keep = true := by decide +kernel
set_option maxRecDepth 100000 in
theorem bX7_keep : xcB mX7_keep 0 1 = true := by decide +kernel
def mX7_back : xM := (yX7_back, cX7_back, 2, (some .int), [
  [(0, (.iload_n 1, 1, 0, 0, 0, 0, 0, 0, [])), (1, (.ifCond .lt 8, 4, 9, 0, 0, 0, 0, 0, [])), (4, (.iload_n 1, 5, 0, 0, 0, 0, 0, 0, [])), (5, (.iconst 2, 6, 0, 2, 0, 0, 0, 0, [])), (6, (.if_icmp .lt 6, 9, 12, 0, 0, 0, 0, 0, [])), (9, (.bipush (-2), 11, 0, -2, 0, 0, 0, 0, [])), (11, (.ireturn, 12, 0, 0, 0, 0, 0, 0, [])), (12, (.aload_n 0, 13, 0, 0, 0, 0, 0, 0, [])), (13, (.getfield 48, 16, 0, 0, 0, 7, 6, 370, []))],
  [(16, (.iload_n 1, 17, 0, 0, 0, 0, 0, 0, [])), (17, (.baload, 18, 0, 0, 0, 0, 0, 0, [])), (18, (.ifCond .ne 6, 21, 24, 0, 0, 0, 0, 0, [])), (21, (.bipush (-4), 23, 0, -4, 0, 0, 0, 0, [])), (23, (.ireturn, 24, 0, 0, 0, 0, 0, 0, [])), (24, (.aload_n 0, 25, 0, 0, 0, 0, 0, 0, [])), (25, (.getfield 37, 28, 0, 0, 0, 7, 3, 367, [])), (28, (.aload_n 0, 29, 0, 0, 0, 0, 0, 0, [])), (29, (.getfield 44, 32, 0, 0, 0, 7, 5, 369, []))],
  [(32, (.iload_n 1, 33, 0, 0, 0, 0, 0, 0, [])), (33, (.aaload, 34, 0, 0, 0, 0, 0, 0, [])), (34, (.invokevirtual 204, 37, 0, 0, 0, 0, 0, 696, [])), (37, (.aload_n 0, 38, 0, 0, 0, 0, 0, 0, [])), (38, (.getfield 37, 41, 0, 0, 0, 7, 3, 367, [])), (41, (.getfield 126, 44, 0, 0, 0, 0, 3, 207, [])), (44, (.ireturn, 45, 0, 0, 0, 0, 0, 0, []))]])
set_option maxRecDepth 100000 in
theorem kX7_back : xMk mX7_back = true := by decide +kernel
set_option maxRecDepth 100000 in
theorem bX7_back : xcB mX7_back 0 1 = true := by decide +kernel
def mX7_home : xM := (yX7_home, cX7_home, 2, (some .int), [
  [(0, (.aload_n 0, 1, 0, 0, 0, 0, 0, 0, [])), (1, (.getfield 19, 4, 0, 0, 0, 7, 1, 365, [])), (4, (.iload_n 1, 5, 0, 0, 0, 0, 0, 0, [])), (5, (.invokevirtual 172, 8, 0, 0, 0, 0, 0, 681, [])), (8, (.ifCond .ne 6, 11, 14, 0, 0, 0, 0, 0, [])), (11, (.bipush (-2), 13, 0, -2, 0, 0, 0, 0, [])), (13, (.ireturn, 14, 0, 0, 0, 0, 0, 0, [])), (14, (.aload_n 0, 15, 0, 0, 0, 0, 0, 0, [])), (15, (.aload_n 0, 16, 0, 0, 0, 0, 0, 0, []))],
  [(16, (.getfield 19, 19, 0, 0, 0, 7, 1, 365, [])), (19, (.getfield 68, 22, 0, 0, 0, 6, 1, 52, [])), (22, (.invokevirtual 206, 25, 0, 0, 0, 0, 0, 714, [])), (25, (.aload_n 0, 26, 0, 0, 0, 0, 0, 0, [])), (26, (.getfield 41, 29, 0, 0, 0, 7, 4, 368, [])), (29, (.getfield 181, 32, 0, 0, 0, 0, 8, 217, []))],
  [(32, (.iload_n 1, 33, 0, 0, 0, 0, 0, 0, [])), (33, (.iaload, 34, 0, 0, 0, 0, 0, 0, [])), (34, (.ireturn, 35, 0, 0, 0, 0, 0, 0, []))]])
set_option maxRecDepth 100000 in
theorem kX7_home : xMk mX7_home = true := by decide +kernel
set_option maxRecDepth 100000 in
theorem bX7_home : xcB mX7_home 0 1 = true := by decide +kernel
def mX7_feigned : xM := (yX7_feigned, cX7_feigned, 4, (some .int), [
  [(0, (.aload_n 0, 1, 0, 0, 0, 0, 0, 0, [])), (1, (.getfield 19, 4, 0, 0, 0, 7, 1, 365, [])), (4, (.iload_n 1, 5, 0, 0, 0, 0, 0, 0, [])), (5, (.invokevirtual 172, 8, 0, 0, 0, 0, 0, 681, [])), (8, (.ifCond .ne 6, 11, 14, 0, 0, 0, 0, 0, [])), (11, (.bipush (-2), 13, 0, -2, 0, 0, 0, 0, [])), (13, (.ireturn, 14, 0, 0, 0, 0, 0, 0, [])), (14, (.iload_n 2, 15, 0, 0, 0, 0, 0, 0, [])), (15, (.ifCond .lt 17, 18, 32, 0, 0, 0, 0, 0, []))],
  [(18, (.iload_n 2, 19, 0, 0, 0, 0, 0, 0, [])), (19, (.iconst 2, 20, 0, 2, 0, 0, 0, 0, [])), (20, (.if_icmp .gt 12, 23, 32, 0, 0, 0, 0, 0, [])), (23, (.iload_n 3, 24, 0, 0, 0, 0, 0, 0, [])), (24, (.ifCond .lt 8, 27, 32, 0, 0, 0, 0, 0, [])), (27, (.iload_n 3, 28, 0, 0, 0, 0, 0, 0, [])), (28, (.iconst 3, 29, 0, 3, 0, 0, 0, 0, [])), (29, (.if_icmp .le 6, 32, 35, 0, 0, 0, 0, 0, []))],
  [(32, (.bipush (-3), 34, 0, -3, 0, 0, 0, 0, [])), (34, (.ireturn, 35, 0, 0, 0, 0, 0, 0, [])), (35, (.aload_n 0, 36, 0, 0, 0, 0, 0, 0, [])), (36, (.getfield 55, 39, 0, 0, 0, 7, 7, 371, [])), (39, (.iload_n 1, 40, 0, 0, 0, 0, 0, 0, [])), (40, (.iload_n 2, 41, 0, 0, 0, 0, 0, 0, [])), (41, (.invokevirtual 209, 44, 0, 0, 0, 0, 0, 722, [])), (44, (.iload_n 3, 45, 0, 0, 0, 0, 0, 0, [])), (45, (.tableswitch 51 0 2 #[27, 35, 43], 72, 96, 0, 0, 0, 0, 0, [(0, 72), (1, 80), (2, 88)]))],
  [],
  [(72, (.aload_n 0, 73, 0, 0, 0, 0, 0, 0, [])), (73, (.getfield 55, 76, 0, 0, 0, 7, 7, 371, [])), (76, (.getfield 212, 79, 0, 0, 0, 1, 9, 282, [])), (79, (.ireturn, 80, 0, 0, 0, 0, 0, 0, []))],
  [(80, (.aload_n 0, 81, 0, 0, 0, 0, 0, 0, [])), (81, (.getfield 55, 84, 0, 0, 0, 7, 7, 371, [])), (84, (.getfield 214, 87, 0, 0, 0, 1, 10, 284, [])), (87, (.ireturn, 88, 0, 0, 0, 0, 0, 0, [])), (88, (.aload_n 0, 89, 0, 0, 0, 0, 0, 0, [])), (89, (.getfield 55, 92, 0, 0, 0, 7, 7, 371, [])), (92, (.getfield 217, 95, 0, 0, 0, 1, 11, 286, [])), (95, (.ireturn, 96, 0, 0, 0, 0, 0, 0, []))],
  [(96, (.aload_n 0, 97, 0, 0, 0, 0, 0, 0, [])), (97, (.getfield 55, 100, 0, 0, 0, 7, 7, 371, [])), (100, (.getfield 220, 103, 0, 0, 0, 1, 12, 288, [])), (103, (.ireturn, 104, 0, 0, 0, 0, 0, 0, []))]])
set_option maxRecDepth 100000 in
theorem kX7_feigned : xMk mX7_feigned = true := by decide +kernel
set_option maxRecDepth 100000 in
theorem bX7_feigned : xcB mX7_feigned 0 3 = true := by decide +kernel
def mX7_law : xM := (yX7_law, cX7_law, 6, (some .int), [
  [(0, (.iload_n 1, 1, 0, 0, 0, 0, 0, 0, [])), (1, (.ifCond .lt 8, 4, 9, 0, 0, 0, 0, 0, [])), (4, (.iload_n 1, 5, 0, 0, 0, 0, 0, 0, [])), (5, (.iconst 1, 6, 0, 1, 0, 0, 0, 0, [])), (6, (.if_icmp .le 6, 9, 12, 0, 0, 0, 0, 0, [])), (9, (.bipush (-3), 11, 0, -3, 0, 0, 0, 0, [])), (11, (.ireturn, 12, 0, 0, 0, 0, 0, 0, [])), (12, (.iconst (-1), 13, 0, -1, 0, 0, 0, 0, [])), (13, (.istore_n 2, 14, 0, 0, 0, 0, 0, 0, [])), (14, (.iconst 0, 15, 0, 0, 0, 0, 0, 0, [])), (15, (.istore_n 3, 16, 0, 0, 0, 0, 0, 0, []))],
  [(16, (.iconst 0, 17, 0, 0, 0, 0, 0, 0, [])), (17, (.istore 4, 19, 0, 0, 0, 0, 0, 0, [])), (19, (.iload 4, 21, 0, 0, 0, 0, 0, 0, [])), (21, (.bipush 7, 23, 0, 7, 0, 0, 0, 0, [])), (23, (.if_icmp .gt 41, 26, 64, 0, 0, 0, 0, 0, [])), (26, (.aload_n 0, 27, 0, 0, 0, 0, 0, 0, [])), (27, (.iload 4, 29, 0, 0, 0, 0, 0, 0, [])), (29, (.invokevirtual 206, 32, 0, 0, 0, 0, 0, 714, []))],
  [(32, (.aload_n 0, 33, 0, 0, 0, 0, 0, 0, [])), (33, (.getfield 41, 36, 0, 0, 0, 7, 4, 368, [])), (36, (.invokevirtual 223, 39, 0, 0, 0, 0, 0, 759, [])), (39, (.istore 5, 41, 0, 0, 0, 0, 0, 0, [])), (41, (.iload_n 2, 42, 0, 0, 0, 0, 0, 0, [])), (42, (.iconst (-1), 43, 0, -1, 0, 0, 0, 0, [])), (43, (.if_icmp .eq 9, 46, 52, 0, 0, 0, 0, 0, [])), (46, (.iload 5, 48, 0, 0, 0, 0, 0, 0, []))],
  [(48, (.iload_n 3, 49, 0, 0, 0, 0, 0, 0, [])), (49, (.if_icmp .ge 9, 52, 58, 0, 0, 0, 0, 0, [])), (52, (.iload 4, 54, 0, 0, 0, 0, 0, 0, [])), (54, (.istore_n 2, 55, 0, 0, 0, 0, 0, 0, [])), (55, (.iload 5, 57, 0, 0, 0, 0, 0, 0, [])), (57, (.istore_n 3, 58, 0, 0, 0, 0, 0, 0, [])), (58, (.iinc 4 1, 61, 0, 1, 0, 0, 0, 0, [])), (61, (.goto (-42), 64, 19, 0, 0, 0, 0, 0, []))],
  [(64, (.iload_n 1, 65, 0, 0, 0, 0, 0, 0, [])), (65, (.ifCond .ne 7, 68, 72, 0, 0, 0, 0, 0, [])), (68, (.iload_n 2, 69, 0, 0, 0, 0, 0, 0, [])), (69, (.goto 4, 72, 73, 0, 0, 0, 0, 0, [])), (72, (.iload_n 3, 73, 0, 0, 0, 0, 0, 0, [])), (73, (.ireturn, 74, 0, 0, 0, 0, 0, 0, []))]])
set_option maxRecDepth 100000 in
theorem kX7_law : xMk mX7_law = true := by decide +kernel
set_option maxRecDepth 100000 in
theorem bX7_law : xcB mX7_law 0 1 = true := by decide +kernel
def mX7_worn : xM := (yX7_worn, cX7_worn, 2, (some .int), [
  [(0, (.aload_n 0, 1, 0, 0, 0, 0, 0, 0, [])), (1, (.getfield 19, 4, 0, 0, 0, 7, 1, 365, [])), (4, (.iload_n 1, 5, 0, 0, 0, 0, 0, 0, [])), (5, (.invokevirtual 227, 8, 0, 0, 0, 0, 0, 771, [])), (8, (.ifCond .ne 6, 11, 14, 0, 0, 0, 0, 0, [])), (11, (.bipush (-2), 13, 0, -2, 0, 0, 0, 0, [])), (13, (.ireturn, 14, 0, 0, 0, 0, 0, 0, [])), (14, (.aload_n 0, 15, 0, 0, 0, 0, 0, 0, [])), (15, (.aload_n 0, 16, 0, 0, 0, 0, 0, 0, []))],
  [(16, (.getfield 19, 19, 0, 0, 0, 7, 1, 365, [])), (19, (.getfield 68, 22, 0, 0, 0, 6, 1, 52, [])), (22, (.invokevirtual 206, 25, 0, 0, 0, 0, 0, 714, [])), (25, (.aload_n 0, 26, 0, 0, 0, 0, 0, 0, [])), (26, (.getfield 41, 29, 0, 0, 0, 7, 4, 368, [])), (29, (.getfield 163, 32, 0, 0, 0, 0, 14, 228, []))],
  [(32, (.iload_n 1, 33, 0, 0, 0, 0, 0, 0, [])), (33, (.invokevirtual 230, 36, 0, 0, 0, 0, 0, 772, [])), (36, (.ireturn, 37, 0, 0, 0, 0, 0, 0, []))]])
set_option maxRecDepth 100000 in
theorem kX7_worn : xMk mX7_worn = true := by decide +kernel
set_option maxRecDepth 100000 in
theorem bX7_worn : xcB mX7_worn 0 1 = true := by decide +kernel
def mX7_dry : xM := (yX7_dry, cX7_dry, 3, (some .int), [
  [(0, (.aload_n 0, 1, 0, 0, 0, 0, 0, 0, [])), (1, (.aload_n 0, 2, 0, 0, 0, 0, 0, 0, [])), (2, (.getfield 19, 5, 0, 0, 0, 7, 1, 365, [])), (5, (.getfield 68, 8, 0, 0, 0, 6, 1, 52, [])), (8, (.invokevirtual 206, 11, 0, 0, 0, 0, 0, 714, [])), (11, (.iconst 0, 12, 0, 0, 0, 0, 0, 0, [])), (12, (.istore_n 1, 13, 0, 0, 0, 0, 0, 0, [])), (13, (.iconst 0, 14, 0, 0, 0, 0, 0, 0, [])), (14, (.istore_n 2, 15, 0, 0, 0, 0, 0, 0, [])), (15, (.iload_n 2, 16, 0, 0, 0, 0, 0, 0, []))],
  [(16, (.aload_n 0, 17, 0, 0, 0, 0, 0, 0, [])), (17, (.getfield 19, 20, 0, 0, 0, 7, 1, 365, [])), (20, (.getfield 233, 23, 0, 0, 0, 6, 0, 50, [])), (23, (.if_icmp .ge 29, 26, 52, 0, 0, 0, 0, 0, [])), (26, (.aload_n 0, 27, 0, 0, 0, 0, 0, 0, [])), (27, (.getfield 41, 30, 0, 0, 0, 7, 4, 368, [])), (30, (.getfield 163, 33, 0, 0, 0, 0, 14, 228, []))],
  [(33, (.iload_n 2, 34, 0, 0, 0, 0, 0, 0, [])), (34, (.invokevirtual 230, 37, 0, 0, 0, 0, 0, 772, [])), (37, (.ifCond .ne 9, 40, 46, 0, 0, 0, 0, 0, [])), (40, (.iload_n 1, 41, 0, 0, 0, 0, 0, 0, [])), (41, (.iconst 1, 42, 0, 1, 0, 0, 0, 0, [])), (42, (.iload_n 2, 43, 0, 0, 0, 0, 0, 0, [])), (43, (.ishl, 44, 0, 0, 0, 0, 0, 0, [])), (44, (.ior, 45, 0, 0, 0, 0, 0, 0, [])), (45, (.istore_n 1, 46, 0, 0, 0, 0, 0, 0, [])), (46, (.iinc 2 1, 49, 0, 1, 0, 0, 0, 0, []))],
  [(49, (.goto (-34), 52, 15, 0, 0, 0, 0, 0, [])), (52, (.iload_n 1, 53, 0, 0, 0, 0, 0, 0, [])), (53, (.ireturn, 54, 0, 0, 0, 0, 0, 0, []))]])
set_option maxRecDepth 100000 in
theorem kX7_dry : xMk mX7_dry = true := by decide +kernel
set_option maxRecDepth 100000 in
theorem bX7_dry : xcB mX7_dry 0 0 = true := by decide +kernel
def mX7_last : xM := (yX7_last, cX7_last, 8, (some .int), [
  [(0, (.iload_n 1, 1, 0, 0, 0, 0, 0, 0, [])), (1, (.ifCond .lt 8, 4, 9, 0, 0, 0, 0, 0, [])), (4, (.iload_n 1, 5, 0, 0, 0, 0, 0, 0, [])), (5, (.iconst 2, 6, 0, 2, 0, 0, 0, 0, [])), (6, (.if_icmp .le 6, 9, 12, 0, 0, 0, 0, 0, [])), (9, (.bipush (-3), 11, 0, -3, 0, 0, 0, 0, [])), (11, (.ireturn, 12, 0, 0, 0, 0, 0, 0, [])), (12, (.aload_n 0, 13, 0, 0, 0, 0, 0, 0, [])), (13, (.aload_n 0, 14, 0, 0, 0, 0, 0, 0, [])), (14, (.getfield 19, 17, 0, 0, 0, 7, 1, 365, []))],
  [(17, (.getfield 68, 20, 0, 0, 0, 6, 1, 52, [])), (20, (.invokevirtual 206, 23, 0, 0, 0, 0, 0, 714, [])), (23, (.iconst (-1), 24, 0, -1, 0, 0, 0, 0, [])), (24, (.istore_n 2, 25, 0, 0, 0, 0, 0, 0, [])), (25, (.iconst 0, 26, 0, 0, 0, 0, 0, 0, [])), (26, (.istore_n 3, 27, 0, 0, 0, 0, 0, 0, [])), (27, (.iconst 1, 28, 0, 1, 0, 0, 0, 0, [])), (28, (.istore 4, 30, 0, 0, 0, 0, 0, 0, [])), (30, (.iconst 0, 31, 0, 0, 0, 0, 0, 0, [])), (31, (.istore 5, 33, 0, 0, 0, 0, 0, 0, []))],
  [(33, (.iload 5, 35, 0, 0, 0, 0, 0, 0, [])), (35, (.aload_n 0, 36, 0, 0, 0, 0, 0, 0, [])), (36, (.getfield 19, 39, 0, 0, 0, 7, 1, 365, [])), (39, (.getfield 233, 42, 0, 0, 0, 6, 0, 50, [])), (42, (.if_icmp .ge 63, 45, 105, 0, 0, 0, 0, 0, [])), (45, (.aload_n 0, 46, 0, 0, 0, 0, 0, 0, [])), (46, (.getfield 19, 49, 0, 0, 0, 7, 1, 365, []))],
  [(49, (.iload 5, 51, 0, 0, 0, 0, 0, 0, [])), (51, (.invokevirtual 236, 54, 0, 0, 0, 0, 0, 784, [])), (54, (.istore 6, 56, 0, 0, 0, 0, 0, 0, [])), (56, (.aload_n 0, 57, 0, 0, 0, 0, 0, 0, [])), (57, (.getfield 41, 60, 0, 0, 0, 7, 4, 368, [])), (60, (.iload 5, 62, 0, 0, 0, 0, 0, 0, [])), (62, (.invokevirtual 239, 65, 0, 0, 0, 0, 0, 788, []))],
  [(65, (.istore 7, 67, 0, 0, 0, 0, 0, 0, [])), (67, (.iload 6, 69, 0, 0, 0, 0, 0, 0, [])), (69, (.ifCond .le 30, 72, 99, 0, 0, 0, 0, 0, [])), (72, (.iload_n 2, 73, 0, 0, 0, 0, 0, 0, [])), (73, (.iconst (-1), 74, 0, -1, 0, 0, 0, 0, [])), (74, (.if_icmp .eq 15, 77, 89, 0, 0, 0, 0, 0, [])), (77, (.iload 7, 79, 0, 0, 0, 0, 0, 0, [])), (79, (.iload 4, 81, 0, 0, 0, 0, 0, 0, []))],
  [(81, (.imul, 82, 0, 0, 0, 0, 0, 0, [])), (82, (.iload_n 3, 83, 0, 0, 0, 0, 0, 0, [])), (83, (.iload 6, 85, 0, 0, 0, 0, 0, 0, [])), (85, (.imul, 86, 0, 0, 0, 0, 0, 0, [])), (86, (.if_icmp .le 13, 89, 99, 0, 0, 0, 0, 0, [])), (89, (.iload 5, 91, 0, 0, 0, 0, 0, 0, [])), (91, (.istore_n 2, 92, 0, 0, 0, 0, 0, 0, [])), (92, (.iload 7, 94, 0, 0, 0, 0, 0, 0, [])), (94, (.istore_n 3, 95, 0, 0, 0, 0, 0, 0, [])), (95, (.iload 6, 97, 0, 0, 0, 0, 0, 0, []))],
  [(97, (.istore 4, 99, 0, 0, 0, 0, 0, 0, [])), (99, (.iinc 5 1, 102, 0, 1, 0, 0, 0, 0, [])), (102, (.goto (-69), 105, 33, 0, 0, 0, 0, 0, [])), (105, (.iload_n 2, 106, 0, 0, 0, 0, 0, 0, [])), (106, (.iconst (-1), 107, 0, -1, 0, 0, 0, 0, [])), (107, (.if_icmp .eq 7, 110, 114, 0, 0, 0, 0, 0, [])), (110, (.iload_n 1, 111, 0, 0, 0, 0, 0, 0, [])), (111, (.ifCond .ne 5, 114, 116, 0, 0, 0, 0, 0, []))],
  [(114, (.iload_n 2, 115, 0, 0, 0, 0, 0, 0, [])), (115, (.ireturn, 116, 0, 0, 0, 0, 0, 0, [])), (116, (.iload_n 3, 117, 0, 0, 0, 0, 0, 0, [])), (117, (.iload 4, 119, 0, 0, 0, 0, 0, 0, [])), (119, (.iload_n 1, 120, 0, 0, 0, 0, 0, 0, [])), (120, (.iconst 1, 121, 0, 1, 0, 0, 0, 0, [])), (121, (.isub, 122, 0, 0, 0, 0, 0, 0, [])), (122, (.invokestatic 242, 125, 0, 0, 0, 0, 0, 792, [])), (125, (.ireturn, 126, 0, 0, 0, 0, 0, 0, []))]])
set_option maxRecDepth 100000 in
theorem kX7_last : xMk mX7_last = true := by decide +kernel
set_option maxRecDepth 100000 in
theorem bX7_last : xcB mX7_last 0 1 = true := by decide +kernel
def mX7_fares : xM := (yX7_fares, cX7_fares, 3, (some .int), [
  [(0, (.aload_n 0, 1, 0, 0, 0, 0, 0, 0, [])), (1, (.aload_n 0, 2, 0, 0, 0, 0, 0, 0, [])), (2, (.getfield 19, 5, 0, 0, 0, 7, 1, 365, [])), (5, (.getfield 68, 8, 0, 0, 0, 6, 1, 52, [])), (8, (.invokevirtual 206, 11, 0, 0, 0, 0, 0, 714, [])), (11, (.iconst 0, 12, 0, 0, 0, 0, 0, 0, [])), (12, (.istore_n 1, 13, 0, 0, 0, 0, 0, 0, [])), (13, (.iconst 0, 14, 0, 0, 0, 0, 0, 0, [])), (14, (.istore_n 2, 15, 0, 0, 0, 0, 0, 0, [])), (15, (.iload_n 2, 16, 0, 0, 0, 0, 0, 0, []))],
  [(16, (.bipush 8, 18, 0, 8, 0, 0, 0, 0, [])), (18, (.if_icmp .ge 21, 21, 39, 0, 0, 0, 0, 0, [])), (21, (.iload_n 1, 22, 0, 0, 0, 0, 0, 0, [])), (22, (.aload_n 0, 23, 0, 0, 0, 0, 0, 0, [])), (23, (.getfield 41, 26, 0, 0, 0, 7, 4, 368, [])), (26, (.getfield 184, 29, 0, 0, 0, 0, 9, 219, [])), (29, (.iload_n 2, 30, 0, 0, 0, 0, 0, 0, [])), (30, (.iaload, 31, 0, 0, 0, 0, 0, 0, [])), (31, (.iadd, 32, 0, 0, 0, 0, 0, 0, []))],
  [(32, (.istore_n 1, 33, 0, 0, 0, 0, 0, 0, [])), (33, (.iinc 2 1, 36, 0, 1, 0, 0, 0, 0, [])), (36, (.goto (-21), 39, 15, 0, 0, 0, 0, 0, [])), (39, (.iload_n 1, 40, 0, 0, 0, 0, 0, 0, [])), (40, (.ireturn, 41, 0, 0, 0, 0, 0, 0, []))]])
set_option maxRecDepth 100000 in
theorem kX7_fares : xMk mX7_fares = true := by decide +kernel
set_option maxRecDepth 100000 in
theorem bX7_fares : xcB mX7_fares 0 0 = true := by decide +kernel
def mX7_seen : xM := (yX7_seen, cX7_seen, 3, (some .int), [
  [(0, (.aload_n 0, 1, 0, 0, 0, 0, 0, 0, [])), (1, (.getfield 19, 4, 0, 0, 0, 7, 1, 365, [])), (4, (.iload_n 1, 5, 0, 0, 0, 0, 0, 0, [])), (5, (.invokevirtual 227, 8, 0, 0, 0, 0, 0, 771, [])), (8, (.ifCond .ne 6, 11, 14, 0, 0, 0, 0, 0, [])), (11, (.bipush (-2), 13, 0, -2, 0, 0, 0, 0, [])), (13, (.ireturn, 14, 0, 0, 0, 0, 0, 0, [])), (14, (.iload_n 2, 15, 0, 0, 0, 0, 0, 0, [])), (15, (.ifCond .lt 9, 18, 24, 0, 0, 0, 0, 0, []))],
  [(18, (.iload_n 2, 19, 0, 0, 0, 0, 0, 0, [])), (19, (.bipush 60, 21, 0, 60, 0, 0, 0, 0, [])), (21, (.if_icmp .lt 6, 24, 27, 0, 0, 0, 0, 0, [])), (24, (.bipush (-3), 26, 0, -3, 0, 0, 0, 0, [])), (26, (.ireturn, 27, 0, 0, 0, 0, 0, 0, [])), (27, (.aload_n 0, 28, 0, 0, 0, 0, 0, 0, [])), (28, (.getfield 64, 31, 0, 0, 0, 7, 8, 372, [])), (31, (.getfield 246, 34, 0, 0, 0, 3, 3, 327, []))],
  [(34, (.bipush 8, 36, 0, 8, 0, 0, 0, 0, [])), (36, (.if_icmp .lt 6, 39, 42, 0, 0, 0, 0, 0, [])), (39, (.bipush (-5), 41, 0, -5, 0, 0, 0, 0, [])), (41, (.ireturn, 42, 0, 0, 0, 0, 0, 0, [])), (42, (.aload_n 0, 43, 0, 0, 0, 0, 0, 0, [])), (43, (.getfield 64, 46, 0, 0, 0, 7, 8, 372, [])), (46, (.iload_n 1, 47, 0, 0, 0, 0, 0, 0, [])), (47, (.iload_n 2, 48, 0, 0, 0, 0, 0, 0, []))],
  [(48, (.invokevirtual 247, 51, 0, 0, 0, 0, 0, 806, [])), (51, (.aload_n 0, 52, 0, 0, 0, 0, 0, 0, [])), (52, (.getfield 64, 55, 0, 0, 0, 7, 8, 372, [])), (55, (.getfield 246, 58, 0, 0, 0, 3, 3, 327, [])), (58, (.ireturn, 59, 0, 0, 0, 0, 0, 0, []))]])
set_option maxRecDepth 100000 in
theorem kX7_seen : xMk mX7_seen = true := by decide +kernel
set_option maxRecDepth 100000 in
theorem bX7_seen : xcB mX7_seen 0 2 = true := by decide +kernel
def mX7_forget : xM := (yX7_forget, cX7_forget, 2, (some .int), [
  [(0, (.aload_n 0, 1, 0, 0, 0, 0, 0, 0, [])), (1, (.getfield 64, 4, 0, 0, 0, 7, 8, 372, [])), (4, (.getfield 246, 7, 0, 0, 0, 3, 3, 327, [])), (7, (.istore_n 1, 8, 0, 0, 0, 0, 0, 0, [])), (8, (.aload_n 0, 9, 0, 0, 0, 0, 0, 0, [])), (9, (.getfield 64, 12, 0, 0, 0, 7, 8, 372, [])), (12, (.invokevirtual 98, 15, 0, 0, 0, 0, 0, 573, [])), (15, (.iload_n 1, 16, 0, 0, 0, 0, 0, 0, []))],
  [(16, (.ireturn, 17, 0, 0, 0, 0, 0, 0, []))]])
set_option maxRecDepth 100000 in
theorem kX7_forget : xMk mX7_forget = true := by decide +kernel
set_option maxRecDepth 100000 in
theorem bX7_forget : xcB mX7_forget 0 0 = true := by decide +kernel
def mX7_read : xM := (yX7_read, cX7_read, 2, (some .int), [
  [(0, (.iload_n 1, 1, 0, 0, 0, 0, 0, 0, [])), (1, (.ifCond .lt 8, 4, 9, 0, 0, 0, 0, 0, [])), (4, (.iload_n 1, 5, 0, 0, 0, 0, 0, 0, [])), (5, (.iconst 2, 6, 0, 2, 0, 0, 0, 0, [])), (6, (.if_icmp .le 6, 9, 12, 0, 0, 0, 0, 0, [])), (9, (.bipush (-3), 11, 0, -3, 0, 0, 0, 0, [])), (11, (.ireturn, 12, 0, 0, 0, 0, 0, 0, [])), (12, (.aload_n 0, 13, 0, 0, 0, 0, 0, 0, [])), (13, (.getfield 64, 16, 0, 0, 0, 7, 8, 372, []))],
  [(16, (.invokevirtual 250, 19, 0, 0, 0, 0, 0, 818, [])), (19, (.iload_n 1, 20, 0, 0, 0, 0, 0, 0, [])), (20, (.lookupswitch 44 #[(0, 28), (1, 36)], 48, 64, 0, 0, 0, 0, 0, [(0, 48), (1, 56)]))],
  [],
  [(48, (.aload_n 0, 49, 0, 0, 0, 0, 0, 0, [])), (49, (.getfield 64, 52, 0, 0, 0, 7, 8, 372, [])), (52, (.getfield 253, 55, 0, 0, 0, 3, 5, 331, [])), (55, (.ireturn, 56, 0, 0, 0, 0, 0, 0, [])), (56, (.aload_n 0, 57, 0, 0, 0, 0, 0, 0, [])), (57, (.getfield 64, 60, 0, 0, 0, 7, 8, 372, [])), (60, (.getfield 256, 63, 0, 0, 0, 3, 6, 333, [])), (63, (.ireturn, 64, 0, 0, 0, 0, 0, 0, []))],
  [(64, (.aload_n 0, 65, 0, 0, 0, 0, 0, 0, [])), (65, (.getfield 64, 68, 0, 0, 0, 7, 8, 372, [])), (68, (.getfield 259, 71, 0, 0, 0, 3, 7, 335, [])), (71, (.ireturn, 72, 0, 0, 0, 0, 0, 0, []))]])
set_option maxRecDepth 100000 in
theorem kX7_read : xMk mX7_read = true := by decide +kernel
set_option maxRecDepth 100000 in
theorem bX7_read : xcB mX7_read 0 1 = true := by decide +kernel
def mX7_odds : xM := (yX7_odds, cX7_odds, 3, (some .int), [
  [(0, (.iload_n 1, 1, 0, 0, 0, 0, 0, 0, [])), (1, (.ifCond .lt 17, 4, 18, 0, 0, 0, 0, 0, [])), (4, (.iload_n 1, 5, 0, 0, 0, 0, 0, 0, [])), (5, (.iconst 3, 6, 0, 3, 0, 0, 0, 0, [])), (6, (.if_icmp .ge 12, 9, 18, 0, 0, 0, 0, 0, [])), (9, (.iload_n 2, 10, 0, 0, 0, 0, 0, 0, [])), (10, (.ifCond .lt 8, 13, 18, 0, 0, 0, 0, 0, [])), (13, (.iload_n 2, 14, 0, 0, 0, 0, 0, 0, [])), (14, (.iconst 1, 15, 0, 1, 0, 0, 0, 0, [])), (15, (.if_icmp .le 6, 18, 21, 0, 0, 0, 0, 0, []))],
  [(18, (.bipush (-3), 20, 0, -3, 0, 0, 0, 0, [])), (20, (.ireturn, 21, 0, 0, 0, 0, 0, 0, [])), (21, (.aload_n 0, 22, 0, 0, 0, 0, 0, 0, [])), (22, (.getfield 64, 25, 0, 0, 0, 7, 8, 372, [])), (25, (.invokevirtual 250, 28, 0, 0, 0, 0, 0, 818, [])), (28, (.aload_n 0, 29, 0, 0, 0, 0, 0, 0, [])), (29, (.getfield 64, 32, 0, 0, 0, 7, 8, 372, []))],
  [(32, (.getfield 253, 35, 0, 0, 0, 3, 5, 331, [])), (35, (.ifCond .ne 6, 38, 41, 0, 0, 0, 0, 0, [])), (38, (.bipush (-4), 40, 0, -4, 0, 0, 0, 0, [])), (40, (.ireturn, 41, 0, 0, 0, 0, 0, 0, [])), (41, (.aload_n 0, 42, 0, 0, 0, 0, 0, 0, [])), (42, (.getfield 64, 45, 0, 0, 0, 7, 8, 372, [])), (45, (.getfield 262, 48, 0, 0, 0, 3, 8, 337, []))],
  [(48, (.iload_n 1, 49, 0, 0, 0, 0, 0, 0, [])), (49, (.iaload, 50, 0, 0, 0, 0, 0, 0, [])), (50, (.aload_n 0, 51, 0, 0, 0, 0, 0, 0, [])), (51, (.getfield 64, 54, 0, 0, 0, 7, 8, 372, [])), (54, (.getfield 253, 57, 0, 0, 0, 3, 5, 331, [])), (57, (.iload_n 2, 58, 0, 0, 0, 0, 0, 0, [])), (58, (.invokestatic 242, 61, 0, 0, 0, 0, 0, 792, [])), (61, (.ireturn, 62, 0, 0, 0, 0, 0, 0, []))]])
set_option maxRecDepth 100000 in
theorem kX7_odds : xMk mX7_odds = true := by decide +kernel
set_option maxRecDepth 100000 in
theorem bX7_odds : xcB mX7_odds 0 2 = true := by decide +kernel
def mX7_count : xM := (yX7_count, cX7_count, 2, (some .int), [
  [(0, (.iload_n 1, 1, 0, 0, 0, 0, 0, 0, [])), (1, (.tableswitch 162 0 11 #[63, 71, 79, 87, 95, 103, 111, 119, 127, 135, 146, 154], 64, 163, 0, 0, 0, 0, 0, [(0, 64), (1, 72), (2, 80), (3, 88), (4, 96), (5, 104), (6, 112), (7, 120), (8, 128), (9, 136), (10, 147), (11, 155)]))],
  [],
  [],
  [],
  [(64, (.aload_n 0, 65, 0, 0, 0, 0, 0, 0, [])), (65, (.getfield 19, 68, 0, 0, 0, 7, 1, 365, [])), (68, (.getfield 233, 71, 0, 0, 0, 6, 0, 50, [])), (71, (.ireturn, 72, 0, 0, 0, 0, 0, 0, [])), (72, (.aload_n 0, 73, 0, 0, 0, 0, 0, 0, [])), (73, (.getfield 19, 76, 0, 0, 0, 7, 1, 365, [])), (76, (.getfield 68, 79, 0, 0, 0, 6, 1, 52, [])), (79, (.ireturn, 80, 0, 0, 0, 0, 0, 0, []))],
  [(80, (.aload_n 0, 81, 0, 0, 0, 0, 0, 0, [])), (81, (.getfield 19, 84, 0, 0, 0, 7, 1, 365, [])), (84, (.getfield 72, 87, 0, 0, 0, 6, 2, 56, [])), (87, (.ireturn, 88, 0, 0, 0, 0, 0, 0, [])), (88, (.aload_n 0, 89, 0, 0, 0, 0, 0, 0, [])), (89, (.getfield 19, 92, 0, 0, 0, 7, 1, 365, [])), (92, (.getfield 265, 95, 0, 0, 0, 6, 3, 62, [])), (95, (.ireturn, 96, 0, 0, 0, 0, 0, 0, []))],
  [(96, (.aload_n 0, 97, 0, 0, 0, 0, 0, 0, [])), (97, (.getfield 19, 100, 0, 0, 0, 7, 1, 365, [])), (100, (.getfield 268, 103, 0, 0, 0, 6, 4, 66, [])), (103, (.ireturn, 104, 0, 0, 0, 0, 0, 0, [])), (104, (.aload_n 0, 105, 0, 0, 0, 0, 0, 0, [])), (105, (.getfield 19, 108, 0, 0, 0, 7, 1, 365, [])), (108, (.getfield 271, 111, 0, 0, 0, 6, 5, 68, [])), (111, (.ireturn, 112, 0, 0, 0, 0, 0, 0, []))],
  [(112, (.aload_n 0, 113, 0, 0, 0, 0, 0, 0, [])), (113, (.getfield 19, 116, 0, 0, 0, 7, 1, 365, [])), (116, (.getfield 129, 119, 0, 0, 0, 6, 9, 76, [])), (119, (.ireturn, 120, 0, 0, 0, 0, 0, 0, [])), (120, (.aload_n 0, 121, 0, 0, 0, 0, 0, 0, [])), (121, (.getfield 19, 124, 0, 0, 0, 7, 1, 365, [])), (124, (.getfield 107, 127, 0, 0, 0, 6, 12, 83, [])), (127, (.ireturn, 128, 0, 0, 0, 0, 0, 0, []))],
  [(128, (.aload_n 0, 129, 0, 0, 0, 0, 0, 0, [])), (129, (.getfield 37, 132, 0, 0, 0, 7, 3, 367, [])), (132, (.getfield 126, 135, 0, 0, 0, 0, 3, 207, [])), (135, (.ireturn, 136, 0, 0, 0, 0, 0, 0, [])), (136, (.aload_n 0, 137, 0, 0, 0, 0, 0, 0, [])), (137, (.getfield 37, 140, 0, 0, 0, 7, 3, 367, [])), (140, (.getfield 163, 143, 0, 0, 0, 0, 14, 228, [])), (143, (.getfield 190, 146, 0, 0, 0, 2, 4, 190, []))],
  [(146, (.ireturn, 147, 0, 0, 0, 0, 0, 0, [])), (147, (.aload_n 0, 148, 0, 0, 0, 0, 0, 0, [])), (148, (.getfield 64, 151, 0, 0, 0, 7, 8, 372, [])), (151, (.getfield 246, 154, 0, 0, 0, 3, 3, 327, [])), (154, (.ireturn, 155, 0, 0, 0, 0, 0, 0, [])), (155, (.aload_n 0, 156, 0, 0, 0, 0, 0, 0, [])), (156, (.getfield 12, 159, 0, 0, 0, 7, 0, 364, [])), (159, (.getfield 79, 162, 0, 0, 0, 5, 1, 34, []))],
  [(162, (.ireturn, 163, 0, 0, 0, 0, 0, 0, [])), (163, (.bipush (-3), 165, 0, -3, 0, 0, 0, 0, [])), (165, (.ireturn, 166, 0, 0, 0, 0, 0, 0, []))]])
set_option maxRecDepth 100000 in
theorem kX7_count : xMk mX7_count = true := by decide +kernel
set_option maxRecDepth 100000 in
theorem bX7_count : xcB mX7_count 0 1 = true := by decide +kernel
def mX7_dropWhatDependsOnMoods : xM := (yX7_dropWhatDependsOnMoods, cX7_dropWhatDependsOnMoods, 2, none, [
  [(0, (.iconst 0, 1, 0, 0, 0, 0, 0, 0, [])), (1, (.istore_n 1, 2, 0, 0, 0, 0, 0, 0, [])), (2, (.iload_n 1, 3, 0, 0, 0, 0, 0, 0, [])), (3, (.iconst 2, 4, 0, 2, 0, 0, 0, 0, [])), (4, (.if_icmp .ge 16, 7, 20, 0, 0, 0, 0, 0, [])), (7, (.aload_n 0, 8, 0, 0, 0, 0, 0, 0, [])), (8, (.getfield 48, 11, 0, 0, 0, 7, 6, 370, [])), (11, (.iload_n 1, 12, 0, 0, 0, 0, 0, 0, [])), (12, (.iconst 0, 13, 0, 0, 0, 0, 0, 0, [])), (13, (.bastore, 14, 0, 0, 0, 0, 0, 0, [])), (14, (.iinc 1 1, 17, 0, 1, 0, 0, 0, 0, []))],
  [(17, (.goto (-15), 20, 2, 0, 0, 0, 0, 0, [])), (20, (.aload_n 0, 21, 0, 0, 0, 0, 0, 0, [])), (21, (.getfield 55, 24, 0, 0, 0, 7, 7, 371, [])), (24, (.iconst 0, 25, 0, 0, 0, 0, 0, 0, [])), (25, (.putfield 274, 28, 1, 0, 0, 1, 5, 277, [])), (28, (.aload_n 0, 29, 0, 0, 0, 0, 0, 0, [])), (29, (.getfield 64, 32, 0, 0, 0, 7, 8, 372, []))],
  [(32, (.iconst 0, 33, 0, 0, 0, 0, 0, 0, [])), (33, (.putfield 278, 36, 1, 0, 0, 3, 4, 329, [])), (36, (.return_, 37, 0, 0, 0, 0, 0, 0, []))]])
set_option maxRecDepth 100000 in
theorem kX7_dropWhatDependsOnMoods : xMk mX7_dropWhatDependsOnMoods = true := by decide +kernel
set_option maxRecDepth 100000 in
theorem bX7_dropWhatDependsOnMoods : xcB mX7_dropWhatDependsOnMoods 0 0 = true := by decide +kernel
def mX7_foretellDay : xM := (yX7_foretellDay, cX7_foretellDay, 2, none, [
  [(0, (.aload_n 0, 1, 0, 0, 0, 0, 0, 0, [])), (1, (.getfield 41, 4, 0, 0, 0, 7, 4, 368, [])), (4, (.iload_n 1, 5, 0, 0, 0, 0, 0, 0, [])), (5, (.aload_n 0, 6, 0, 0, 0, 0, 0, 0, [])), (6, (.getfield 19, 9, 0, 0, 0, 7, 1, 365, [])), (9, (.getfield 72, 12, 0, 0, 0, 6, 2, 56, [])), (12, (.invokevirtual 75, 15, 0, 0, 0, 0, 0, 357, [])), (15, (.aload_n 0, 16, 0, 0, 0, 0, 0, 0, []))],
  [(16, (.getfield 41, 19, 0, 0, 0, 7, 4, 368, [])), (19, (.bipush 60, 21, 0, 60, 0, 0, 0, 0, [])), (21, (.invokevirtual 147, 24, 0, 0, 0, 0, 0, 609, [])), (24, (.return_, 25, 0, 0, 0, 0, 0, 0, []))]])
set_option maxRecDepth 100000 in
theorem kX7_foretellDay : xMk mX7_foretellDay = true := by decide +kernel
set_option maxRecDepth 100000 in
theorem bX7_foretellDay : xcB mX7_foretellDay 0 1 = true := by decide +kernel
def mX7_lowestPart : xM := (yX7_lowestPart, cX7_lowestPart, 5, (some .int), [
  [(0, (.iload_n 0, 1, 0, 0, 0, 0, 0, 0, [])), (1, (.iload_n 1, 2, 0, 0, 0, 0, 0, 0, [])), (2, (.invokestatic 279, 5, 0, 0, 0, 0, 0, 795, [])), (5, (.istore_n 3, 6, 0, 0, 0, 0, 0, 0, [])), (6, (.iload_n 2, 7, 0, 0, 0, 0, 0, 0, [])), (7, (.ifCond .ne 7, 10, 14, 0, 0, 0, 0, 0, [])), (10, (.iload_n 0, 11, 0, 0, 0, 0, 0, 0, [])), (11, (.goto 4, 14, 15, 0, 0, 0, 0, 0, [])), (14, (.iload_n 1, 15, 0, 0, 0, 0, 0, 0, [])), (15, (.istore 4, 17, 0, 0, 0, 0, 0, 0, []))],
  [(17, (.iload_n 3, 18, 0, 0, 0, 0, 0, 0, [])), (18, (.ifCond .ne 8, 21, 26, 0, 0, 0, 0, 0, [])), (21, (.iload 4, 23, 0, 0, 0, 0, 0, 0, [])), (23, (.goto 7, 26, 30, 0, 0, 0, 0, 0, [])), (26, (.iload 4, 28, 0, 0, 0, 0, 0, 0, [])), (28, (.iload_n 3, 29, 0, 0, 0, 0, 0, 0, [])), (29, (.idiv, 30, 0, 0, 0, 0, 0, 0, [])), (30, (.ireturn, 31, 0, 0, 0, 0, 0, 0, []))]])
set_option maxRecDepth 100000 in
theorem kX7_lowestPart : xMk mX7_lowestPart = true := by decide +kernel
set_option maxRecDepth 100000 in
theorem bX7_lowestPart : xcB mX7_lowestPart 1 3 = true := by decide +kernel
def mX7_commonDivisor : xM := (yX7_commonDivisor, cX7_commonDivisor, 6, (some .int), [
  [(0, (.iload_n 0, 1, 0, 0, 0, 0, 0, 0, [])), (1, (.istore_n 2, 2, 0, 0, 0, 0, 0, 0, [])), (2, (.iload_n 1, 3, 0, 0, 0, 0, 0, 0, [])), (3, (.istore_n 3, 4, 0, 0, 0, 0, 0, 0, [])), (4, (.iconst 0, 5, 0, 0, 0, 0, 0, 0, [])), (5, (.istore 4, 7, 0, 0, 0, 0, 0, 0, [])), (7, (.iload 4, 9, 0, 0, 0, 0, 0, 0, [])), (9, (.bipush 64, 11, 0, 64, 0, 0, 0, 0, [])), (11, (.if_icmp .ge 23, 14, 34, 0, 0, 0, 0, 0, [])), (14, (.iload_n 3, 15, 0, 0, 0, 0, 0, 0, [])), (15, (.ifCond .eq 19, 18, 34, 0, 0, 0, 0, 0, []))],
  [(18, (.iload_n 2, 19, 0, 0, 0, 0, 0, 0, [])), (19, (.iload_n 3, 20, 0, 0, 0, 0, 0, 0, [])), (20, (.irem, 21, 0, 0, 0, 0, 0, 0, [])), (21, (.istore 5, 23, 0, 0, 0, 0, 0, 0, [])), (23, (.iload_n 3, 24, 0, 0, 0, 0, 0, 0, [])), (24, (.istore_n 2, 25, 0, 0, 0, 0, 0, 0, [])), (25, (.iload 5, 27, 0, 0, 0, 0, 0, 0, [])), (27, (.istore_n 3, 28, 0, 0, 0, 0, 0, 0, [])), (28, (.iinc 4 1, 31, 0, 1, 0, 0, 0, 0, [])), (31, (.goto (-24), 34, 7, 0, 0, 0, 0, 0, []))],
  [(34, (.iload_n 2, 35, 0, 0, 0, 0, 0, 0, [])), (35, (.ireturn, 36, 0, 0, 0, 0, 0, 0, []))]])
set_option maxRecDepth 100000 in
theorem kX7_commonDivisor : xMk mX7_commonDivisor = true := by decide +kernel
set_option maxRecDepth 100000 in
theorem bX7_commonDivisor : xcB mX7_commonDivisor 1 2 = true := by decide +kernel
end
section
/-! the rows of the methods of X8 -/
def mX8_init : xM := (yX8_init, cX8_init, 1, none, [
  [(0, (.aload_n 0, 1, 0, 0, 0, 0, 0, 0, [])), (1, (.invokespecial 1, 4, 0, 0, 0, 1, 0, 857, [])), (4, (.aload_n 0, 5, 0, 0, 0, 0, 0, 0, [])), (5, (.bipush 6, 7, 0, 6, 0, 0, 0, 0, [])), (7, (.putfield 7, 10, 0, 0, 0, 8, 0, 862, [])), (10, (.aload_n 0, 11, 0, 0, 0, 0, 0, 0, [])), (11, (.bipush 7, 13, 0, 7, 0, 0, 0, 0, [])), (13, (.putfield 13, 16, 0, 0, 0, 8, 1, 863, []))],
  [(16, (.aload_n 0, 17, 0, 0, 0, 0, 0, 0, [])), (17, (.bipush 10, 19, 0, 10, 0, 0, 0, 0, [])), (19, (.putfield 16, 22, 0, 0, 0, 8, 2, 864, [])), (22, (.aload_n 0, 23, 0, 0, 0, 0, 0, 0, [])), (23, (.iconst 4, 24, 0, 4, 0, 0, 0, 0, [])), (24, (.putfield 19, 27, 0, 0, 0, 8, 3, 865, [])), (27, (.aload_n 0, 28, 0, 0, 0, 0, 0, 0, [])), (28, (.iconst 1, 29, 0, 1, 0, 0, 0, 0, [])), (29, (.putfield 22, 32, 0, 0, 0, 8, 4, 866, []))],
  [(32, (.aload_n 0, 33, 0, 0, 0, 0, 0, 0, [])), (33, (.bipush 6, 35, 0, 6, 0, 0, 0, 0, [])), (35, (.newarray .int, 37, 0, 0, 0, 0, 6, 0, [])), (37, (.putfield 25, 40, 2, 1, 0, 8, 6, 868, [])), (40, (.aload_n 0, 41, 0, 0, 0, 0, 0, 0, [])), (41, (.bipush 16, 43, 0, 16, 0, 0, 0, 0, [])), (43, (.newarray .int, 45, 0, 0, 0, 0, 16, 0, [])), (45, (.putfield 29, 48, 2, 1, 0, 8, 8, 870, []))],
  [(48, (.aload_n 0, 49, 0, 0, 0, 0, 0, 0, [])), (49, (.bipush 78, 51, 0, 78, 0, 0, 0, 0, [])), (51, (.newarray .int, 53, 0, 0, 0, 0, 78, 0, [])), (53, (.putfield 32, 56, 2, 1, 0, 8, 10, 872, [])), (56, (.aload_n 0, 57, 0, 0, 0, 0, 0, 0, [])), (57, (.bipush 16, 59, 0, 16, 0, 0, 0, 0, [])), (59, (.newarray .int, 61, 0, 0, 0, 0, 16, 0, [])), (61, (.putfield 35, 64, 2, 1, 0, 8, 12, 874, []))],
  [(64, (.aload_n 0, 65, 0, 0, 0, 0, 0, 0, [])), (65, (.sipush 200, 68, 0, 200, 0, 0, 0, 0, [])), (68, (.newarray .int, 70, 0, 0, 0, 0, 200, 0, [])), (70, (.putfield 38, 73, 2, 1, 0, 8, 14, 876, [])), (73, (.aload_n 0, 74, 0, 0, 0, 0, 0, 0, [])), (74, (.bipush 50, 76, 0, 50, 0, 0, 0, 0, [])), (76, (.newarray .int, 78, 0, 0, 0, 0, 50, 0, [])), (78, (.putfield 41, 81, 2, 1, 0, 8, 25, 887, []))],
  [(81, (.aload_n 0, 82, 0, 0, 0, 0, 0, 0, [])), (82, (.sipush 573, 85, 0, 573, 0, 0, 0, 0, [])), (85, (.newarray .int, 87, 0, 0, 0, 0, 573, 0, [])), (87, (.putfield 44, 90, 2, 1, 0, 8, 26, 888, [])), (90, (.aload_n 0, 91, 0, 0, 0, 0, 0, 0, [])), (91, (.sipush 573, 94, 0, 573, 0, 0, 0, 0, [])), (94, (.newarray .int, 96, 0, 0, 0, 0, 573, 0, []))],
  [(96, (.putfield 47, 99, 2, 1, 0, 8, 27, 889, [])), (99, (.aload_n 0, 100, 0, 0, 0, 0, 0, 0, [])), (100, (.sipush 1146, 103, 0, 1146, 0, 0, 0, 0, [])), (103, (.newarray .int, 105, 0, 0, 0, 0, 1146, 0, [])), (105, (.putfield 50, 108, 2, 1, 0, 8, 28, 890, [])), (108, (.aload_n 0, 109, 0, 0, 0, 0, 0, 0, [])), (109, (.iconst 2, 110, 0, 2, 0, 0, 0, 0, [])), (110, (.newarray .boolean, 112, 0, 0, 0, 1, 2, 0, []))],
  [(112, (.putfield 53, 115, 2, 1, 0, 8, 29, 891, [])), (115, (.aload_n 0, 116, 0, 0, 0, 0, 0, 0, [])), (116, (.iconst 4, 117, 0, 4, 0, 0, 0, 0, [])), (117, (.newarray .int, 119, 0, 0, 0, 0, 4, 0, [])), (119, (.putfield 57, 122, 2, 1, 0, 8, 33, 895, [])), (122, (.aload_n 0, 123, 0, 0, 0, 0, 0, 0, [])), (123, (.iconst 3, 124, 0, 3, 0, 0, 0, 0, [])), (124, (.newarray .int, 126, 0, 0, 0, 0, 3, 0, [])), (126, (.putfield 60, 129, 2, 1, 0, 8, 36, 898, []))],
  [(129, (.aload_n 0, 130, 0, 0, 0, 0, 0, 0, [])), (130, (.invokevirtual 63, 133, 0, 0, 0, 0, 0, 858, [])), (133, (.return_, 134, 0, 0, 0, 0, 0, 0, []))]])
set_option maxRecDepth 100000 in
theorem kX8_init : xMk mX8_init = true := by decide +kernel
set_option maxRecDepth 100000 in
theorem bX8_init : xcB mX8_init 2 0 = true := by decide +kernel
def mX8_in : xM := (yX8_in, cX8_in, 3, (some .boolean), [
  [(0, (.iload_n 0, 1, 0, 0, 0, 0, 0, 0, [])), (1, (.iload_n 1, 2, 0, 0, 0, 0, 0, 0, [])), (2, (.if_icmp .lt 12, 5, 14, 0, 0, 0, 0, 0, [])), (5, (.iload_n 0, 6, 0, 0, 0, 0, 0, 0, [])), (6, (.iload_n 2, 7, 0, 0, 0, 0, 0, 0, [])), (7, (.if_icmp .gt 7, 10, 14, 0, 0, 0, 0, 0, [])), (10, (.iconst 1, 11, 0, 1, 0, 0, 0, 0, [])), (11, (.goto 4, 14, 15, 0, 0, 0, 0, 0, [])), (14, (.iconst 0, 15, 0, 0, 0, 0, 0, 0, [])), (15, (.ireturn, 16, 0, 0, 0, 0, 0, 0, []))]])
set_option maxRecDepth 100000 in
theorem kX8_in : xMk mX8_in = true := by decide +kernel
set_option maxRecDepth 100000 in
theorem bX8_in : xcB mX8_in 1 3 = true := by decide +kernel
def mX8_has : xM := (yX8_has, cX8_has, 2, (some .boolean), [
  [(0, (.iload_n 0, 1, 0, 0, 0, 0, 0, 0, [])), (1, (.iload_n 1, 2, 0, 0, 0, 0, 0, 0, [])), (2, (.ishr, 3, 0, 0, 0, 0, 0, 0, [])), (3, (.iconst 1, 4, 0, 1, 0, 0, 0, 0, [])), (4, (.iand, 5, 0, 0, 0, 0, 0, 0, [])), (5, (.iconst 1, 6, 0, 1, 0, 0, 0, 0, [])), (6, (.if_icmp .ne 7, 9, 13, 0, 0, 0, 0, 0, [])), (9, (.iconst 1, 10, 0, 1, 0, 0, 0, 0, [])), (10, (.goto 4, 13, 14, 0, 0, 0, 0, 0, [])), (13, (.iconst 0, 14, 0, 0, 0, 0, 0, 0, [])), (14, (.ireturn, 15, 0, 0, 0, 0, 0, 0, []))]])
set_option maxRecDepth 100000 in
theorem kX8_has : xMk mX8_has = true := by decide +kernel
set_option maxRecDepth 100000 in
theorem bX8_has : xcB mX8_has 1 2 = true := by decide +kernel
def mX8_bits : xM := (yX8_bits, cX8_bits, 3, (some .int), [
  [(0, (.iconst 0, 1, 0, 0, 0, 0, 0, 0, [])), (1, (.istore_n 1, 2, 0, 0, 0, 0, 0, 0, [])), (2, (.iconst 0, 3, 0, 0, 0, 0, 0, 0, [])), (3, (.istore_n 2, 4, 0, 0, 0, 0, 0, 0, [])), (4, (.iload_n 2, 5, 0, 0, 0, 0, 0, 0, [])), (5, (.bipush 8, 7, 0, 8, 0, 0, 0, 0, [])), (7, (.if_icmp .ge 17, 10, 24, 0, 0, 0, 0, 0, [])), (10, (.iload_n 1, 11, 0, 0, 0, 0, 0, 0, [])), (11, (.iload_n 0, 12, 0, 0, 0, 0, 0, 0, [])), (12, (.iload_n 2, 13, 0, 0, 0, 0, 0, 0, [])), (13, (.ishr, 14, 0, 0, 0, 0, 0, 0, [])), (14, (.iconst 1, 15, 0, 1, 0, 0, 0, 0, [])), (15, (.iand, 16, 0, 0, 0, 0, 0, 0, []))],
  [(16, (.iadd, 17, 0, 0, 0, 0, 0, 0, [])), (17, (.istore_n 1, 18, 0, 0, 0, 0, 0, 0, [])), (18, (.iinc 2 1, 21, 0, 1, 0, 0, 0, 0, [])), (21, (.goto (-17), 24, 4, 0, 0, 0, 0, 0, [])), (24, (.iload_n 1, 25, 0, 0, 0, 0, 0, 0, [])), (25, (.ireturn, 26, 0, 0, 0, 0, 0, 0, []))]])
set_option maxRecDepth 100000 in
theorem kX8_bits : xMk mX8_bits = true := by decide +kernel
set_option maxRecDepth 100000 in
theorem bX8_bits : xcB mX8_bits 1 1 = true := by decide +kernel
def mX8_isPerson : xM := (yX8_isPerson, cX8_isPerson, 2, (some .boolean), [
  [(0, (.iload_n 1, 1, 0, 0, 0, 0, 0, 0, [])), (1, (.iconst 0, 2, 0, 0, 0, 0, 0, 0, [])), (2, (.bipush 7, 4, 0, 7, 0, 0, 0, 0, [])), (4, (.invokestatic 66, 7, 0, 0, 0, 0, 0, 978, [])), (7, (.ifCond .eq 18, 10, 25, 0, 0, 0, 0, 0, [])), (10, (.aload_n 0, 11, 0, 0, 0, 0, 0, 0, [])), (11, (.getfield 70, 14, 0, 0, 0, 8, 7, 869, [])), (14, (.iload_n 1, 15, 0, 0, 0, 0, 0, 0, [])), (15, (.invokestatic 73, 18, 0, 0, 0, 0, 0, 1038, []))],
  [(18, (.ifCond .eq 7, 21, 25, 0, 0, 0, 0, 0, [])), (21, (.iconst 1, 22, 0, 1, 0, 0, 0, 0, [])), (22, (.goto 4, 25, 26, 0, 0, 0, 0, 0, [])), (25, (.iconst 0, 26, 0, 0, 0, 0, 0, 0, [])), (26, (.ireturn, 27, 0, 0, 0, 0, 0, 0, []))]])
set_option maxRecDepth 100000 in
theorem kX8_isPerson : xMk mX8_isPerson = true := by decide +kernel
set_option maxRecDepth 100000 in
theorem bX8_isPerson : xcB mX8_isPerson 0 1 = true := by decide +kernel
def mX8_isTram : xM := (yX8_isTram, cX8_isTram, 2, (some .boolean), [
  [(0, (.iload_n 1, 1, 0, 0, 0, 0, 0, 0, [])), (1, (.iconst 0, 2, 0, 0, 0, 0, 0, 0, [])), (2, (.iconst 1, 3, 0, 1, 0, 0, 0, 0, [])), (3, (.invokestatic 66, 6, 0, 0, 0, 0, 0, 978, [])), (6, (.ifCond .eq 18, 9, 24, 0, 0, 0, 0, 0, [])), (9, (.aload_n 0, 10, 0, 0, 0, 0, 0, 0, [])), (10, (.getfield 77, 13, 0, 0, 0, 8, 5, 867, [])), (13, (.iload_n 1, 14, 0, 0, 0, 0, 0, 0, [])), (14, (.invokestatic 73, 17, 0, 0, 0, 0, 0, 1038, []))],
  [(17, (.ifCond .eq 7, 20, 24, 0, 0, 0, 0, 0, [])), (20, (.iconst 1, 21, 0, 1, 0, 0, 0, 0, [])), (21, (.goto 4, 24, 25, 0, 0, 0, 0, 0, [])), (24, (.iconst 0, 25, 0, 0, 0, 0, 0, 0, [])), (25, (.ireturn, 26, 0, 0, 0, 0, 0, 0, []))]])
set_option maxRecDepth 100000 in
theorem kX8_isTram : xMk mX8_isTram = true := by decide +kernel
set_option maxRecDepth 100000 in
theorem bX8_isTram : xcB mX8_isTram 0 1 = true := by decide +kernel
def mX8_isPlace : xM := (yX8_isPlace, cX8_isPlace, 2, (some .boolean), [
  [(0, (.iload_n 1, 1, 0, 0, 0, 0, 0, 0, [])), (1, (.iconst 0, 2, 0, 0, 0, 0, 0, 0, [])), (2, (.aload_n 0, 3, 0, 0, 0, 0, 0, 0, [])), (3, (.getfield 7, 6, 0, 0, 0, 8, 0, 862, [])), (6, (.iconst 1, 7, 0, 1, 0, 0, 0, 0, [])), (7, (.isub, 8, 0, 0, 0, 0, 0, 0, [])), (8, (.invokestatic 66, 11, 0, 0, 0, 0, 0, 978, [])), (11, (.ireturn, 12, 0, 0, 0, 0, 0, 0, []))]])
set_option maxRecDepth 100000 in
theorem kX8_isPlace : xMk mX8_isPlace = true := by decide +kernel
set_option maxRecDepth 100000 in
theorem bX8_isPlace : xcB mX8_isPlace 0 1 = true := by decide +kernel
def mX8_write : xM := (yX8_write, cX8_write, 5, (some .int), [
  [(0, (.iload_n 3, 1, 0, 0, 0, 0, 0, 0, [])), (1, (.iconst 1, 2, 0, 1, 0, 0, 0, 0, [])), (2, (.bipush 8, 4, 0, 8, 0, 0, 0, 0, [])), (4, (.invokestatic 66, 7, 0, 0, 0, 0, 0, 978, [])), (7, (.ifCond .ne 6, 10, 13, 0, 0, 0, 0, 0, [])), (10, (.bipush (-3), 12, 0, -3, 0, 0, 0, 0, [])), (12, (.ireturn, 13, 0, 0, 0, 0, 0, 0, [])), (13, (.aload_n 0, 14, 0, 0, 0, 0, 0, 0, [])), (14, (.getfield 80, 17, 0, 0, 0, 8, 13, 875, []))],
  [(17, (.iload_n 3, 18, 0, 0, 0, 0, 0, 0, [])), (18, (.iadd, 19, 0, 0, 0, 0, 0, 0, [])), (19, (.sipush 200, 22, 0, 200, 0, 0, 0, 0, [])), (22, (.if_icmp .le 6, 25, 28, 0, 0, 0, 0, 0, [])), (25, (.bipush (-5), 27, 0, -5, 0, 0, 0, 0, [])), (27, (.ireturn, 28, 0, 0, 0, 0, 0, 0, [])), (28, (.iconst 0, 29, 0, 0, 0, 0, 0, 0, [])), (29, (.istore 4, 31, 0, 0, 0, 0, 0, 0, [])), (31, (.iload 4, 33, 0, 0, 0, 0, 0, 0, []))],
  [(33, (.iload_n 3, 34, 0, 0, 0, 0, 0, 0, [])), (34, (.if_icmp .ge 33, 37, 67, 0, 0, 0, 0, 0, [])), (37, (.aload_n 0, 38, 0, 0, 0, 0, 0, 0, [])), (38, (.getfield 38, 41, 0, 0, 0, 8, 14, 876, [])), (41, (.aload_n 0, 42, 0, 0, 0, 0, 0, 0, [])), (42, (.getfield 80, 45, 0, 0, 0, 8, 13, 875, [])), (45, (.iload 4, 47, 0, 0, 0, 0, 0, 0, [])), (47, (.iadd, 48, 0, 0, 0, 0, 0, 0, []))],
  [(48, (.lload_n 1, 49, 0, 0, 0, 0, 0, 0, [])), (49, (.bipush 8, 51, 0, 8, 0, 0, 0, 0, [])), (51, (.iload 4, 53, 0, 0, 0, 0, 0, 0, [])), (53, (.imul, 54, 0, 0, 0, 0, 0, 0, [])), (54, (.lshr, 55, 0, 0, 0, 0, 0, 0, [])), (55, (.ldc2_w 83, 58, 0, 0, 255, 0, 0, 981, [])), (58, (.land, 59, 0, 0, 0, 0, 0, 0, [])), (59, (.l2i, 60, 0, 0, 0, 0, 0, 0, [])), (60, (.iastore, 61, 0, 0, 0, 0, 0, 0, [])), (61, (.iinc 4 1, 64, 0, 1, 0, 0, 0, 0, []))],
  [(64, (.goto (-33), 67, 31, 0, 0, 0, 0, 0, [])), (67, (.aload_n 0, 68, 0, 0, 0, 0, 0, 0, [])), (68, (.dup, 69, 0, 0, 0, 0, 0, 0, [])), (69, (.getfield 80, 72, 0, 0, 0, 8, 13, 875, [])), (72, (.iload_n 3, 73, 0, 0, 0, 0, 0, 0, [])), (73, (.iadd, 74, 0, 0, 0, 0, 0, 0, [])), (74, (.putfield 80, 77, 0, 0, 0, 8, 13, 875, [])), (77, (.aload_n 0, 78, 0, 0, 0, 0, 0, 0, [])), (78, (.getfield 80, 81, 0, 0, 0, 8, 13, 875, []))],
  [(81, (.ireturn, 82, 0, 0, 0, 0, 0, 0, []))]])
set_option maxRecDepth 100000 in
theorem kX8_write : xMk mX8_write = true := by decide +kernel
set_option maxRecDepth 100000 in
theorem bX8_write : xcB mX8_write 0 2 = true := by decide +kernel
def mX8_erase : xM := (yX8_erase, cX8_erase, 2, (some .int), [
  [(0, (.aload_n 0, 1, 0, 0, 0, 0, 0, 0, [])), (1, (.getfield 80, 4, 0, 0, 0, 8, 13, 875, [])), (4, (.istore_n 1, 5, 0, 0, 0, 0, 0, 0, [])), (5, (.aload_n 0, 6, 0, 0, 0, 0, 0, 0, [])), (6, (.iconst 0, 7, 0, 0, 0, 0, 0, 0, [])), (7, (.putfield 80, 10, 0, 0, 0, 8, 13, 875, [])), (10, (.iload_n 1, 11, 0, 0, 0, 0, 0, 0, [])), (11, (.ireturn, 12, 0, 0, 0, 0, 0, 0, []))]])
set_option maxRecDepth 100000 in
theorem kX8_erase : xMk mX8_erase = true := by decide +kernel
set_option maxRecDepth 100000 in
theorem bX8_erase : xcB mX8_erase 0 0 = true := by decide +kernel
def mX8_nextToken : xM := (yX8_nextToken, cX8_nextToken, 1, none, [
  [(0, (.aload_n 0, 1, 0, 0, 0, 0, 0, 0, [])), (1, (.getfield 85, 4, 0, 0, 0, 8, 15, 877, [])), (4, (.aload_n 0, 5, 0, 0, 0, 0, 0, 0, [])), (5, (.getfield 80, 8, 0, 0, 0, 8, 13, 875, [])), (8, (.if_icmp .ge 30, 11, 38, 0, 0, 0, 0, 0, [])), (11, (.aload_n 0, 12, 0, 0, 0, 0, 0, 0, [])), (12, (.getfield 38, 15, 0, 0, 0, 8, 14, 876, [])), (15, (.aload_n 0, 16, 0, 0, 0, 0, 0, 0, []))],
  [(16, (.getfield 85, 19, 0, 0, 0, 8, 15, 877, [])), (19, (.iaload, 20, 0, 0, 0, 0, 0, 0, [])), (20, (.bipush 32, 22, 0, 32, 0, 0, 0, 0, [])), (22, (.if_icmp .ne 16, 25, 38, 0, 0, 0, 0, 0, [])), (25, (.aload_n 0, 26, 0, 0, 0, 0, 0, 0, [])), (26, (.dup, 27, 0, 0, 0, 0, 0, 0, [])), (27, (.getfield 85, 30, 0, 0, 0, 8, 15, 877, [])), (30, (.iconst 1, 31, 0, 1, 0, 0, 0, 0, [])), (31, (.iadd, 32, 0, 0, 0, 0, 0, 0, []))],
  [(32, (.putfield 85, 35, 0, 0, 0, 8, 15, 877, [])), (35, (.goto (-35), 38, 0, 0, 0, 0, 0, 0, [])), (38, (.aload_n 0, 39, 0, 0, 0, 0, 0, 0, [])), (39, (.aload_n 0, 40, 0, 0, 0, 0, 0, 0, [])), (40, (.getfield 85, 43, 0, 0, 0, 8, 15, 877, [])), (43, (.putfield 88, 46, 0, 0, 0, 8, 16, 878, [])), (46, (.aload_n 0, 47, 0, 0, 0, 0, 0, 0, [])), (47, (.iconst 0, 48, 0, 0, 0, 0, 0, 0, []))],
  [(48, (.putfield 91, 51, 0, 0, 0, 8, 18, 880, [])), (51, (.aload_n 0, 52, 0, 0, 0, 0, 0, 0, [])), (52, (.iconst 0, 53, 0, 0, 0, 0, 0, 0, [])), (53, (.putfield 94, 56, 0, 0, 0, 8, 19, 881, [])), (56, (.aload_n 0, 57, 0, 0, 0, 0, 0, 0, [])), (57, (.getfield 85, 60, 0, 0, 0, 8, 15, 877, [])), (60, (.aload_n 0, 61, 0, 0, 0, 0, 0, 0, [])), (61, (.getfield 80, 64, 0, 0, 0, 8, 13, 875, []))],
  [(64, (.if_icmp .ne 13, 67, 77, 0, 0, 0, 0, 0, [])), (67, (.aload_n 0, 68, 0, 0, 0, 0, 0, 0, [])), (68, (.ldc2_w 97, 71, 0, 0, -2, 0, 0, 1002, [])), (71, (.putfield 99, 74, 3, 0, 0, 8, 17, 879, [])), (74, (.goto 320, 77, 394, 0, 0, 0, 0, 0, [])), (77, (.aload_n 0, 78, 0, 0, 0, 0, 0, 0, [])), (78, (.getfield 38, 81, 0, 0, 0, 8, 14, 876, []))],
  [(81, (.aload_n 0, 82, 0, 0, 0, 0, 0, 0, [])), (82, (.getfield 85, 85, 0, 0, 0, 8, 15, 877, [])), (85, (.iaload, 86, 0, 0, 0, 0, 0, 0, [])), (86, (.bipush 97, 88, 0, 97, 0, 0, 0, 0, [])), (88, (.bipush 122, 90, 0, 122, 0, 0, 0, 0, [])), (90, (.invokestatic 66, 93, 0, 0, 0, 0, 0, 978, [])), (93, (.ifCond .eq 129, 96, 222, 0, 0, 0, 0, 0, []))],
  [(96, (.aload_n 0, 97, 0, 0, 0, 0, 0, 0, [])), (97, (.lconst 0, 98, 0, 0, 0, 0, 0, 0, [])), (98, (.putfield 99, 101, 3, 0, 0, 8, 17, 879, [])), (101, (.aload_n 0, 102, 0, 0, 0, 0, 0, 0, [])), (102, (.getfield 85, 105, 0, 0, 0, 8, 15, 877, [])), (105, (.aload_n 0, 106, 0, 0, 0, 0, 0, 0, [])), (106, (.getfield 80, 109, 0, 0, 0, 8, 13, 875, [])), (109, (.if_icmp .ge 82, 112, 191, 0, 0, 0, 0, 0, []))],
  [(112, (.aload_n 0, 113, 0, 0, 0, 0, 0, 0, [])), (113, (.getfield 38, 116, 0, 0, 0, 8, 14, 876, [])), (116, (.aload_n 0, 117, 0, 0, 0, 0, 0, 0, [])), (117, (.getfield 85, 120, 0, 0, 0, 8, 15, 877, [])), (120, (.iaload, 121, 0, 0, 0, 0, 0, 0, [])), (121, (.bipush 97, 123, 0, 97, 0, 0, 0, 0, [])), (123, (.bipush 122, 125, 0, 122, 0, 0, 0, 0, [])), (125, (.invokestatic 66, 128, 0, 0, 0, 0, 0, 978, []))],
  [(128, (.ifCond .eq 63, 131, 191, 0, 0, 0, 0, 0, [])), (131, (.aload_n 0, 132, 0, 0, 0, 0, 0, 0, [])), (132, (.aload_n 0, 133, 0, 0, 0, 0, 0, 0, [])), (133, (.getfield 85, 136, 0, 0, 0, 8, 15, 877, [])), (136, (.aload_n 0, 137, 0, 0, 0, 0, 0, 0, [])), (137, (.getfield 88, 140, 0, 0, 0, 8, 16, 878, [])), (140, (.isub, 141, 0, 0, 0, 0, 0, 0, [])), (141, (.bipush 9, 143, 0, 9, 0, 0, 0, 0, [])), (143, (.if_icmp .ge 29, 146, 172, 0, 0, 0, 0, 0, []))],
  [(146, (.ldc2_w 103, 149, 0, 0, 27, 0, 0, 1003, [])), (149, (.aload_n 0, 150, 0, 0, 0, 0, 0, 0, [])), (150, (.getfield 99, 153, 0, 0, 0, 8, 17, 879, [])), (153, (.lmul, 154, 0, 0, 0, 0, 0, 0, [])), (154, (.aload_n 0, 155, 0, 0, 0, 0, 0, 0, [])), (155, (.getfield 38, 158, 0, 0, 0, 8, 14, 876, [])), (158, (.aload_n 0, 159, 0, 0, 0, 0, 0, 0, [])), (159, (.getfield 85, 162, 0, 0, 0, 8, 15, 877, []))],
  [(162, (.iaload, 163, 0, 0, 0, 0, 0, 0, [])), (163, (.i2l, 164, 0, 0, 0, 0, 0, 0, [])), (164, (.ladd, 165, 0, 0, 0, 0, 0, 0, [])), (165, (.ldc2_w 105, 168, 0, 0, 96, 0, 0, 1004, [])), (168, (.lsub, 169, 0, 0, 0, 0, 0, 0, [])), (169, (.goto 6, 172, 175, 0, 0, 0, 0, 0, [])), (172, (.ldc2_w 107, 175, 0, 0, -4, 0, 0, 1005, [])), (175, (.putfield 99, 178, 3, 0, 0, 8, 17, 879, []))],
  [(178, (.aload_n 0, 179, 0, 0, 0, 0, 0, 0, [])), (179, (.dup, 180, 0, 0, 0, 0, 0, 0, [])), (180, (.getfield 85, 183, 0, 0, 0, 8, 15, 877, [])), (183, (.iconst 1, 184, 0, 1, 0, 0, 0, 0, [])), (184, (.iadd, 185, 0, 0, 0, 0, 0, 0, [])), (185, (.putfield 85, 188, 0, 0, 0, 8, 15, 877, [])), (188, (.goto (-87), 191, 101, 0, 0, 0, 0, 0, [])), (191, (.aload_n 0, 192, 0, 0, 0, 0, 0, 0, []))],
  [(192, (.aload_n 0, 193, 0, 0, 0, 0, 0, 0, [])), (193, (.getfield 85, 196, 0, 0, 0, 8, 15, 877, [])), (196, (.aload_n 0, 197, 0, 0, 0, 0, 0, 0, [])), (197, (.getfield 88, 200, 0, 0, 0, 8, 16, 878, [])), (200, (.isub, 201, 0, 0, 0, 0, 0, 0, [])), (201, (.bipush 9, 203, 0, 9, 0, 0, 0, 0, [])), (203, (.if_icmp .le 9, 206, 212, 0, 0, 0, 0, 0, [])), (206, (.ldc2_w 107, 209, 0, 0, -4, 0, 0, 1005, []))],
  [(209, (.goto 7, 212, 216, 0, 0, 0, 0, 0, [])), (212, (.aload_n 0, 213, 0, 0, 0, 0, 0, 0, [])), (213, (.getfield 99, 216, 0, 0, 0, 8, 17, 879, [])), (216, (.putfield 99, 219, 3, 0, 0, 8, 17, 879, [])), (219, (.goto 175, 222, 394, 0, 0, 0, 0, 0, [])), (222, (.aload_n 0, 223, 0, 0, 0, 0, 0, 0, [])), (223, (.getfield 38, 226, 0, 0, 0, 8, 14, 876, []))],
  [(226, (.aload_n 0, 227, 0, 0, 0, 0, 0, 0, [])), (227, (.getfield 85, 230, 0, 0, 0, 8, 15, 877, [])), (230, (.iaload, 231, 0, 0, 0, 0, 0, 0, [])), (231, (.bipush 48, 233, 0, 48, 0, 0, 0, 0, [])), (233, (.bipush 57, 235, 0, 57, 0, 0, 0, 0, [])), (235, (.invokestatic 66, 238, 0, 0, 0, 0, 0, 978, [])), (238, (.ifCond .eq 119, 241, 357, 0, 0, 0, 0, 0, []))],
  [(241, (.aload_n 0, 242, 0, 0, 0, 0, 0, 0, [])), (242, (.getfield 85, 245, 0, 0, 0, 8, 15, 877, [])), (245, (.aload_n 0, 246, 0, 0, 0, 0, 0, 0, [])), (246, (.getfield 80, 249, 0, 0, 0, 8, 13, 875, [])), (249, (.if_icmp .ge 84, 252, 333, 0, 0, 0, 0, 0, [])), (252, (.aload_n 0, 253, 0, 0, 0, 0, 0, 0, [])), (253, (.getfield 38, 256, 0, 0, 0, 8, 14, 876, []))],
  [(256, (.aload_n 0, 257, 0, 0, 0, 0, 0, 0, [])), (257, (.getfield 85, 260, 0, 0, 0, 8, 15, 877, [])), (260, (.iaload, 261, 0, 0, 0, 0, 0, 0, [])), (261, (.bipush 48, 263, 0, 48, 0, 0, 0, 0, [])), (263, (.bipush 57, 265, 0, 57, 0, 0, 0, 0, [])), (265, (.invokestatic 66, 268, 0, 0, 0, 0, 0, 978, [])), (268, (.ifCond .eq 65, 271, 333, 0, 0, 0, 0, 0, [])), (271, (.aload_n 0, 272, 0, 0, 0, 0, 0, 0, []))],
  [(272, (.aload_n 0, 273, 0, 0, 0, 0, 0, 0, [])), (273, (.getfield 91, 276, 0, 0, 0, 8, 18, 880, [])), (276, (.iconst 2, 277, 0, 2, 0, 0, 0, 0, [])), (277, (.if_icmp .ge 26, 280, 303, 0, 0, 0, 0, 0, [])), (280, (.bipush 10, 282, 0, 10, 0, 0, 0, 0, [])), (282, (.aload_n 0, 283, 0, 0, 0, 0, 0, 0, [])), (283, (.getfield 94, 286, 0, 0, 0, 8, 19, 881, [])), (286, (.imul, 287, 0, 0, 0, 0, 0, 0, [])), (287, (.aload_n 0, 288, 0, 0, 0, 0, 0, 0, []))],
  [(288, (.getfield 38, 291, 0, 0, 0, 8, 14, 876, [])), (291, (.aload_n 0, 292, 0, 0, 0, 0, 0, 0, [])), (292, (.getfield 85, 295, 0, 0, 0, 8, 15, 877, [])), (295, (.iaload, 296, 0, 0, 0, 0, 0, 0, [])), (296, (.iadd, 297, 0, 0, 0, 0, 0, 0, [])), (297, (.bipush 48, 299, 0, 48, 0, 0, 0, 0, [])), (299, (.isub, 300, 0, 0, 0, 0, 0, 0, [])), (300, (.goto 7, 303, 307, 0, 0, 0, 0, 0, [])), (303, (.aload_n 0, 304, 0, 0, 0, 0, 0, 0, []))],
  [(304, (.getfield 94, 307, 0, 0, 0, 8, 19, 881, [])), (307, (.putfield 94, 310, 0, 0, 0, 8, 19, 881, [])), (310, (.aload_n 0, 311, 0, 0, 0, 0, 0, 0, [])), (311, (.dup, 312, 0, 0, 0, 0, 0, 0, [])), (312, (.getfield 91, 315, 0, 0, 0, 8, 18, 880, [])), (315, (.iconst 1, 316, 0, 1, 0, 0, 0, 0, [])), (316, (.iadd, 317, 0, 0, 0, 0, 0, 0, [])), (317, (.putfield 91, 320, 0, 0, 0, 8, 18, 880, []))],
  [(320, (.aload_n 0, 321, 0, 0, 0, 0, 0, 0, [])), (321, (.dup, 322, 0, 0, 0, 0, 0, 0, [])), (322, (.getfield 85, 325, 0, 0, 0, 8, 15, 877, [])), (325, (.iconst 1, 326, 0, 1, 0, 0, 0, 0, [])), (326, (.iadd, 327, 0, 0, 0, 0, 0, 0, [])), (327, (.putfield 85, 330, 0, 0, 0, 8, 15, 877, [])), (330, (.goto (-89), 333, 241, 0, 0, 0, 0, 0, [])), (333, (.aload_n 0, 334, 0, 0, 0, 0, 0, 0, [])), (334, (.aload_n 0, 335, 0, 0, 0, 0, 0, 0, [])), (335, (.getfield 91, 338, 0, 0, 0, 8, 18, 880, []))],
  [(338, (.iconst 2, 339, 0, 2, 0, 0, 0, 0, [])), (339, (.if_icmp .le 9, 342, 348, 0, 0, 0, 0, 0, [])), (342, (.ldc2_w 107, 345, 0, 0, -4, 0, 0, 1005, [])), (345, (.goto 6, 348, 351, 0, 0, 0, 0, 0, [])), (348, (.ldc2_w 109, 351, 0, 0, -1, 0, 0, 1006, [])), (351, (.putfield 99, 354, 3, 0, 0, 8, 17, 879, []))],
  [(354, (.goto 40, 357, 394, 0, 0, 0, 0, 0, [])), (357, (.aload_n 0, 358, 0, 0, 0, 0, 0, 0, [])), (358, (.aload_n 0, 359, 0, 0, 0, 0, 0, 0, [])), (359, (.getfield 38, 362, 0, 0, 0, 8, 14, 876, [])), (362, (.aload_n 0, 363, 0, 0, 0, 0, 0, 0, [])), (363, (.getfield 85, 366, 0, 0, 0, 8, 15, 877, [])), (366, (.iaload, 367, 0, 0, 0, 0, 0, 0, [])), (367, (.bipush 59, 369, 0, 59, 0, 0, 0, 0, []))],
  [(369, (.if_icmp .ne 9, 372, 378, 0, 0, 0, 0, 0, [])), (372, (.ldc2_w 111, 375, 0, 0, -3, 0, 0, 1007, [])), (375, (.goto 6, 378, 381, 0, 0, 0, 0, 0, [])), (378, (.ldc2_w 107, 381, 0, 0, -4, 0, 0, 1005, [])), (381, (.putfield 99, 384, 3, 0, 0, 8, 17, 879, []))],
  [(384, (.aload_n 0, 385, 0, 0, 0, 0, 0, 0, [])), (385, (.dup, 386, 0, 0, 0, 0, 0, 0, [])), (386, (.getfield 85, 389, 0, 0, 0, 8, 15, 877, [])), (389, (.iconst 1, 390, 0, 1, 0, 0, 0, 0, [])), (390, (.iadd, 391, 0, 0, 0, 0, 0, 0, [])), (391, (.putfield 85, 394, 0, 0, 0, 8, 15, 877, [])), (394, (.return_, 395, 0, 0, 0, 0, 0, 0, []))]])
set_option maxRecDepth 100000 in
theorem kX8_nextToken : xMk mX8_nextToken = true := by decide +kernel
set_option maxRecDepth 100000 in
theorem bX8_nextToken : xcB mX8_nextToken 0 0 = true := by decide +kernel
def mX8_fails : xM := (yX8_fails, cX8_fails, 1, (some .boolean), [
  [(0, (.aload_n 0, 1, 0, 0, 0, 0, 0, 0, [])), (1, (.aload_n 0, 2, 0, 0, 0, 0, 0, 0, [])), (2, (.getfield 88, 5, 0, 0, 0, 8, 16, 878, [])), (5, (.putfield 113, 8, 0, 0, 0, 8, 20, 882, [])), (8, (.iconst 0, 9, 0, 0, 0, 0, 0, 0, [])), (9, (.ireturn, 10, 0, 0, 0, 0, 0, 0, []))]])
set_option maxRecDepth 100000 in
theorem kX8_fails : xMk mX8_fails = true := by decide +kernel
set_option maxRecDepth 100000 in
theorem bX8_fails : xcB mX8_fails 0 0 = true := by decide +kernel
def mX8_isNumber : xM := (yX8_isNumber, cX8_isNumber, 4, (some .boolean), [
  [(0, (.aload_n 0, 1, 0, 0, 0, 0, 0, 0, [])), (1, (.invokevirtual 116, 4, 0, 0, 0, 0, 0, 998, [])), (4, (.aload_n 0, 5, 0, 0, 0, 0, 0, 0, [])), (5, (.getfield 99, 8, 0, 0, 0, 8, 17, 879, [])), (8, (.ldc2_w 109, 11, 0, 0, -1, 0, 0, 1006, [])), (11, (.lcmp, 12, 0, 0, 0, 0, 0, 0, [])), (12, (.ifCond .ne 15, 15, 27, 0, 0, 0, 0, 0, [])), (15, (.aload_n 0, 16, 0, 0, 0, 0, 0, 0, []))],
  [(16, (.getfield 94, 19, 0, 0, 0, 8, 19, 881, [])), (19, (.iload_n 2, 20, 0, 0, 0, 0, 0, 0, [])), (20, (.iload_n 3, 21, 0, 0, 0, 0, 0, 0, [])), (21, (.invokestatic 66, 24, 0, 0, 0, 0, 0, 978, [])), (24, (.ifCond .ne 8, 27, 32, 0, 0, 0, 0, 0, [])), (27, (.aload_n 0, 28, 0, 0, 0, 0, 0, 0, [])), (28, (.invokevirtual 119, 31, 0, 0, 0, 0, 0, 1026, [])), (31, (.ireturn, 32, 0, 0, 0, 0, 0, 0, []))],
  [(32, (.aload_n 0, 33, 0, 0, 0, 0, 0, 0, [])), (33, (.getfield 41, 36, 0, 0, 0, 8, 25, 887, [])), (36, (.iload_n 1, 37, 0, 0, 0, 0, 0, 0, [])), (37, (.aload_n 0, 38, 0, 0, 0, 0, 0, 0, [])), (38, (.getfield 94, 41, 0, 0, 0, 8, 19, 881, [])), (41, (.iastore, 42, 0, 0, 0, 0, 0, 0, [])), (42, (.iconst 1, 43, 0, 1, 0, 0, 0, 0, [])), (43, (.ireturn, 44, 0, 0, 0, 0, 0, 0, []))]])
set_option maxRecDepth 100000 in
theorem kX8_isNumber : xMk mX8_isNumber = true := by decide +kernel
set_option maxRecDepth 100000 in
theorem bX8_isNumber : xcB mX8_isNumber 0 3 = true := by decide +kernel
def mX8_isRail : xM := (yX8_isRail, cX8_isRail, 2, (some .boolean), [
  [(0, (.aload_n 0, 1, 0, 0, 0, 0, 0, 0, [])), (1, (.iload_n 1, 2, 0, 0, 0, 0, 0, 0, [])), (2, (.iconst 1, 3, 0, 1, 0, 0, 0, 0, [])), (3, (.iadd, 4, 0, 0, 0, 0, 0, 0, [])), (4, (.iconst 2, 5, 0, 2, 0, 0, 0, 0, [])), (5, (.bipush 12, 7, 0, 12, 0, 0, 0, 0, [])), (7, (.invokevirtual 123, 10, 0, 0, 0, 0, 0, 1022, [])), (10, (.ifCond .ne 5, 13, 15, 0, 0, 0, 0, 0, [])), (13, (.iconst 0, 14, 0, 0, 0, 0, 0, 0, [])), (14, (.ireturn, 15, 0, 0, 0, 0, 0, 0, [])), (15, (.aload_n 0, 16, 0, 0, 0, 0, 0, 0, []))],
  [(16, (.aload_n 0, 17, 0, 0, 0, 0, 0, 0, [])), (17, (.getfield 41, 20, 0, 0, 0, 8, 25, 887, [])), (20, (.iload_n 1, 21, 0, 0, 0, 0, 0, 0, [])), (21, (.iconst 1, 22, 0, 1, 0, 0, 0, 0, [])), (22, (.iadd, 23, 0, 0, 0, 0, 0, 0, [])), (23, (.iaload, 24, 0, 0, 0, 0, 0, 0, [])), (24, (.putfield 126, 27, 0, 0, 0, 8, 22, 884, [])), (27, (.aload_n 0, 28, 0, 0, 0, 0, 0, 0, [])), (28, (.iconst 0, 29, 0, 0, 0, 0, 0, 0, [])), (29, (.putfield 129, 32, 0, 0, 0, 8, 23, 885, []))],
  [(32, (.aload_n 0, 33, 0, 0, 0, 0, 0, 0, [])), (33, (.iconst 0, 34, 0, 0, 0, 0, 0, 0, [])), (34, (.putfield 132, 37, 0, 0, 0, 8, 24, 886, [])), (37, (.iconst 1, 38, 0, 1, 0, 0, 0, 0, [])), (38, (.ireturn, 39, 0, 0, 0, 0, 0, 0, []))]])
set_option maxRecDepth 100000 in
theorem kX8_isRail : xMk mX8_isRail = true := by decide +kernel
set_option maxRecDepth 100000 in
theorem bX8_isRail : xcB mX8_isRail 0 1 = true := by decide +kernel
def mX8_isFolk : xM := (yX8_isFolk, cX8_isFolk, 2, (some .boolean), [
  [(0, (.aload_n 0, 1, 0, 0, 0, 0, 0, 0, [])), (1, (.iload_n 1, 2, 0, 0, 0, 0, 0, 0, [])), (2, (.iconst 1, 3, 0, 1, 0, 0, 0, 0, [])), (3, (.iadd, 4, 0, 0, 0, 0, 0, 0, [])), (4, (.iconst 0, 5, 0, 0, 0, 0, 0, 0, [])), (5, (.bipush 7, 7, 0, 7, 0, 0, 0, 0, [])), (7, (.invokevirtual 123, 10, 0, 0, 0, 0, 0, 1022, [])), (10, (.ifCond .eq 37, 13, 47, 0, 0, 0, 0, 0, [])), (13, (.aload_n 0, 14, 0, 0, 0, 0, 0, 0, [])), (14, (.iload_n 1, 15, 0, 0, 0, 0, 0, 0, [])), (15, (.iconst 2, 16, 0, 2, 0, 0, 0, 0, []))],
  [(16, (.iadd, 17, 0, 0, 0, 0, 0, 0, [])), (17, (.iconst 0, 18, 0, 0, 0, 0, 0, 0, [])), (18, (.aload_n 0, 19, 0, 0, 0, 0, 0, 0, [])), (19, (.getfield 126, 22, 0, 0, 0, 8, 22, 884, [])), (22, (.iconst 1, 23, 0, 1, 0, 0, 0, 0, [])), (23, (.isub, 24, 0, 0, 0, 0, 0, 0, [])), (24, (.invokevirtual 123, 27, 0, 0, 0, 0, 0, 1022, [])), (27, (.ifCond .eq 20, 30, 47, 0, 0, 0, 0, 0, [])), (30, (.aload_n 0, 31, 0, 0, 0, 0, 0, 0, [])), (31, (.iload_n 1, 32, 0, 0, 0, 0, 0, 0, []))],
  [(32, (.iconst 3, 33, 0, 3, 0, 0, 0, 0, [])), (33, (.iadd, 34, 0, 0, 0, 0, 0, 0, [])), (34, (.iconst 0, 35, 0, 0, 0, 0, 0, 0, [])), (35, (.aload_n 0, 36, 0, 0, 0, 0, 0, 0, [])), (36, (.getfield 126, 39, 0, 0, 0, 8, 22, 884, [])), (39, (.iconst 1, 40, 0, 1, 0, 0, 0, 0, [])), (40, (.isub, 41, 0, 0, 0, 0, 0, 0, [])), (41, (.invokevirtual 123, 44, 0, 0, 0, 0, 0, 1022, [])), (44, (.ifCond .ne 5, 47, 49, 0, 0, 0, 0, 0, [])), (47, (.iconst 0, 48, 0, 0, 0, 0, 0, 0, []))],
  [(48, (.ireturn, 49, 0, 0, 0, 0, 0, 0, [])), (49, (.aload_n 0, 50, 0, 0, 0, 0, 0, 0, [])), (50, (.aload_n 0, 51, 0, 0, 0, 0, 0, 0, [])), (51, (.getfield 129, 54, 0, 0, 0, 8, 23, 885, [])), (54, (.iconst 1, 55, 0, 1, 0, 0, 0, 0, [])), (55, (.aload_n 0, 56, 0, 0, 0, 0, 0, 0, [])), (56, (.getfield 41, 59, 0, 0, 0, 8, 25, 887, [])), (59, (.iload_n 1, 60, 0, 0, 0, 0, 0, 0, [])), (60, (.iconst 1, 61, 0, 1, 0, 0, 0, 0, [])), (61, (.iadd, 62, 0, 0, 0, 0, 0, 0, [])), (62, (.iaload, 63, 0, 0, 0, 0, 0, 0, [])), (63, (.ishl, 64, 0, 0, 0, 0, 0, 0, []))],
  [(64, (.ior, 65, 0, 0, 0, 0, 0, 0, [])), (65, (.putfield 129, 68, 0, 0, 0, 8, 23, 885, [])), (68, (.aload_n 0, 69, 0, 0, 0, 0, 0, 0, [])), (69, (.getfield 41, 72, 0, 0, 0, 8, 25, 887, [])), (72, (.iload_n 1, 73, 0, 0, 0, 0, 0, 0, [])), (73, (.iconst 2, 74, 0, 2, 0, 0, 0, 0, [])), (74, (.iadd, 75, 0, 0, 0, 0, 0, 0, [])), (75, (.iaload, 76, 0, 0, 0, 0, 0, 0, [])), (76, (.aload_n 0, 77, 0, 0, 0, 0, 0, 0, [])), (77, (.getfield 41, 80, 0, 0, 0, 8, 25, 887, []))],
  [(80, (.iload_n 1, 81, 0, 0, 0, 0, 0, 0, [])), (81, (.iconst 3, 82, 0, 3, 0, 0, 0, 0, [])), (82, (.iadd, 83, 0, 0, 0, 0, 0, 0, [])), (83, (.iaload, 84, 0, 0, 0, 0, 0, 0, [])), (84, (.if_icmp .ne 10, 87, 94, 0, 0, 0, 0, 0, [])), (87, (.aload_n 0, 88, 0, 0, 0, 0, 0, 0, [])), (88, (.invokevirtual 119, 91, 0, 0, 0, 0, 0, 1026, [])), (91, (.ifCond .eq 7, 94, 98, 0, 0, 0, 0, 0, [])), (94, (.iconst 1, 95, 0, 1, 0, 0, 0, 0, [])), (95, (.goto 4, 98, 99, 0, 0, 0, 0, 0, []))],
  [(98, (.iconst 0, 99, 0, 0, 0, 0, 0, 0, [])), (99, (.ireturn, 100, 0, 0, 0, 0, 0, 0, []))]])
set_option maxRecDepth 100000 in
theorem kX8_isFolk : xMk mX8_isFolk = true := by decide +kernel
set_option maxRecDepth 100000 in
theorem bX8_isFolk : xcB mX8_isFolk 0 1 = true := by decide +kernel
def mX8_isMood : xM := (yX8_isMood, cX8_isMood, 2, (some .boolean), [
  [(0, (.aload_n 0, 1, 0, 0, 0, 0, 0, 0, [])), (1, (.getfield 132, 4, 0, 0, 0, 8, 24, 886, [])), (4, (.bipush 24, 6, 0, 24, 0, 0, 0, 0, [])), (6, (.if_icmp .ne 8, 9, 14, 0, 0, 0, 0, 0, [])), (9, (.aload_n 0, 10, 0, 0, 0, 0, 0, 0, [])), (10, (.invokevirtual 119, 13, 0, 0, 0, 0, 0, 1026, [])), (13, (.ireturn, 14, 0, 0, 0, 0, 0, 0, [])), (14, (.aload_n 0, 15, 0, 0, 0, 0, 0, 0, [])), (15, (.dup, 16, 0, 0, 0, 0, 0, 0, []))],
  [(16, (.getfield 132, 19, 0, 0, 0, 8, 24, 886, [])), (19, (.iconst 1, 20, 0, 1, 0, 0, 0, 0, [])), (20, (.iadd, 21, 0, 0, 0, 0, 0, 0, [])), (21, (.putfield 132, 24, 0, 0, 0, 8, 24, 886, [])), (24, (.aload_n 0, 25, 0, 0, 0, 0, 0, 0, [])), (25, (.iload_n 1, 26, 0, 0, 0, 0, 0, 0, [])), (26, (.iconst 1, 27, 0, 1, 0, 0, 0, 0, [])), (27, (.iadd, 28, 0, 0, 0, 0, 0, 0, [])), (28, (.iconst 0, 29, 0, 0, 0, 0, 0, 0, [])), (29, (.bipush 7, 31, 0, 7, 0, 0, 0, 0, [])), (31, (.invokevirtual 123, 34, 0, 0, 0, 0, 0, 1022, []))],
  [(34, (.ifCond .ne 5, 37, 39, 0, 0, 0, 0, 0, [])), (37, (.iconst 0, 38, 0, 0, 0, 0, 0, 0, [])), (38, (.ireturn, 39, 0, 0, 0, 0, 0, 0, [])), (39, (.aload_n 0, 40, 0, 0, 0, 0, 0, 0, [])), (40, (.getfield 129, 43, 0, 0, 0, 8, 23, 885, [])), (43, (.aload_n 0, 44, 0, 0, 0, 0, 0, 0, [])), (44, (.getfield 41, 47, 0, 0, 0, 8, 25, 887, [])), (47, (.iload_n 1, 48, 0, 0, 0, 0, 0, 0, []))],
  [(48, (.iconst 1, 49, 0, 1, 0, 0, 0, 0, [])), (49, (.iadd, 50, 0, 0, 0, 0, 0, 0, [])), (50, (.iaload, 51, 0, 0, 0, 0, 0, 0, [])), (51, (.invokestatic 73, 54, 0, 0, 0, 0, 0, 1038, [])), (54, (.ifCond .eq 16, 57, 70, 0, 0, 0, 0, 0, [])), (57, (.aload_n 0, 58, 0, 0, 0, 0, 0, 0, [])), (58, (.iload_n 1, 59, 0, 0, 0, 0, 0, 0, [])), (59, (.iconst 2, 60, 0, 2, 0, 0, 0, 0, [])), (60, (.iadd, 61, 0, 0, 0, 0, 0, 0, [])), (61, (.iconst 0, 62, 0, 0, 0, 0, 0, 0, [])), (62, (.bipush 59, 64, 0, 59, 0, 0, 0, 0, []))],
  [(64, (.invokevirtual 123, 67, 0, 0, 0, 0, 0, 1022, [])), (67, (.goto 7, 70, 74, 0, 0, 0, 0, 0, [])), (70, (.aload_n 0, 71, 0, 0, 0, 0, 0, 0, [])), (71, (.invokevirtual 119, 74, 0, 0, 0, 0, 0, 1026, [])), (74, (.ireturn, 75, 0, 0, 0, 0, 0, 0, []))]])
set_option maxRecDepth 100000 in
theorem kX8_isMood : xMk mX8_isMood = true := by decide +kernel
set_option maxRecDepth 100000 in
theorem bX8_isMood : xcB mX8_isMood 0 1 = true := by decide +kernel
def mX8_isLine : xM := (yX8_isLine, cX8_isLine, 4, (some .boolean), [
  [(0, (.aload_n 0, 1, 0, 0, 0, 0, 0, 0, [])), (1, (.invokevirtual 116, 4, 0, 0, 0, 0, 0, 998, [])), (4, (.aload_n 0, 5, 0, 0, 0, 0, 0, 0, [])), (5, (.getfield 99, 8, 0, 0, 0, 8, 17, 879, [])), (8, (.ldc2_w 135, 11, 0, 0, 355278, 0, 0, 1008, [])), (11, (.lcmp, 12, 0, 0, 0, 0, 0, 0, [])), (12, (.ifCond .ne 7, 15, 19, 0, 0, 0, 0, 0, [])), (15, (.iconst 0, 16, 0, 0, 0, 0, 0, 0, []))],
  [(16, (.goto 64, 19, 80, 0, 0, 0, 0, 0, [])), (19, (.aload_n 0, 20, 0, 0, 0, 0, 0, 0, [])), (20, (.getfield 99, 23, 0, 0, 0, 8, 17, 879, [])), (23, (.ldc2_w 137, 26, 0, 0, 287015, 0, 0, 1009, [])), (26, (.lcmp, 27, 0, 0, 0, 0, 0, 0, [])), (27, (.ifCond .ne 7, 30, 34, 0, 0, 0, 0, 0, [])), (30, (.iconst 1, 31, 0, 1, 0, 0, 0, 0, [])), (31, (.goto 49, 34, 80, 0, 0, 0, 0, 0, []))],
  [(34, (.aload_n 0, 35, 0, 0, 0, 0, 0, 0, [])), (35, (.getfield 99, 38, 0, 0, 0, 8, 17, 879, [])), (38, (.ldc2_w 139, 41, 0, 0, 10197082, 0, 0, 1010, [])), (41, (.lcmp, 42, 0, 0, 0, 0, 0, 0, [])), (42, (.ifCond .ne 7, 45, 49, 0, 0, 0, 0, 0, [])), (45, (.iconst 2, 46, 0, 2, 0, 0, 0, 0, [])), (46, (.goto 34, 49, 80, 0, 0, 0, 0, 0, []))],
  [(49, (.aload_n 0, 50, 0, 0, 0, 0, 0, 0, [])), (50, (.getfield 99, 53, 0, 0, 0, 8, 17, 879, [])), (53, (.ldc2_w 141, 56, 0, 0, 119318, 0, 0, 1011, [])), (56, (.lcmp, 57, 0, 0, 0, 0, 0, 0, [])), (57, (.ifCond .ne 7, 60, 64, 0, 0, 0, 0, 0, [])), (60, (.iconst 3, 61, 0, 3, 0, 0, 0, 0, [])), (61, (.goto 19, 64, 80, 0, 0, 0, 0, 0, []))],
  [(64, (.aload_n 0, 65, 0, 0, 0, 0, 0, 0, [])), (65, (.getfield 99, 68, 0, 0, 0, 8, 17, 879, [])), (68, (.ldc2_w 143, 71, 0, 0, 406822, 0, 0, 1012, [])), (71, (.lcmp, 72, 0, 0, 0, 0, 0, 0, [])), (72, (.ifCond .ne 7, 75, 79, 0, 0, 0, 0, 0, [])), (75, (.iconst 4, 76, 0, 4, 0, 0, 0, 0, [])), (76, (.goto 4, 79, 80, 0, 0, 0, 0, 0, [])), (79, (.iconst (-1), 80, 0, -1, 0, 0, 0, 0, []))],
  [(80, (.istore_n 2, 81, 0, 0, 0, 0, 0, 0, [])), (81, (.aload_n 0, 82, 0, 0, 0, 0, 0, 0, [])), (82, (.getfield 99, 85, 0, 0, 0, 8, 17, 879, [])), (85, (.ldc2_w 145, 88, 0, 0, 129368, 0, 0, 1013, [])), (88, (.lcmp, 89, 0, 0, 0, 0, 0, 0, [])), (89, (.ifCond .ne 7, 92, 96, 0, 0, 0, 0, 0, [])), (92, (.iconst 5, 93, 0, 5, 0, 0, 0, 0, [])), (93, (.goto 68, 96, 161, 0, 0, 0, 0, 0, []))],
  [(96, (.aload_n 0, 97, 0, 0, 0, 0, 0, 0, [])), (97, (.getfield 99, 100, 0, 0, 0, 8, 17, 879, [])), (100, (.ldc2_w 147, 103, 0, 0, 10728469, 0, 0, 1014, [])), (103, (.lcmp, 104, 0, 0, 0, 0, 0, 0, [])), (104, (.ifCond .ne 8, 107, 112, 0, 0, 0, 0, 0, [])), (107, (.bipush 6, 109, 0, 6, 0, 0, 0, 0, [])), (109, (.goto 52, 112, 161, 0, 0, 0, 0, 0, []))],
  [(112, (.aload_n 0, 113, 0, 0, 0, 0, 0, 0, [])), (113, (.getfield 99, 116, 0, 0, 0, 8, 17, 879, [])), (116, (.ldc2_w 149, 119, 0, 0, 126216878256, 0, 0, 1015, [])), (119, (.lcmp, 120, 0, 0, 0, 0, 0, 0, [])), (120, (.ifCond .ne 8, 123, 128, 0, 0, 0, 0, 0, [])), (123, (.bipush 7, 125, 0, 7, 0, 0, 0, 0, [])), (125, (.goto 36, 128, 161, 0, 0, 0, 0, 0, []))],
  [(128, (.aload_n 0, 129, 0, 0, 0, 0, 0, 0, [])), (129, (.getfield 99, 132, 0, 0, 0, 8, 17, 879, [])), (132, (.ldc2_w 151, 135, 0, 0, 82451, 0, 0, 1016, [])), (135, (.lcmp, 136, 0, 0, 0, 0, 0, 0, [])), (136, (.ifCond .ne 8, 139, 144, 0, 0, 0, 0, 0, [])), (139, (.bipush 8, 141, 0, 8, 0, 0, 0, 0, [])), (141, (.goto 20, 144, 161, 0, 0, 0, 0, 0, []))],
  [(144, (.aload_n 0, 145, 0, 0, 0, 0, 0, 0, [])), (145, (.getfield 99, 148, 0, 0, 0, 8, 17, 879, [])), (148, (.ldc2_w 153, 151, 0, 0, 60115, 0, 0, 1017, [])), (151, (.lcmp, 152, 0, 0, 0, 0, 0, 0, [])), (152, (.ifCond .ne 8, 155, 160, 0, 0, 0, 0, 0, [])), (155, (.bipush 9, 157, 0, 9, 0, 0, 0, 0, [])), (157, (.goto 4, 160, 161, 0, 0, 0, 0, 0, []))],
  [(160, (.iconst (-1), 161, 0, -1, 0, 0, 0, 0, [])), (161, (.istore_n 3, 162, 0, 0, 0, 0, 0, 0, [])), (162, (.aload_n 0, 163, 0, 0, 0, 0, 0, 0, [])), (163, (.getfield 41, 166, 0, 0, 0, 8, 25, 887, [])), (166, (.iload_n 1, 167, 0, 0, 0, 0, 0, 0, [])), (167, (.iload_n 2, 168, 0, 0, 0, 0, 0, 0, [])), (168, (.iconst (-1), 169, 0, -1, 0, 0, 0, 0, [])), (169, (.if_icmp .ne 7, 172, 176, 0, 0, 0, 0, 0, [])), (172, (.iload_n 3, 173, 0, 0, 0, 0, 0, 0, [])), (173, (.goto 4, 176, 177, 0, 0, 0, 0, 0, []))],
  [(176, (.iload_n 2, 177, 0, 0, 0, 0, 0, 0, [])), (177, (.iastore, 178, 0, 0, 0, 0, 0, 0, [])), (178, (.aload_n 0, 179, 0, 0, 0, 0, 0, 0, [])), (179, (.getfield 41, 182, 0, 0, 0, 8, 25, 887, [])), (182, (.iload_n 1, 183, 0, 0, 0, 0, 0, 0, [])), (183, (.iaload, 184, 0, 0, 0, 0, 0, 0, [])), (184, (.tableswitch 195 0 9 #[56, 62, 94, 105, 116, 176, 182, 182, 182, 188], 240, 379, 0, 0, 0, 0, 0, [(0, 240), (1, 246), (2, 278), (3, 289), (4, 300), (5, 360), (6, 366), (7, 366), (8, 366), (9, 372)]))],
  [],
  [],
  [],
  [(240, (.aload_n 0, 241, 0, 0, 0, 0, 0, 0, [])), (241, (.iload_n 1, 242, 0, 0, 0, 0, 0, 0, [])), (242, (.invokevirtual 155, 245, 0, 0, 0, 0, 0, 1018, [])), (245, (.ireturn, 246, 0, 0, 0, 0, 0, 0, [])), (246, (.aload_n 0, 247, 0, 0, 0, 0, 0, 0, [])), (247, (.iload_n 1, 248, 0, 0, 0, 0, 0, 0, [])), (248, (.iconst 1, 249, 0, 1, 0, 0, 0, 0, [])), (249, (.iadd, 250, 0, 0, 0, 0, 0, 0, [])), (250, (.iconst 0, 251, 0, 0, 0, 0, 0, 0, [])), (251, (.bipush 7, 253, 0, 7, 0, 0, 0, 0, [])), (253, (.invokevirtual 123, 256, 0, 0, 0, 0, 0, 1022, []))],
  [(256, (.ifCond .eq 20, 259, 276, 0, 0, 0, 0, 0, [])), (259, (.aload_n 0, 260, 0, 0, 0, 0, 0, 0, [])), (260, (.iload_n 1, 261, 0, 0, 0, 0, 0, 0, [])), (261, (.iconst 2, 262, 0, 2, 0, 0, 0, 0, [])), (262, (.iadd, 263, 0, 0, 0, 0, 0, 0, [])), (263, (.iconst 1, 264, 0, 1, 0, 0, 0, 0, [])), (264, (.bipush 30, 266, 0, 30, 0, 0, 0, 0, [])), (266, (.invokevirtual 123, 269, 0, 0, 0, 0, 0, 1022, [])), (269, (.ifCond .eq 7, 272, 276, 0, 0, 0, 0, 0, []))],
  [(272, (.iconst 1, 273, 0, 1, 0, 0, 0, 0, [])), (273, (.goto 4, 276, 277, 0, 0, 0, 0, 0, [])), (276, (.iconst 0, 277, 0, 0, 0, 0, 0, 0, [])), (277, (.ireturn, 278, 0, 0, 0, 0, 0, 0, [])), (278, (.aload_n 0, 279, 0, 0, 0, 0, 0, 0, [])), (279, (.iload_n 1, 280, 0, 0, 0, 0, 0, 0, [])), (280, (.iconst 1, 281, 0, 1, 0, 0, 0, 0, [])), (281, (.iadd, 282, 0, 0, 0, 0, 0, 0, [])), (282, (.iconst 1, 283, 0, 1, 0, 0, 0, 0, [])), (283, (.bipush 6, 285, 0, 6, 0, 0, 0, 0, [])), (285, (.invokevirtual 123, 288, 0, 0, 0, 0, 0, 1022, []))],
  [(288, (.ireturn, 289, 0, 0, 0, 0, 0, 0, [])), (289, (.aload_n 0, 290, 0, 0, 0, 0, 0, 0, [])), (290, (.iload_n 1, 291, 0, 0, 0, 0, 0, 0, [])), (291, (.iconst 1, 292, 0, 1, 0, 0, 0, 0, [])), (292, (.iadd, 293, 0, 0, 0, 0, 0, 0, [])), (293, (.iconst 0, 294, 0, 0, 0, 0, 0, 0, [])), (294, (.bipush 99, 296, 0, 99, 0, 0, 0, 0, [])), (296, (.invokevirtual 123, 299, 0, 0, 0, 0, 0, 1022, [])), (299, (.ireturn, 300, 0, 0, 0, 0, 0, 0, [])), (300, (.aload_n 0, 301, 0, 0, 0, 0, 0, 0, [])), (301, (.iload_n 1, 302, 0, 0, 0, 0, 0, 0, [])), (302, (.iconst 1, 303, 0, 1, 0, 0, 0, 0, [])), (303, (.iadd, 304, 0, 0, 0, 0, 0, 0, []))],
  [(304, (.iconst 0, 305, 0, 0, 0, 0, 0, 0, [])), (305, (.iconst 1, 306, 0, 1, 0, 0, 0, 0, [])), (306, (.invokevirtual 123, 309, 0, 0, 0, 0, 0, 1022, [])), (309, (.ifCond .eq 49, 312, 358, 0, 0, 0, 0, 0, [])), (312, (.aload_n 0, 313, 0, 0, 0, 0, 0, 0, [])), (313, (.iload_n 1, 314, 0, 0, 0, 0, 0, 0, [])), (314, (.iconst 2, 315, 0, 2, 0, 0, 0, 0, [])), (315, (.iadd, 316, 0, 0, 0, 0, 0, 0, [])), (316, (.iconst 0, 317, 0, 0, 0, 0, 0, 0, [])), (317, (.aload_n 0, 318, 0, 0, 0, 0, 0, 0, [])), (318, (.getfield 126, 321, 0, 0, 0, 8, 22, 884, []))],
  [(321, (.iconst 1, 322, 0, 1, 0, 0, 0, 0, [])), (322, (.isub, 323, 0, 0, 0, 0, 0, 0, [])), (323, (.invokevirtual 123, 326, 0, 0, 0, 0, 0, 1022, [])), (326, (.ifCond .eq 32, 329, 358, 0, 0, 0, 0, 0, [])), (329, (.aload_n 0, 330, 0, 0, 0, 0, 0, 0, [])), (330, (.iload_n 1, 331, 0, 0, 0, 0, 0, 0, [])), (331, (.iconst 3, 332, 0, 3, 0, 0, 0, 0, [])), (332, (.iadd, 333, 0, 0, 0, 0, 0, 0, [])), (333, (.iconst 0, 334, 0, 0, 0, 0, 0, 0, [])), (334, (.bipush 59, 336, 0, 59, 0, 0, 0, 0, []))],
  [(336, (.invokevirtual 123, 339, 0, 0, 0, 0, 0, 1022, [])), (339, (.ifCond .eq 19, 342, 358, 0, 0, 0, 0, 0, [])), (342, (.aload_n 0, 343, 0, 0, 0, 0, 0, 0, [])), (343, (.iload_n 1, 344, 0, 0, 0, 0, 0, 0, [])), (344, (.iconst 4, 345, 0, 4, 0, 0, 0, 0, [])), (345, (.iadd, 346, 0, 0, 0, 0, 0, 0, [])), (346, (.iconst 0, 347, 0, 0, 0, 0, 0, 0, [])), (347, (.iconst 1, 348, 0, 1, 0, 0, 0, 0, [])), (348, (.invokevirtual 123, 351, 0, 0, 0, 0, 0, 1022, [])), (351, (.ifCond .eq 7, 354, 358, 0, 0, 0, 0, 0, []))],
  [(354, (.iconst 1, 355, 0, 1, 0, 0, 0, 0, [])), (355, (.goto 4, 358, 359, 0, 0, 0, 0, 0, [])), (358, (.iconst 0, 359, 0, 0, 0, 0, 0, 0, [])), (359, (.ireturn, 360, 0, 0, 0, 0, 0, 0, [])), (360, (.aload_n 0, 361, 0, 0, 0, 0, 0, 0, [])), (361, (.iload_n 1, 362, 0, 0, 0, 0, 0, 0, [])), (362, (.invokevirtual 159, 365, 0, 0, 0, 0, 0, 1030, [])), (365, (.ireturn, 366, 0, 0, 0, 0, 0, 0, [])), (366, (.aload_n 0, 367, 0, 0, 0, 0, 0, 0, [])), (367, (.iload_n 1, 368, 0, 0, 0, 0, 0, 0, []))],
  [(368, (.invokevirtual 162, 371, 0, 0, 0, 0, 0, 1034, [])), (371, (.ireturn, 372, 0, 0, 0, 0, 0, 0, [])), (372, (.aload_n 0, 373, 0, 0, 0, 0, 0, 0, [])), (373, (.iconst 0, 374, 0, 0, 0, 0, 0, 0, [])), (374, (.putfield 132, 377, 0, 0, 0, 8, 24, 886, [])), (377, (.iconst 1, 378, 0, 1, 0, 0, 0, 0, [])), (378, (.ireturn, 379, 0, 0, 0, 0, 0, 0, [])), (379, (.aload_n 0, 380, 0, 0, 0, 0, 0, 0, [])), (380, (.invokevirtual 119, 383, 0, 0, 0, 0, 0, 1026, [])), (383, (.ireturn, 384, 0, 0, 0, 0, 0, 0, []))]])
set_option maxRecDepth 100000 in
theorem kX8_isLine : xMk mX8_isLine = true := by decide +kernel
set_option maxRecDepth 100000 in
theorem bX8_isLine : xcB mX8_isLine 0 1 = true := by decide +kernel
def mX8_isRead : xM := (yX8_isRead, cX8_isRead, 2, (some .boolean), [
  [(0, (.aload_n 0, 1, 0, 0, 0, 0, 0, 0, [])), (1, (.iconst 0, 2, 0, 0, 0, 0, 0, 0, [])), (2, (.putfield 85, 5, 0, 0, 0, 8, 15, 877, [])), (5, (.aload_n 0, 6, 0, 0, 0, 0, 0, 0, [])), (6, (.iconst 0, 7, 0, 0, 0, 0, 0, 0, [])), (7, (.putfield 165, 10, 0, 0, 0, 8, 21, 883, [])), (10, (.aload_n 0, 11, 0, 0, 0, 0, 0, 0, [])), (11, (.aload_n 0, 12, 0, 0, 0, 0, 0, 0, [])), (12, (.getfield 7, 15, 0, 0, 0, 8, 0, 862, [])), (15, (.putfield 126, 18, 0, 0, 0, 8, 22, 884, []))],
  [(18, (.aload_n 0, 19, 0, 0, 0, 0, 0, 0, [])), (19, (.aload_n 0, 20, 0, 0, 0, 0, 0, 0, [])), (20, (.getfield 70, 23, 0, 0, 0, 8, 7, 869, [])), (23, (.putfield 129, 26, 0, 0, 0, 8, 23, 885, [])), (26, (.aload_n 0, 27, 0, 0, 0, 0, 0, 0, [])), (27, (.aload_n 0, 28, 0, 0, 0, 0, 0, 0, [])), (28, (.getfield 168, 31, 0, 0, 0, 8, 9, 871, [])), (31, (.putfield 132, 34, 0, 0, 0, 8, 24, 886, []))],
  [(34, (.iconst 1, 35, 0, 1, 0, 0, 0, 0, [])), (35, (.istore_n 1, 36, 0, 0, 0, 0, 0, 0, [])), (36, (.iload_n 1, 37, 0, 0, 0, 0, 0, 0, [])), (37, (.ifCond .eq 61, 40, 98, 0, 0, 0, 0, 0, [])), (40, (.aload_n 0, 41, 0, 0, 0, 0, 0, 0, [])), (41, (.iconst 5, 42, 0, 5, 0, 0, 0, 0, [])), (42, (.aload_n 0, 43, 0, 0, 0, 0, 0, 0, [])), (43, (.getfield 165, 46, 0, 0, 0, 8, 21, 883, [])), (46, (.imul, 47, 0, 0, 0, 0, 0, 0, [])), (47, (.invokevirtual 171, 50, 0, 0, 0, 0, 0, 994, []))],
  [(50, (.ifCond .ne 5, 53, 55, 0, 0, 0, 0, 0, [])), (53, (.iconst 0, 54, 0, 0, 0, 0, 0, 0, [])), (54, (.ireturn, 55, 0, 0, 0, 0, 0, 0, [])), (55, (.aload_n 0, 56, 0, 0, 0, 0, 0, 0, [])), (56, (.dup, 57, 0, 0, 0, 0, 0, 0, [])), (57, (.getfield 165, 60, 0, 0, 0, 8, 21, 883, [])), (60, (.iconst 1, 61, 0, 1, 0, 0, 0, 0, [])), (61, (.iadd, 62, 0, 0, 0, 0, 0, 0, [])), (62, (.putfield 165, 65, 0, 0, 0, 8, 21, 883, []))],
  [(65, (.aload_n 0, 66, 0, 0, 0, 0, 0, 0, [])), (66, (.invokevirtual 116, 69, 0, 0, 0, 0, 0, 998, [])), (69, (.aload_n 0, 70, 0, 0, 0, 0, 0, 0, [])), (70, (.getfield 99, 73, 0, 0, 0, 8, 17, 879, [])), (73, (.ldc2_w 111, 76, 0, 0, -3, 0, 0, 1007, [])), (76, (.lcmp, 77, 0, 0, 0, 0, 0, 0, [])), (77, (.ifCond .ne 16, 80, 93, 0, 0, 0, 0, 0, []))],
  [(80, (.aload_n 0, 81, 0, 0, 0, 0, 0, 0, [])), (81, (.getfield 165, 84, 0, 0, 0, 8, 21, 883, [])), (84, (.bipush 10, 86, 0, 10, 0, 0, 0, 0, [])), (86, (.if_icmp .ge 7, 89, 93, 0, 0, 0, 0, 0, [])), (89, (.iconst 1, 90, 0, 1, 0, 0, 0, 0, [])), (90, (.goto 4, 93, 94, 0, 0, 0, 0, 0, [])), (93, (.iconst 0, 94, 0, 0, 0, 0, 0, 0, [])), (94, (.istore_n 1, 95, 0, 0, 0, 0, 0, 0, [])), (95, (.goto (-59), 98, 36, 0, 0, 0, 0, 0, []))],
  [(98, (.aload_n 0, 99, 0, 0, 0, 0, 0, 0, [])), (99, (.getfield 99, 102, 0, 0, 0, 8, 17, 879, [])), (102, (.ldc2_w 97, 105, 0, 0, -2, 0, 0, 1002, [])), (105, (.lcmp, 106, 0, 0, 0, 0, 0, 0, [])), (106, (.ifCond .eq 10, 109, 116, 0, 0, 0, 0, 0, [])), (109, (.aload_n 0, 110, 0, 0, 0, 0, 0, 0, [])), (110, (.invokevirtual 119, 113, 0, 0, 0, 0, 0, 1026, []))],
  [(113, (.ifCond .eq 7, 116, 120, 0, 0, 0, 0, 0, [])), (116, (.iconst 1, 117, 0, 1, 0, 0, 0, 0, [])), (117, (.goto 4, 120, 121, 0, 0, 0, 0, 0, [])), (120, (.iconst 0, 121, 0, 0, 0, 0, 0, 0, [])), (121, (.ireturn, 122, 0, 0, 0, 0, 0, 0, []))]])
set_option maxRecDepth 100000 in
theorem kX8_isRead : xMk mX8_isRead = true := by decide +kernel
set_option maxRecDepth 100000 in
theorem bX8_isRead : xcB mX8_isRead 0 0 = true := by decide +kernel
def mX8_fault : xM := (yX8_fault, cX8_fault, 1, (some .int), [
  [(0, (.aload_n 0, 1, 0, 0, 0, 0, 0, 0, [])), (1, (.invokevirtual 174, 4, 0, 0, 0, 0, 0, 990, [])), (4, (.ifCond .eq 7, 7, 11, 0, 0, 0, 0, 0, [])), (7, (.iconst (-1), 8, 0, -1, 0, 0, 0, 0, [])), (8, (.goto 7, 11, 15, 0, 0, 0, 0, 0, [])), (11, (.aload_n 0, 12, 0, 0, 0, 0, 0, 0, [])), (12, (.getfield 113, 15, 0, 0, 0, 8, 20, 882, [])), (15, (.ireturn, 16, 0, 0, 0, 0, 0, 0, []))]])
set_option maxRecDepth 100000 in
theorem kX8_fault : xMk mX8_fault = true := by decide +kernel
set_option maxRecDepth 100000 in
theorem bX8_fault : xcB mX8_fault 0 0 = true := by decide +kernel
def mX8_addMood : xM := (yX8_addMood, cX8_addMood, 4, none, [
  [(0, (.aload_n 0, 1, 0, 0, 0, 0, 0, 0, [])), (1, (.getfield 32, 4, 0, 0, 0, 8, 10, 872, [])), (4, (.iconst 3, 5, 0, 3, 0, 0, 0, 0, [])), (5, (.aload_n 0, 6, 0, 0, 0, 0, 0, 0, [])), (6, (.getfield 168, 9, 0, 0, 0, 8, 9, 871, [])), (9, (.imul, 10, 0, 0, 0, 0, 0, 0, [])), (10, (.iload_n 1, 11, 0, 0, 0, 0, 0, 0, [])), (11, (.iastore, 12, 0, 0, 0, 0, 0, 0, [])), (12, (.aload_n 0, 13, 0, 0, 0, 0, 0, 0, [])), (13, (.getfield 32, 16, 0, 0, 0, 8, 10, 872, []))],
  [(16, (.iconst 3, 17, 0, 3, 0, 0, 0, 0, [])), (17, (.aload_n 0, 18, 0, 0, 0, 0, 0, 0, [])), (18, (.getfield 168, 21, 0, 0, 0, 8, 9, 871, [])), (21, (.imul, 22, 0, 0, 0, 0, 0, 0, [])), (22, (.iconst 1, 23, 0, 1, 0, 0, 0, 0, [])), (23, (.iadd, 24, 0, 0, 0, 0, 0, 0, [])), (24, (.iload_n 2, 25, 0, 0, 0, 0, 0, 0, [])), (25, (.iastore, 26, 0, 0, 0, 0, 0, 0, [])), (26, (.aload_n 0, 27, 0, 0, 0, 0, 0, 0, [])), (27, (.getfield 32, 30, 0, 0, 0, 8, 10, 872, [])), (30, (.iconst 3, 31, 0, 3, 0, 0, 0, 0, [])), (31, (.aload_n 0, 32, 0, 0, 0, 0, 0, 0, []))],
  [(32, (.getfield 168, 35, 0, 0, 0, 8, 9, 871, [])), (35, (.imul, 36, 0, 0, 0, 0, 0, 0, [])), (36, (.iconst 2, 37, 0, 2, 0, 0, 0, 0, [])), (37, (.iadd, 38, 0, 0, 0, 0, 0, 0, [])), (38, (.iload_n 3, 39, 0, 0, 0, 0, 0, 0, [])), (39, (.iastore, 40, 0, 0, 0, 0, 0, 0, [])), (40, (.aload_n 0, 41, 0, 0, 0, 0, 0, 0, [])), (41, (.dup, 42, 0, 0, 0, 0, 0, 0, [])), (42, (.getfield 168, 45, 0, 0, 0, 8, 9, 871, [])), (45, (.iconst 1, 46, 0, 1, 0, 0, 0, 0, [])), (46, (.iadd, 47, 0, 0, 0, 0, 0, 0, [])), (47, (.putfield 168, 50, 0, 0, 0, 8, 9, 871, []))],
  [(50, (.return_, 51, 0, 0, 0, 0, 0, 0, []))]])
set_option maxRecDepth 100000 in
theorem kX8_addMood : xMk mX8_addMood = true := by decide +kernel
set_option maxRecDepth 100000 in
theorem bX8_addMood : xcB mX8_addMood 0 3 = true := by decide +kernel
def mX8_doLine : xM := (yX8_doLine, cX8_doLine, 5, none, [
  [(0, (.aload_n 0, 1, 0, 0, 0, 0, 0, 0, [])), (1, (.getfield 41, 4, 0, 0, 0, 8, 25, 887, [])), (4, (.iload_n 1, 5, 0, 0, 0, 0, 0, 0, [])), (5, (.iconst 1, 6, 0, 1, 0, 0, 0, 0, [])), (6, (.iadd, 7, 0, 0, 0, 0, 0, 0, [])), (7, (.iaload, 8, 0, 0, 0, 0, 0, 0, [])), (8, (.istore_n 2, 9, 0, 0, 0, 0, 0, 0, [])), (9, (.aload_n 0, 10, 0, 0, 0, 0, 0, 0, [])), (10, (.getfield 41, 13, 0, 0, 0, 8, 25, 887, [])), (13, (.iload_n 1, 14, 0, 0, 0, 0, 0, 0, [])), (14, (.iconst 2, 15, 0, 2, 0, 0, 0, 0, [])), (15, (.iadd, 16, 0, 0, 0, 0, 0, 0, []))],
  [(16, (.iaload, 17, 0, 0, 0, 0, 0, 0, [])), (17, (.istore_n 3, 18, 0, 0, 0, 0, 0, 0, [])), (18, (.aload_n 0, 19, 0, 0, 0, 0, 0, 0, [])), (19, (.getfield 41, 22, 0, 0, 0, 8, 25, 887, [])), (22, (.iload_n 1, 23, 0, 0, 0, 0, 0, 0, [])), (23, (.iaload, 24, 0, 0, 0, 0, 0, 0, [])), (24, (.tableswitch 210 0 9 #[56, 79, 92, 100, 108, 160, 210, 210, 210, 202], 80, 234, 0, 0, 0, 0, 0, [(0, 80), (1, 103), (2, 116), (3, 124), (4, 132), (5, 184), (6, 234), (7, 234), (8, 234), (9, 226)]))],
  [],
  [],
  [],
  [(80, (.aload_n 0, 81, 0, 0, 0, 0, 0, 0, [])), (81, (.iload_n 2, 82, 0, 0, 0, 0, 0, 0, [])), (82, (.putfield 7, 85, 0, 0, 0, 8, 0, 862, [])), (85, (.aload_n 0, 86, 0, 0, 0, 0, 0, 0, [])), (86, (.iconst 0, 87, 0, 0, 0, 0, 0, 0, [])), (87, (.putfield 77, 90, 0, 0, 0, 8, 5, 867, [])), (90, (.aload_n 0, 91, 0, 0, 0, 0, 0, 0, [])), (91, (.iconst 0, 92, 0, 0, 0, 0, 0, 0, [])), (92, (.putfield 70, 95, 0, 0, 0, 8, 7, 869, [])), (95, (.aload_n 0, 96, 0, 0, 0, 0, 0, 0, []))],
  [(96, (.iconst 0, 97, 0, 0, 0, 0, 0, 0, [])), (97, (.putfield 168, 100, 0, 0, 0, 8, 9, 871, [])), (100, (.goto 149, 103, 249, 0, 0, 0, 0, 0, [])), (103, (.aload_n 0, 104, 0, 0, 0, 0, 0, 0, [])), (104, (.iload_n 2, 105, 0, 0, 0, 0, 0, 0, [])), (105, (.putfield 13, 108, 0, 0, 0, 8, 1, 863, [])), (108, (.aload_n 0, 109, 0, 0, 0, 0, 0, 0, [])), (109, (.iload_n 3, 110, 0, 0, 0, 0, 0, 0, [])), (110, (.putfield 16, 113, 0, 0, 0, 8, 2, 864, []))],
  [(113, (.goto 136, 116, 249, 0, 0, 0, 0, 0, [])), (116, (.aload_n 0, 117, 0, 0, 0, 0, 0, 0, [])), (117, (.iload_n 2, 118, 0, 0, 0, 0, 0, 0, [])), (118, (.putfield 19, 121, 0, 0, 0, 8, 3, 865, [])), (121, (.goto 128, 124, 249, 0, 0, 0, 0, 0, [])), (124, (.aload_n 0, 125, 0, 0, 0, 0, 0, 0, [])), (125, (.iload_n 2, 126, 0, 0, 0, 0, 0, 0, [])), (126, (.putfield 22, 129, 0, 0, 0, 8, 4, 866, []))],
  [(129, (.goto 120, 132, 249, 0, 0, 0, 0, 0, [])), (132, (.aload_n 0, 133, 0, 0, 0, 0, 0, 0, [])), (133, (.aload_n 0, 134, 0, 0, 0, 0, 0, 0, [])), (134, (.getfield 77, 137, 0, 0, 0, 8, 5, 867, [])), (137, (.iconst 1, 138, 0, 1, 0, 0, 0, 0, [])), (138, (.iload_n 2, 139, 0, 0, 0, 0, 0, 0, [])), (139, (.ishl, 140, 0, 0, 0, 0, 0, 0, [])), (140, (.ior, 141, 0, 0, 0, 0, 0, 0, [])), (141, (.putfield 77, 144, 0, 0, 0, 8, 5, 867, []))],
  [(144, (.iconst 0, 145, 0, 0, 0, 0, 0, 0, [])), (145, (.istore 4, 147, 0, 0, 0, 0, 0, 0, [])), (147, (.iload 4, 149, 0, 0, 0, 0, 0, 0, [])), (149, (.iconst 3, 150, 0, 3, 0, 0, 0, 0, [])), (150, (.if_icmp .ge 31, 153, 181, 0, 0, 0, 0, 0, [])), (153, (.aload_n 0, 154, 0, 0, 0, 0, 0, 0, [])), (154, (.getfield 25, 157, 0, 0, 0, 8, 6, 868, [])), (157, (.iconst 3, 158, 0, 3, 0, 0, 0, 0, [])), (158, (.iload_n 2, 159, 0, 0, 0, 0, 0, 0, [])), (159, (.imul, 160, 0, 0, 0, 0, 0, 0, []))],
  [(160, (.iload 4, 162, 0, 0, 0, 0, 0, 0, [])), (162, (.iadd, 163, 0, 0, 0, 0, 0, 0, [])), (163, (.aload_n 0, 164, 0, 0, 0, 0, 0, 0, [])), (164, (.getfield 41, 167, 0, 0, 0, 8, 25, 887, [])), (167, (.iload_n 1, 168, 0, 0, 0, 0, 0, 0, [])), (168, (.iconst 2, 169, 0, 2, 0, 0, 0, 0, [])), (169, (.iadd, 170, 0, 0, 0, 0, 0, 0, [])), (170, (.iload 4, 172, 0, 0, 0, 0, 0, 0, [])), (172, (.iadd, 173, 0, 0, 0, 0, 0, 0, [])), (173, (.iaload, 174, 0, 0, 0, 0, 0, 0, [])), (174, (.iastore, 175, 0, 0, 0, 0, 0, 0, [])), (175, (.iinc 4 1, 178, 0, 1, 0, 0, 0, 0, []))],
  [(178, (.goto (-31), 181, 147, 0, 0, 0, 0, 0, [])), (181, (.goto 68, 184, 249, 0, 0, 0, 0, 0, [])), (184, (.aload_n 0, 185, 0, 0, 0, 0, 0, 0, [])), (185, (.aload_n 0, 186, 0, 0, 0, 0, 0, 0, [])), (186, (.getfield 70, 189, 0, 0, 0, 8, 7, 869, [])), (189, (.iconst 1, 190, 0, 1, 0, 0, 0, 0, [])), (190, (.iload_n 2, 191, 0, 0, 0, 0, 0, 0, [])), (191, (.ishl, 192, 0, 0, 0, 0, 0, 0, []))],
  [(192, (.ior, 193, 0, 0, 0, 0, 0, 0, [])), (193, (.putfield 70, 196, 0, 0, 0, 8, 7, 869, [])), (196, (.aload_n 0, 197, 0, 0, 0, 0, 0, 0, [])), (197, (.getfield 29, 200, 0, 0, 0, 8, 8, 870, [])), (200, (.iconst 2, 201, 0, 2, 0, 0, 0, 0, [])), (201, (.iload_n 2, 202, 0, 0, 0, 0, 0, 0, [])), (202, (.imul, 203, 0, 0, 0, 0, 0, 0, [])), (203, (.iload_n 3, 204, 0, 0, 0, 0, 0, 0, [])), (204, (.iastore, 205, 0, 0, 0, 0, 0, 0, [])), (205, (.aload_n 0, 206, 0, 0, 0, 0, 0, 0, [])), (206, (.getfield 29, 209, 0, 0, 0, 8, 8, 870, []))],
  [(209, (.iconst 2, 210, 0, 2, 0, 0, 0, 0, [])), (210, (.iload_n 2, 211, 0, 0, 0, 0, 0, 0, [])), (211, (.imul, 212, 0, 0, 0, 0, 0, 0, [])), (212, (.iconst 1, 213, 0, 1, 0, 0, 0, 0, [])), (213, (.iadd, 214, 0, 0, 0, 0, 0, 0, [])), (214, (.aload_n 0, 215, 0, 0, 0, 0, 0, 0, [])), (215, (.getfield 41, 218, 0, 0, 0, 8, 25, 887, [])), (218, (.iload_n 1, 219, 0, 0, 0, 0, 0, 0, [])), (219, (.iconst 3, 220, 0, 3, 0, 0, 0, 0, [])), (220, (.iadd, 221, 0, 0, 0, 0, 0, 0, [])), (221, (.iaload, 222, 0, 0, 0, 0, 0, 0, [])), (222, (.iastore, 223, 0, 0, 0, 0, 0, 0, [])), (223, (.goto 26, 226, 249, 0, 0, 0, 0, 0, []))],
  [(226, (.aload_n 0, 227, 0, 0, 0, 0, 0, 0, [])), (227, (.iconst 0, 228, 0, 0, 0, 0, 0, 0, [])), (228, (.putfield 168, 231, 0, 0, 0, 8, 9, 871, [])), (231, (.goto 18, 234, 249, 0, 0, 0, 0, 0, [])), (234, (.aload_n 0, 235, 0, 0, 0, 0, 0, 0, [])), (235, (.iload_n 2, 236, 0, 0, 0, 0, 0, 0, [])), (236, (.aload_n 0, 237, 0, 0, 0, 0, 0, 0, [])), (237, (.getfield 41, 240, 0, 0, 0, 8, 25, 887, []))],
  [(240, (.iload_n 1, 241, 0, 0, 0, 0, 0, 0, [])), (241, (.iaload, 242, 0, 0, 0, 0, 0, 0, [])), (242, (.bipush 6, 244, 0, 6, 0, 0, 0, 0, [])), (244, (.isub, 245, 0, 0, 0, 0, 0, 0, [])), (245, (.iload_n 3, 246, 0, 0, 0, 0, 0, 0, [])), (246, (.invokevirtual 177, 249, 0, 0, 0, 0, 0, 1049, [])), (249, (.return_, 250, 0, 0, 0, 0, 0, 0, []))]])
set_option maxRecDepth 100000 in
theorem kX8_doLine : xMk mX8_doLine = true := by decide +kernel
set_option maxRecDepth 100000 in
theorem bX8_doLine : xcB mX8_doLine 0 1 = true := by decide +kernel
def mX8_begin : xM := (yX8_begin, cX8_begin, 2, none, [
  [(0, (.aload_n 0, 1, 0, 0, 0, 0, 0, 0, [])), (1, (.getfield 44, 4, 0, 0, 0, 8, 26, 888, [])), (4, (.iconst 0, 5, 0, 0, 0, 0, 0, 0, [])), (5, (.iconst 0, 6, 0, 0, 0, 0, 0, 0, [])), (6, (.iastore, 7, 0, 0, 0, 0, 0, 0, [])), (7, (.iconst 0, 8, 0, 0, 0, 0, 0, 0, [])), (8, (.istore_n 1, 9, 0, 0, 0, 0, 0, 0, [])), (9, (.iload_n 1, 10, 0, 0, 0, 0, 0, 0, [])), (10, (.iconst 2, 11, 0, 2, 0, 0, 0, 0, [])), (11, (.if_icmp .ge 62, 14, 73, 0, 0, 0, 0, 0, [])), (14, (.aload_n 0, 15, 0, 0, 0, 0, 0, 0, [])), (15, (.getfield 44, 18, 0, 0, 0, 8, 26, 888, []))],
  [(18, (.iconst 1, 19, 0, 1, 0, 0, 0, 0, [])), (19, (.iload_n 1, 20, 0, 0, 0, 0, 0, 0, [])), (20, (.iadd, 21, 0, 0, 0, 0, 0, 0, [])), (21, (.aload_n 0, 22, 0, 0, 0, 0, 0, 0, [])), (22, (.getfield 25, 25, 0, 0, 0, 8, 6, 868, [])), (25, (.iconst 3, 26, 0, 3, 0, 0, 0, 0, [])), (26, (.iload_n 1, 27, 0, 0, 0, 0, 0, 0, [])), (27, (.imul, 28, 0, 0, 0, 0, 0, 0, [])), (28, (.iaload, 29, 0, 0, 0, 0, 0, 0, [])), (29, (.iastore, 30, 0, 0, 0, 0, 0, 0, [])), (30, (.aload_n 0, 31, 0, 0, 0, 0, 0, 0, [])), (31, (.getfield 44, 34, 0, 0, 0, 8, 26, 888, []))],
  [(34, (.iconst 3, 35, 0, 3, 0, 0, 0, 0, [])), (35, (.iload_n 1, 36, 0, 0, 0, 0, 0, 0, [])), (36, (.iadd, 37, 0, 0, 0, 0, 0, 0, [])), (37, (.aload_n 0, 38, 0, 0, 0, 0, 0, 0, [])), (38, (.getfield 25, 41, 0, 0, 0, 8, 6, 868, [])), (41, (.iconst 3, 42, 0, 3, 0, 0, 0, 0, [])), (42, (.iload_n 1, 43, 0, 0, 0, 0, 0, 0, [])), (43, (.imul, 44, 0, 0, 0, 0, 0, 0, [])), (44, (.iconst 2, 45, 0, 2, 0, 0, 0, 0, [])), (45, (.iadd, 46, 0, 0, 0, 0, 0, 0, [])), (46, (.iaload, 47, 0, 0, 0, 0, 0, 0, [])), (47, (.iastore, 48, 0, 0, 0, 0, 0, 0, []))],
  [(48, (.aload_n 0, 49, 0, 0, 0, 0, 0, 0, [])), (49, (.getfield 44, 52, 0, 0, 0, 8, 26, 888, [])), (52, (.iconst 5, 53, 0, 5, 0, 0, 0, 0, [])), (53, (.iload_n 1, 54, 0, 0, 0, 0, 0, 0, [])), (54, (.iadd, 55, 0, 0, 0, 0, 0, 0, [])), (55, (.iconst 0, 56, 0, 0, 0, 0, 0, 0, [])), (56, (.iastore, 57, 0, 0, 0, 0, 0, 0, [])), (57, (.aload_n 0, 58, 0, 0, 0, 0, 0, 0, [])), (58, (.getfield 44, 61, 0, 0, 0, 8, 26, 888, [])), (61, (.bipush 7, 63, 0, 7, 0, 0, 0, 0, [])), (63, (.iload_n 1, 64, 0, 0, 0, 0, 0, 0, []))],
  [(64, (.iadd, 65, 0, 0, 0, 0, 0, 0, [])), (65, (.iconst 0, 66, 0, 0, 0, 0, 0, 0, [])), (66, (.iastore, 67, 0, 0, 0, 0, 0, 0, [])), (67, (.iinc 1 1, 70, 0, 1, 0, 0, 0, 0, [])), (70, (.goto (-61), 73, 9, 0, 0, 0, 0, 0, [])), (73, (.iconst 0, 74, 0, 0, 0, 0, 0, 0, [])), (74, (.istore_n 1, 75, 0, 0, 0, 0, 0, 0, [])), (75, (.iload_n 1, 76, 0, 0, 0, 0, 0, 0, [])), (76, (.bipush 8, 78, 0, 8, 0, 0, 0, 0, [])), (78, (.if_icmp .ge 56, 81, 134, 0, 0, 0, 0, 0, []))],
  [(81, (.aload_n 0, 82, 0, 0, 0, 0, 0, 0, [])), (82, (.getfield 44, 85, 0, 0, 0, 8, 26, 888, [])), (85, (.bipush 9, 87, 0, 9, 0, 0, 0, 0, [])), (87, (.iload_n 1, 88, 0, 0, 0, 0, 0, 0, [])), (88, (.iadd, 89, 0, 0, 0, 0, 0, 0, [])), (89, (.aload_n 0, 90, 0, 0, 0, 0, 0, 0, [])), (90, (.getfield 29, 93, 0, 0, 0, 8, 8, 870, [])), (93, (.iconst 2, 94, 0, 2, 0, 0, 0, 0, [])), (94, (.iload_n 1, 95, 0, 0, 0, 0, 0, 0, [])), (95, (.imul, 96, 0, 0, 0, 0, 0, 0, []))],
  [(96, (.iaload, 97, 0, 0, 0, 0, 0, 0, [])), (97, (.iastore, 98, 0, 0, 0, 0, 0, 0, [])), (98, (.aload_n 0, 99, 0, 0, 0, 0, 0, 0, [])), (99, (.getfield 44, 102, 0, 0, 0, 8, 26, 888, [])), (102, (.bipush 17, 104, 0, 17, 0, 0, 0, 0, [])), (104, (.iload_n 1, 105, 0, 0, 0, 0, 0, 0, [])), (105, (.iadd, 106, 0, 0, 0, 0, 0, 0, [])), (106, (.iconst (-1), 107, 0, -1, 0, 0, 0, 0, [])), (107, (.iastore, 108, 0, 0, 0, 0, 0, 0, [])), (108, (.aload_n 0, 109, 0, 0, 0, 0, 0, 0, [])), (109, (.getfield 44, 112, 0, 0, 0, 8, 26, 888, []))],
  [(112, (.bipush 25, 114, 0, 25, 0, 0, 0, 0, [])), (114, (.iload_n 1, 115, 0, 0, 0, 0, 0, 0, [])), (115, (.iadd, 116, 0, 0, 0, 0, 0, 0, [])), (116, (.iconst (-1), 117, 0, -1, 0, 0, 0, 0, [])), (117, (.iastore, 118, 0, 0, 0, 0, 0, 0, [])), (118, (.aload_n 0, 119, 0, 0, 0, 0, 0, 0, [])), (119, (.getfield 44, 122, 0, 0, 0, 8, 26, 888, [])), (122, (.bipush 33, 124, 0, 33, 0, 0, 0, 0, [])), (124, (.iload_n 1, 125, 0, 0, 0, 0, 0, 0, [])), (125, (.iadd, 126, 0, 0, 0, 0, 0, 0, [])), (126, (.iconst 0, 127, 0, 0, 0, 0, 0, 0, [])), (127, (.iastore, 128, 0, 0, 0, 0, 0, 0, []))],
  [(128, (.iinc 1 1, 131, 0, 1, 0, 0, 0, 0, [])), (131, (.goto (-56), 134, 75, 0, 0, 0, 0, 0, [])), (134, (.iconst 0, 135, 0, 0, 0, 0, 0, 0, [])), (135, (.istore_n 1, 136, 0, 0, 0, 0, 0, 0, [])), (136, (.iload_n 1, 137, 0, 0, 0, 0, 0, 0, [])), (137, (.bipush 26, 139, 0, 26, 0, 0, 0, 0, [])), (139, (.if_icmp .ge 29, 142, 168, 0, 0, 0, 0, 0, [])), (142, (.aload_n 0, 143, 0, 0, 0, 0, 0, 0, [])), (143, (.getfield 44, 146, 0, 0, 0, 8, 26, 888, []))],
  [(146, (.bipush 41, 148, 0, 41, 0, 0, 0, 0, [])), (148, (.iload_n 1, 149, 0, 0, 0, 0, 0, 0, [])), (149, (.iadd, 150, 0, 0, 0, 0, 0, 0, [])), (150, (.iconst (-1), 151, 0, -1, 0, 0, 0, 0, [])), (151, (.iastore, 152, 0, 0, 0, 0, 0, 0, [])), (152, (.aload_n 0, 153, 0, 0, 0, 0, 0, 0, [])), (153, (.getfield 44, 156, 0, 0, 0, 8, 26, 888, [])), (156, (.bipush 67, 158, 0, 67, 0, 0, 0, 0, [])), (158, (.iload_n 1, 159, 0, 0, 0, 0, 0, 0, [])), (159, (.iadd, 160, 0, 0, 0, 0, 0, 0, []))],
  [(160, (.iconst 0, 161, 0, 0, 0, 0, 0, 0, [])), (161, (.iastore, 162, 0, 0, 0, 0, 0, 0, [])), (162, (.iinc 1 1, 165, 0, 1, 0, 0, 0, 0, [])), (165, (.goto (-29), 168, 136, 0, 0, 0, 0, 0, [])), (168, (.return_, 169, 0, 0, 0, 0, 0, 0, []))]])
set_option maxRecDepth 100000 in
theorem kX8_begin : xMk mX8_begin = true := by decide +kernel
set_option maxRecDepth 100000 in
theorem bX8_begin : xcB mX8_begin 0 0 = true := by decide +kernel
def mX8_rail : xM := (yX8_rail, cX8_rail, 2, (some .int), [
  [(0, (.aload_n 0, 1, 0, 0, 0, 0, 0, 0, [])), (1, (.invokevirtual 174, 4, 0, 0, 0, 0, 0, 990, [])), (4, (.ifCond .ne 6, 7, 10, 0, 0, 0, 0, 0, [])), (7, (.bipush (-4), 9, 0, -4, 0, 0, 0, 0, [])), (9, (.ireturn, 10, 0, 0, 0, 0, 0, 0, [])), (10, (.iconst 0, 11, 0, 0, 0, 0, 0, 0, [])), (11, (.istore_n 1, 12, 0, 0, 0, 0, 0, 0, [])), (12, (.iload_n 1, 13, 0, 0, 0, 0, 0, 0, [])), (13, (.aload_n 0, 14, 0, 0, 0, 0, 0, 0, [])), (14, (.getfield 165, 17, 0, 0, 0, 8, 21, 883, []))],
  [(17, (.if_icmp .ge 16, 20, 33, 0, 0, 0, 0, 0, [])), (20, (.aload_n 0, 21, 0, 0, 0, 0, 0, 0, [])), (21, (.iconst 5, 22, 0, 5, 0, 0, 0, 0, [])), (22, (.iload_n 1, 23, 0, 0, 0, 0, 0, 0, [])), (23, (.imul, 24, 0, 0, 0, 0, 0, 0, [])), (24, (.invokevirtual 181, 27, 0, 0, 0, 0, 0, 1045, [])), (27, (.iinc 1 1, 30, 0, 1, 0, 0, 0, 0, [])), (30, (.goto (-18), 33, 12, 0, 0, 0, 0, 0, []))],
  [(33, (.aload_n 0, 34, 0, 0, 0, 0, 0, 0, [])), (34, (.iconst 0, 35, 0, 0, 0, 0, 0, 0, [])), (35, (.putfield 80, 38, 0, 0, 0, 8, 13, 875, [])), (38, (.aload_n 0, 39, 0, 0, 0, 0, 0, 0, [])), (39, (.invokevirtual 63, 42, 0, 0, 0, 0, 0, 858, [])), (42, (.aload_n 0, 43, 0, 0, 0, 0, 0, 0, [])), (43, (.iconst 0, 44, 0, 0, 0, 0, 0, 0, [])), (44, (.putfield 185, 47, 0, 0, 0, 8, 11, 873, [])), (47, (.aload_n 0, 48, 0, 0, 0, 0, 0, 0, []))],
  [(48, (.getfield 53, 51, 0, 0, 0, 8, 29, 891, [])), (51, (.iconst 0, 52, 0, 0, 0, 0, 0, 0, [])), (52, (.iconst 0, 53, 0, 0, 0, 0, 0, 0, [])), (53, (.bastore, 54, 0, 0, 0, 0, 0, 0, [])), (54, (.aload_n 0, 55, 0, 0, 0, 0, 0, 0, [])), (55, (.getfield 53, 58, 0, 0, 0, 8, 29, 891, [])), (58, (.iconst 1, 59, 0, 1, 0, 0, 0, 0, [])), (59, (.iconst 0, 60, 0, 0, 0, 0, 0, 0, [])), (60, (.bastore, 61, 0, 0, 0, 0, 0, 0, [])), (61, (.aload_n 0, 62, 0, 0, 0, 0, 0, 0, [])), (62, (.getfield 165, 65, 0, 0, 0, 8, 21, 883, []))],
  [(65, (.ireturn, 66, 0, 0, 0, 0, 0, 0, []))]])
set_option maxRecDepth 100000 in
theorem kX8_rail : xMk mX8_rail = true := by decide +kernel
set_option maxRecDepth 100000 in
theorem bX8_rail : xcB mX8_rail 0 0 = true := by decide +kernel
end
section
/-! the rows of the methods of X8 -/
def mX8_mood : xM := (yX8_mood, cX8_mood, 3, (some .int), [
  [(0, (.iload_n 1, 1, 0, 0, 0, 0, 0, 0, [])), (1, (.iconst 0, 2, 0, 0, 0, 0, 0, 0, [])), (2, (.aload_n 0, 3, 0, 0, 0, 0, 0, 0, [])), (3, (.getfield 168, 6, 0, 0, 0, 8, 9, 871, [])), (6, (.iconst 1, 7, 0, 1, 0, 0, 0, 0, [])), (7, (.isub, 8, 0, 0, 0, 0, 0, 0, [])), (8, (.invokestatic 66, 11, 0, 0, 0, 0, 0, 978, [])), (11, (.ifCond .ne 6, 14, 17, 0, 0, 0, 0, 0, [])), (14, (.bipush (-2), 16, 0, -2, 0, 0, 0, 0, []))],
  [(16, (.ireturn, 17, 0, 0, 0, 0, 0, 0, [])), (17, (.iload_n 2, 18, 0, 0, 0, 0, 0, 0, [])), (18, (.tableswitch 65 0 4 #[34, 34, 34, 45, 55], 52, 83, 0, 0, 0, 0, 0, [(0, 52), (1, 52), (2, 52), (3, 63), (4, 73)]))],
  [],
  [(52, (.aload_n 0, 53, 0, 0, 0, 0, 0, 0, [])), (53, (.getfield 32, 56, 0, 0, 0, 8, 10, 872, [])), (56, (.iconst 3, 57, 0, 3, 0, 0, 0, 0, [])), (57, (.iload_n 1, 58, 0, 0, 0, 0, 0, 0, [])), (58, (.imul, 59, 0, 0, 0, 0, 0, 0, [])), (59, (.iload_n 2, 60, 0, 0, 0, 0, 0, 0, [])), (60, (.iadd, 61, 0, 0, 0, 0, 0, 0, [])), (61, (.iaload, 62, 0, 0, 0, 0, 0, 0, [])), (62, (.ireturn, 63, 0, 0, 0, 0, 0, 0, [])), (63, (.aload_n 0, 64, 0, 0, 0, 0, 0, 0, []))],
  [(64, (.getfield 44, 67, 0, 0, 0, 8, 26, 888, [])), (67, (.bipush 41, 69, 0, 41, 0, 0, 0, 0, [])), (69, (.iload_n 1, 70, 0, 0, 0, 0, 0, 0, [])), (70, (.iadd, 71, 0, 0, 0, 0, 0, 0, [])), (71, (.iaload, 72, 0, 0, 0, 0, 0, 0, [])), (72, (.ireturn, 73, 0, 0, 0, 0, 0, 0, [])), (73, (.aload_n 0, 74, 0, 0, 0, 0, 0, 0, [])), (74, (.getfield 44, 77, 0, 0, 0, 8, 26, 888, [])), (77, (.bipush 67, 79, 0, 67, 0, 0, 0, 0, [])), (79, (.iload_n 1, 80, 0, 0, 0, 0, 0, 0, []))],
  [(80, (.iadd, 81, 0, 0, 0, 0, 0, 0, [])), (81, (.iaload, 82, 0, 0, 0, 0, 0, 0, [])), (82, (.ireturn, 83, 0, 0, 0, 0, 0, 0, [])), (83, (.bipush (-3), 85, 0, -3, 0, 0, 0, 0, [])), (85, (.ireturn, 86, 0, 0, 0, 0, 0, 0, []))]])
set_option maxRecDepth 100000 in
theorem kX8_mood : xMk mX8_mood = true := by decide +kernel
set_option maxRecDepth 100000 in
theorem bX8_mood : xcB mX8_mood 0 2 = true := by decide +kernel
def mX8_personOf : xM := (yX8_personOf, cX8_personOf, 4, (some .int), [
  [(0, (.iload_n 1, 1, 0, 0, 0, 0, 0, 0, [])), (1, (.istore_n 2, 2, 0, 0, 0, 0, 0, 0, [])), (2, (.iconst 0, 3, 0, 0, 0, 0, 0, 0, [])), (3, (.istore_n 3, 4, 0, 0, 0, 0, 0, 0, [])), (4, (.iload_n 3, 5, 0, 0, 0, 0, 0, 0, [])), (5, (.bipush 8, 7, 0, 8, 0, 0, 0, 0, [])), (7, (.if_icmp .ge 29, 10, 36, 0, 0, 0, 0, 0, [])), (10, (.aload_n 0, 11, 0, 0, 0, 0, 0, 0, [])), (11, (.getfield 70, 14, 0, 0, 0, 8, 7, 869, [])), (14, (.iload_n 3, 15, 0, 0, 0, 0, 0, 0, [])), (15, (.invokestatic 73, 18, 0, 0, 0, 0, 0, 1038, []))],
  [(18, (.ifCond .eq 12, 21, 30, 0, 0, 0, 0, 0, [])), (21, (.iload_n 2, 22, 0, 0, 0, 0, 0, 0, [])), (22, (.ifCond .ne 5, 25, 27, 0, 0, 0, 0, 0, [])), (25, (.iload_n 3, 26, 0, 0, 0, 0, 0, 0, [])), (26, (.ireturn, 27, 0, 0, 0, 0, 0, 0, [])), (27, (.iinc 2 (-1), 30, 0, -1, 0, 0, 0, 0, [])), (30, (.iinc 3 1, 33, 0, 1, 0, 0, 0, 0, []))],
  [(33, (.goto (-29), 36, 4, 0, 0, 0, 0, 0, [])), (36, (.iconst (-1), 37, 0, -1, 0, 0, 0, 0, [])), (37, (.ireturn, 38, 0, 0, 0, 0, 0, 0, []))]])
set_option maxRecDepth 100000 in
theorem kX8_personOf : xMk mX8_personOf = true := by decide +kernel
set_option maxRecDepth 100000 in
theorem bX8_personOf : xcB mX8_personOf 0 1 = true := by decide +kernel
def mX8_drawn : xM := (yX8_drawn, cX8_drawn, 5, (some .int), [
  [(0, (.iload_n 1, 1, 0, 0, 0, 0, 0, 0, [])), (1, (.iconst 1, 2, 0, 1, 0, 0, 0, 0, [])), (2, (.sipush 9999, 5, 0, 9999, 0, 0, 0, 0, [])), (5, (.invokestatic 66, 8, 0, 0, 0, 0, 0, 978, [])), (8, (.ifCond .eq 13, 11, 21, 0, 0, 0, 0, 0, [])), (11, (.iload_n 2, 12, 0, 0, 0, 0, 0, 0, [])), (12, (.iconst 1, 13, 0, 1, 0, 0, 0, 0, [])), (13, (.bipush 24, 15, 0, 24, 0, 0, 0, 0, [])), (15, (.invokestatic 66, 18, 0, 0, 0, 0, 0, 978, []))],
  [(18, (.ifCond .ne 6, 21, 24, 0, 0, 0, 0, 0, [])), (21, (.bipush (-3), 23, 0, -3, 0, 0, 0, 0, [])), (23, (.ireturn, 24, 0, 0, 0, 0, 0, 0, [])), (24, (.aload_n 0, 25, 0, 0, 0, 0, 0, 0, [])), (25, (.getfield 44, 28, 0, 0, 0, 8, 26, 888, [])), (28, (.iconst 0, 29, 0, 0, 0, 0, 0, 0, [])), (29, (.iaload, 30, 0, 0, 0, 0, 0, 0, [])), (30, (.ifCond .gt 10, 33, 40, 0, 0, 0, 0, 0, []))],
  [(33, (.aload_n 0, 34, 0, 0, 0, 0, 0, 0, [])), (34, (.getfield 70, 37, 0, 0, 0, 8, 7, 869, [])), (37, (.ifCond .ne 6, 40, 43, 0, 0, 0, 0, 0, [])), (40, (.bipush (-4), 42, 0, -4, 0, 0, 0, 0, [])), (42, (.ireturn, 43, 0, 0, 0, 0, 0, 0, [])), (43, (.aload_n 0, 44, 0, 0, 0, 0, 0, 0, [])), (44, (.getfield 168, 47, 0, 0, 0, 8, 9, 871, [])), (47, (.iload_n 2, 48, 0, 0, 0, 0, 0, 0, []))],
  [(48, (.iadd, 49, 0, 0, 0, 0, 0, 0, [])), (49, (.bipush 24, 51, 0, 24, 0, 0, 0, 0, [])), (51, (.if_icmp .le 6, 54, 57, 0, 0, 0, 0, 0, [])), (54, (.bipush (-5), 56, 0, -5, 0, 0, 0, 0, [])), (56, (.ireturn, 57, 0, 0, 0, 0, 0, 0, [])), (57, (.iload_n 1, 58, 0, 0, 0, 0, 0, 0, [])), (58, (.istore_n 3, 59, 0, 0, 0, 0, 0, 0, [])), (59, (.iconst 0, 60, 0, 0, 0, 0, 0, 0, [])), (60, (.istore 4, 62, 0, 0, 0, 0, 0, 0, [])), (62, (.iload 4, 64, 0, 0, 0, 0, 0, 0, []))],
  [(64, (.iload_n 2, 65, 0, 0, 0, 0, 0, 0, [])), (65, (.if_icmp .ge 48, 68, 113, 0, 0, 0, 0, 0, [])), (68, (.sipush 16807, 71, 0, 16807, 0, 0, 0, 0, [])), (71, (.iload_n 3, 72, 0, 0, 0, 0, 0, 0, [])), (72, (.imul, 73, 0, 0, 0, 0, 0, 0, [])), (73, (.ldc 188, 75, 0, 65521, 0, 0, 0, 1061, [])), (75, (.irem, 76, 0, 0, 0, 0, 0, 0, [])), (76, (.istore_n 3, 77, 0, 0, 0, 0, 0, 0, [])), (77, (.aload_n 0, 78, 0, 0, 0, 0, 0, 0, [])), (78, (.aload_n 0, 79, 0, 0, 0, 0, 0, 0, [])), (79, (.iload_n 3, 80, 0, 0, 0, 0, 0, 0, []))],
  [(80, (.aload_n 0, 81, 0, 0, 0, 0, 0, 0, [])), (81, (.getfield 70, 84, 0, 0, 0, 8, 7, 869, [])), (84, (.invokestatic 189, 87, 0, 0, 0, 0, 0, 1062, [])), (87, (.irem, 88, 0, 0, 0, 0, 0, 0, [])), (88, (.invokevirtual 193, 91, 0, 0, 0, 0, 0, 1065, [])), (91, (.iload_n 3, 92, 0, 0, 0, 0, 0, 0, [])), (92, (.bipush 8, 94, 0, 8, 0, 0, 0, 0, [])), (94, (.idiv, 95, 0, 0, 0, 0, 0, 0, [])), (95, (.iconst 3, 96, 0, 3, 0, 0, 0, 0, []))],
  [(96, (.irem, 97, 0, 0, 0, 0, 0, 0, [])), (97, (.iload_n 3, 98, 0, 0, 0, 0, 0, 0, [])), (98, (.bipush 32, 100, 0, 32, 0, 0, 0, 0, [])), (100, (.idiv, 101, 0, 0, 0, 0, 0, 0, [])), (101, (.bipush 60, 103, 0, 60, 0, 0, 0, 0, [])), (103, (.irem, 104, 0, 0, 0, 0, 0, 0, [])), (104, (.invokevirtual 177, 107, 0, 0, 0, 0, 0, 1049, [])), (107, (.iinc 4 1, 110, 0, 1, 0, 0, 0, 0, [])), (110, (.goto (-48), 113, 62, 0, 0, 0, 0, 0, []))],
  [(113, (.aload_n 0, 114, 0, 0, 0, 0, 0, 0, [])), (114, (.getfield 53, 117, 0, 0, 0, 8, 29, 891, [])), (117, (.iconst 0, 118, 0, 0, 0, 0, 0, 0, [])), (118, (.iconst 0, 119, 0, 0, 0, 0, 0, 0, [])), (119, (.bastore, 120, 0, 0, 0, 0, 0, 0, [])), (120, (.aload_n 0, 121, 0, 0, 0, 0, 0, 0, [])), (121, (.getfield 53, 124, 0, 0, 0, 8, 29, 891, [])), (124, (.iconst 1, 125, 0, 1, 0, 0, 0, 0, [])), (125, (.iconst 0, 126, 0, 0, 0, 0, 0, 0, [])), (126, (.bastore, 127, 0, 0, 0, 0, 0, 0, [])), (127, (.aload_n 0, 128, 0, 0, 0, 0, 0, 0, []))],
  [(128, (.getfield 168, 131, 0, 0, 0, 8, 9, 871, [])), (131, (.ireturn, 132, 0, 0, 0, 0, 0, 0, []))]])
set_option maxRecDepth 100000 in
theorem kX8_drawn : xMk mX8_drawn = true := by decide +kernel
set_option maxRecDepth 100000 in
theorem bX8_drawn : xcB mX8_drawn 0 2 = true := by decide +kernel
def mX8_placeNow : xM := (yX8_placeNow, cX8_placeNow, 2, (some .int), [
  [(0, (.aload_n 0, 1, 0, 0, 0, 0, 0, 0, [])), (1, (.getfield 44, 4, 0, 0, 0, 8, 26, 888, [])), (4, (.bipush 17, 6, 0, 17, 0, 0, 0, 0, [])), (6, (.iload_n 1, 7, 0, 0, 0, 0, 0, 0, [])), (7, (.iadd, 8, 0, 0, 0, 0, 0, 0, [])), (8, (.iaload, 9, 0, 0, 0, 0, 0, 0, [])), (9, (.iconst (-1), 10, 0, -1, 0, 0, 0, 0, [])), (10, (.if_icmp .ne 15, 13, 25, 0, 0, 0, 0, 0, [])), (13, (.aload_n 0, 14, 0, 0, 0, 0, 0, 0, [])), (14, (.getfield 44, 17, 0, 0, 0, 8, 26, 888, []))],
  [(17, (.bipush 9, 19, 0, 9, 0, 0, 0, 0, [])), (19, (.iload_n 1, 20, 0, 0, 0, 0, 0, 0, [])), (20, (.iadd, 21, 0, 0, 0, 0, 0, 0, [])), (21, (.iaload, 22, 0, 0, 0, 0, 0, 0, [])), (22, (.goto 19, 25, 41, 0, 0, 0, 0, 0, [])), (25, (.aload_n 0, 26, 0, 0, 0, 0, 0, 0, [])), (26, (.getfield 44, 29, 0, 0, 0, 8, 26, 888, [])), (29, (.iconst 1, 30, 0, 1, 0, 0, 0, 0, [])), (30, (.aload_n 0, 31, 0, 0, 0, 0, 0, 0, [])), (31, (.getfield 44, 34, 0, 0, 0, 8, 26, 888, []))],
  [(34, (.bipush 17, 36, 0, 17, 0, 0, 0, 0, [])), (36, (.iload_n 1, 37, 0, 0, 0, 0, 0, 0, [])), (37, (.iadd, 38, 0, 0, 0, 0, 0, 0, [])), (38, (.iaload, 39, 0, 0, 0, 0, 0, 0, [])), (39, (.iadd, 40, 0, 0, 0, 0, 0, 0, [])), (40, (.iaload, 41, 0, 0, 0, 0, 0, 0, [])), (41, (.ireturn, 42, 0, 0, 0, 0, 0, 0, []))]])
set_option maxRecDepth 100000 in
theorem kX8_placeNow : xMk mX8_placeNow = true := by decide +kernel
set_option maxRecDepth 100000 in
theorem bX8_placeNow : xcB mX8_placeNow 0 1 = true := by decide +kernel
def mX8_causeOf : xM := (yX8_causeOf, cX8_causeOf, 5, (some .int), [
  [(0, (.iconst (-1), 1, 0, -1, 0, 0, 0, 0, [])), (1, (.istore_n 2, 2, 0, 0, 0, 0, 0, 0, [])), (2, (.iconst 0, 3, 0, 0, 0, 0, 0, 0, [])), (3, (.istore_n 3, 4, 0, 0, 0, 0, 0, 0, [])), (4, (.iload_n 3, 5, 0, 0, 0, 0, 0, 0, [])), (5, (.aload_n 0, 6, 0, 0, 0, 0, 0, 0, [])), (6, (.getfield 196, 9, 0, 0, 0, 8, 32, 894, [])), (9, (.if_icmp .ge 124, 12, 133, 0, 0, 0, 0, 0, [])), (12, (.aload_n 0, 13, 0, 0, 0, 0, 0, 0, [])), (13, (.getfield 44, 16, 0, 0, 0, 8, 26, 888, []))],
  [(16, (.bipush 41, 18, 0, 41, 0, 0, 0, 0, [])), (18, (.iload_n 3, 19, 0, 0, 0, 0, 0, 0, [])), (19, (.iadd, 20, 0, 0, 0, 0, 0, 0, [])), (20, (.iaload, 21, 0, 0, 0, 0, 0, 0, [])), (21, (.iload_n 1, 22, 0, 0, 0, 0, 0, 0, [])), (22, (.if_icmp .ne 63, 25, 85, 0, 0, 0, 0, 0, [])), (25, (.aload_n 0, 26, 0, 0, 0, 0, 0, 0, [])), (26, (.getfield 44, 29, 0, 0, 0, 8, 26, 888, [])), (29, (.bipush 67, 31, 0, 67, 0, 0, 0, 0, [])), (31, (.iload_n 3, 32, 0, 0, 0, 0, 0, 0, []))],
  [(32, (.iadd, 33, 0, 0, 0, 0, 0, 0, [])), (33, (.iaload, 34, 0, 0, 0, 0, 0, 0, [])), (34, (.ifCond .ne 51, 37, 85, 0, 0, 0, 0, 0, [])), (37, (.aload_n 0, 38, 0, 0, 0, 0, 0, 0, [])), (38, (.getfield 199, 41, 0, 0, 0, 8, 30, 892, [])), (41, (.aload_n 0, 42, 0, 0, 0, 0, 0, 0, [])), (42, (.getfield 32, 45, 0, 0, 0, 8, 10, 872, [])), (45, (.iconst 3, 46, 0, 3, 0, 0, 0, 0, [])), (46, (.iload_n 3, 47, 0, 0, 0, 0, 0, 0, [])), (47, (.imul, 48, 0, 0, 0, 0, 0, 0, []))],
  [(48, (.iconst 1, 49, 0, 1, 0, 0, 0, 0, [])), (49, (.iadd, 50, 0, 0, 0, 0, 0, 0, [])), (50, (.iaload, 51, 0, 0, 0, 0, 0, 0, [])), (51, (.invokestatic 73, 54, 0, 0, 0, 0, 0, 1038, [])), (54, (.ifCond .eq 31, 57, 85, 0, 0, 0, 0, 0, [])), (57, (.aload_n 0, 58, 0, 0, 0, 0, 0, 0, [])), (58, (.getfield 44, 61, 0, 0, 0, 8, 26, 888, [])), (61, (.iconst 0, 62, 0, 0, 0, 0, 0, 0, [])), (62, (.iaload, 63, 0, 0, 0, 0, 0, 0, [])), (63, (.aload_n 0, 64, 0, 0, 0, 0, 0, 0, []))],
  [(64, (.getfield 32, 67, 0, 0, 0, 8, 10, 872, [])), (67, (.iconst 3, 68, 0, 3, 0, 0, 0, 0, [])), (68, (.iload_n 3, 69, 0, 0, 0, 0, 0, 0, [])), (69, (.imul, 70, 0, 0, 0, 0, 0, 0, [])), (70, (.iconst 2, 71, 0, 2, 0, 0, 0, 0, [])), (71, (.iadd, 72, 0, 0, 0, 0, 0, 0, [])), (72, (.iaload, 73, 0, 0, 0, 0, 0, 0, [])), (73, (.isub, 74, 0, 0, 0, 0, 0, 0, [])), (74, (.aload_n 0, 75, 0, 0, 0, 0, 0, 0, [])), (75, (.getfield 202, 78, 0, 0, 0, 8, 31, 893, [])), (78, (.if_icmp .ge 7, 81, 85, 0, 0, 0, 0, 0, []))],
  [(81, (.iconst 1, 82, 0, 1, 0, 0, 0, 0, [])), (82, (.goto 4, 85, 86, 0, 0, 0, 0, 0, [])), (85, (.iconst 0, 86, 0, 0, 0, 0, 0, 0, [])), (86, (.istore 4, 88, 0, 0, 0, 0, 0, 0, [])), (88, (.iload 4, 90, 0, 0, 0, 0, 0, 0, [])), (90, (.ifCond .eq 35, 93, 125, 0, 0, 0, 0, 0, [])), (93, (.iload_n 2, 94, 0, 0, 0, 0, 0, 0, [])), (94, (.iconst (-1), 95, 0, -1, 0, 0, 0, 0, [])), (95, (.if_icmp .eq 26, 98, 121, 0, 0, 0, 0, 0, []))],
  [(98, (.aload_n 0, 99, 0, 0, 0, 0, 0, 0, [])), (99, (.getfield 32, 102, 0, 0, 0, 8, 10, 872, [])), (102, (.iconst 3, 103, 0, 3, 0, 0, 0, 0, [])), (103, (.iload_n 3, 104, 0, 0, 0, 0, 0, 0, [])), (104, (.imul, 105, 0, 0, 0, 0, 0, 0, [])), (105, (.iconst 2, 106, 0, 2, 0, 0, 0, 0, [])), (106, (.iadd, 107, 0, 0, 0, 0, 0, 0, [])), (107, (.iaload, 108, 0, 0, 0, 0, 0, 0, [])), (108, (.aload_n 0, 109, 0, 0, 0, 0, 0, 0, [])), (109, (.getfield 32, 112, 0, 0, 0, 8, 10, 872, []))],
  [(112, (.iconst 3, 113, 0, 3, 0, 0, 0, 0, [])), (113, (.iload_n 2, 114, 0, 0, 0, 0, 0, 0, [])), (114, (.imul, 115, 0, 0, 0, 0, 0, 0, [])), (115, (.iconst 2, 116, 0, 2, 0, 0, 0, 0, [])), (116, (.iadd, 117, 0, 0, 0, 0, 0, 0, [])), (117, (.iaload, 118, 0, 0, 0, 0, 0, 0, [])), (118, (.if_icmp .ge 7, 121, 125, 0, 0, 0, 0, 0, [])), (121, (.iload_n 3, 122, 0, 0, 0, 0, 0, 0, [])), (122, (.goto 4, 125, 126, 0, 0, 0, 0, 0, [])), (125, (.iload_n 2, 126, 0, 0, 0, 0, 0, 0, [])), (126, (.istore_n 2, 127, 0, 0, 0, 0, 0, 0, [])), (127, (.iinc 3 1, 130, 0, 1, 0, 0, 0, 0, []))],
  [(130, (.goto (-126), 133, 4, 0, 0, 0, 0, 0, [])), (133, (.iload_n 2, 134, 0, 0, 0, 0, 0, 0, [])), (134, (.ireturn, 135, 0, 0, 0, 0, 0, 0, []))]])
set_option maxRecDepth 100000 in
theorem kX8_causeOf : xMk mX8_causeOf = true := by decide +kernel
set_option maxRecDepth 100000 in
theorem bX8_causeOf : xcB mX8_causeOf 0 1 = true := by decide +kernel
def mX8_haltMany : xM := (yX8_haltMany, cX8_haltMany, 1, (some .int), [
  [(0, (.aload_n 0, 1, 0, 0, 0, 0, 0, 0, [])), (1, (.getfield 44, 4, 0, 0, 0, 8, 26, 888, [])), (4, (.bipush 7, 6, 0, 7, 0, 0, 0, 0, [])), (6, (.iaload, 7, 0, 0, 0, 0, 0, 0, [])), (7, (.aload_n 0, 8, 0, 0, 0, 0, 0, 0, [])), (8, (.getfield 44, 11, 0, 0, 0, 8, 26, 888, [])), (11, (.bipush 8, 13, 0, 8, 0, 0, 0, 0, [])), (13, (.iaload, 14, 0, 0, 0, 0, 0, 0, [])), (14, (.iadd, 15, 0, 0, 0, 0, 0, 0, [])), (15, (.ireturn, 16, 0, 0, 0, 0, 0, 0, []))]])
set_option maxRecDepth 100000 in
theorem kX8_haltMany : xMk mX8_haltMany = true := by decide +kernel
set_option maxRecDepth 100000 in
theorem bX8_haltMany : xcB mX8_haltMany 0 0 = true := by decide +kernel
def mX8_haltBy : xM := (yX8_haltBy, cX8_haltBy, 7, none, [
  [(0, (.bipush 93, 2, 0, 93, 0, 0, 0, 0, [])), (2, (.iconst 4, 3, 0, 4, 0, 0, 0, 0, [])), (3, (.aload_n 0, 4, 0, 0, 0, 0, 0, 0, [])), (4, (.invokevirtual 205, 7, 0, 0, 0, 0, 0, 1097, [])), (7, (.imul, 8, 0, 0, 0, 0, 0, 0, [])), (8, (.iadd, 9, 0, 0, 0, 0, 0, 0, [])), (9, (.istore_n 3, 10, 0, 0, 0, 0, 0, 0, [])), (10, (.aload_n 0, 11, 0, 0, 0, 0, 0, 0, [])), (11, (.getfield 44, 14, 0, 0, 0, 8, 26, 888, [])), (14, (.iload_n 3, 15, 0, 0, 0, 0, 0, 0, [])), (15, (.iload_n 1, 16, 0, 0, 0, 0, 0, 0, []))],
  [(16, (.iastore, 17, 0, 0, 0, 0, 0, 0, [])), (17, (.aload_n 0, 18, 0, 0, 0, 0, 0, 0, [])), (18, (.getfield 44, 21, 0, 0, 0, 8, 26, 888, [])), (21, (.iload_n 3, 22, 0, 0, 0, 0, 0, 0, [])), (22, (.iconst 1, 23, 0, 1, 0, 0, 0, 0, [])), (23, (.iadd, 24, 0, 0, 0, 0, 0, 0, [])), (24, (.aload_n 0, 25, 0, 0, 0, 0, 0, 0, [])), (25, (.getfield 44, 28, 0, 0, 0, 8, 26, 888, [])), (28, (.iconst 1, 29, 0, 1, 0, 0, 0, 0, [])), (29, (.iload_n 1, 30, 0, 0, 0, 0, 0, 0, [])), (30, (.iadd, 31, 0, 0, 0, 0, 0, 0, [])), (31, (.iaload, 32, 0, 0, 0, 0, 0, 0, []))],
  [(32, (.iastore, 33, 0, 0, 0, 0, 0, 0, [])), (33, (.aload_n 0, 34, 0, 0, 0, 0, 0, 0, [])), (34, (.getfield 44, 37, 0, 0, 0, 8, 26, 888, [])), (37, (.iload_n 3, 38, 0, 0, 0, 0, 0, 0, [])), (38, (.iconst 2, 39, 0, 2, 0, 0, 0, 0, [])), (39, (.iadd, 40, 0, 0, 0, 0, 0, 0, [])), (40, (.aload_n 0, 41, 0, 0, 0, 0, 0, 0, [])), (41, (.getfield 44, 44, 0, 0, 0, 8, 26, 888, [])), (44, (.iconst 0, 45, 0, 0, 0, 0, 0, 0, [])), (45, (.iaload, 46, 0, 0, 0, 0, 0, 0, [])), (46, (.iastore, 47, 0, 0, 0, 0, 0, 0, [])), (47, (.aload_n 0, 48, 0, 0, 0, 0, 0, 0, []))],
  [(48, (.getfield 44, 51, 0, 0, 0, 8, 26, 888, [])), (51, (.iload_n 3, 52, 0, 0, 0, 0, 0, 0, [])), (52, (.iconst 3, 53, 0, 3, 0, 0, 0, 0, [])), (53, (.iadd, 54, 0, 0, 0, 0, 0, 0, [])), (54, (.iload_n 2, 55, 0, 0, 0, 0, 0, 0, [])), (55, (.iastore, 56, 0, 0, 0, 0, 0, 0, [])), (56, (.aload_n 0, 57, 0, 0, 0, 0, 0, 0, [])), (57, (.getfield 44, 60, 0, 0, 0, 8, 26, 888, [])), (60, (.bipush 7, 62, 0, 7, 0, 0, 0, 0, [])), (62, (.iload_n 1, 63, 0, 0, 0, 0, 0, 0, [])), (63, (.iadd, 64, 0, 0, 0, 0, 0, 0, []))],
  [(64, (.dup2, 65, 0, 0, 0, 0, 0, 0, [])), (65, (.iaload, 66, 0, 0, 0, 0, 0, 0, [])), (66, (.iconst 1, 67, 0, 1, 0, 0, 0, 0, [])), (67, (.iadd, 68, 0, 0, 0, 0, 0, 0, [])), (68, (.iastore, 69, 0, 0, 0, 0, 0, 0, [])), (69, (.aload_n 0, 70, 0, 0, 0, 0, 0, 0, [])), (70, (.getfield 44, 73, 0, 0, 0, 8, 26, 888, [])), (73, (.iconst 5, 74, 0, 5, 0, 0, 0, 0, [])), (74, (.iload_n 1, 75, 0, 0, 0, 0, 0, 0, [])), (75, (.iadd, 76, 0, 0, 0, 0, 0, 0, [])), (76, (.iconst 1, 77, 0, 1, 0, 0, 0, 0, [])), (77, (.iastore, 78, 0, 0, 0, 0, 0, 0, [])), (78, (.aload_n 0, 79, 0, 0, 0, 0, 0, 0, [])), (79, (.getfield 44, 82, 0, 0, 0, 8, 26, 888, []))],
  [(82, (.bipush 67, 84, 0, 67, 0, 0, 0, 0, [])), (84, (.iload_n 2, 85, 0, 0, 0, 0, 0, 0, [])), (85, (.iadd, 86, 0, 0, 0, 0, 0, 0, [])), (86, (.iconst 1, 87, 0, 1, 0, 0, 0, 0, [])), (87, (.iastore, 88, 0, 0, 0, 0, 0, 0, [])), (88, (.iconst 0, 89, 0, 0, 0, 0, 0, 0, [])), (89, (.istore 4, 91, 0, 0, 0, 0, 0, 0, [])), (91, (.iconst 0, 92, 0, 0, 0, 0, 0, 0, [])), (92, (.istore 5, 94, 0, 0, 0, 0, 0, 0, [])), (94, (.iload 5, 96, 0, 0, 0, 0, 0, 0, []))],
  [(96, (.bipush 8, 98, 0, 8, 0, 0, 0, 0, [])), (98, (.if_icmp .ge 160, 101, 258, 0, 0, 0, 0, 0, [])), (101, (.aload_n 0, 102, 0, 0, 0, 0, 0, 0, [])), (102, (.getfield 70, 105, 0, 0, 0, 8, 7, 869, [])), (105, (.iload 5, 107, 0, 0, 0, 0, 0, 0, [])), (107, (.invokestatic 73, 110, 0, 0, 0, 0, 0, 1038, [])), (110, (.ifCond .eq 142, 113, 252, 0, 0, 0, 0, 0, []))],
  [(113, (.aload_n 0, 114, 0, 0, 0, 0, 0, 0, [])), (114, (.getfield 44, 117, 0, 0, 0, 8, 26, 888, [])), (117, (.bipush 17, 119, 0, 17, 0, 0, 0, 0, [])), (119, (.iload 5, 121, 0, 0, 0, 0, 0, 0, [])), (121, (.iadd, 122, 0, 0, 0, 0, 0, 0, [])), (122, (.iaload, 123, 0, 0, 0, 0, 0, 0, [])), (123, (.iload_n 1, 124, 0, 0, 0, 0, 0, 0, [])), (124, (.if_icmp .ne 128, 127, 252, 0, 0, 0, 0, 0, [])), (127, (.aload_n 0, 128, 0, 0, 0, 0, 0, 0, []))],
  [(128, (.getfield 29, 131, 0, 0, 0, 8, 8, 870, [])), (131, (.iconst 2, 132, 0, 2, 0, 0, 0, 0, [])), (132, (.iload 5, 134, 0, 0, 0, 0, 0, 0, [])), (134, (.imul, 135, 0, 0, 0, 0, 0, 0, [])), (135, (.iconst 1, 136, 0, 1, 0, 0, 0, 0, [])), (136, (.iadd, 137, 0, 0, 0, 0, 0, 0, [])), (137, (.iaload, 138, 0, 0, 0, 0, 0, 0, [])), (138, (.aload_n 0, 139, 0, 0, 0, 0, 0, 0, [])), (139, (.getfield 44, 142, 0, 0, 0, 8, 26, 888, [])), (142, (.iconst 1, 143, 0, 1, 0, 0, 0, 0, [])), (143, (.iload_n 1, 144, 0, 0, 0, 0, 0, 0, []))],
  [(144, (.iadd, 145, 0, 0, 0, 0, 0, 0, [])), (145, (.iaload, 146, 0, 0, 0, 0, 0, 0, [])), (146, (.if_icmp .ne 7, 149, 153, 0, 0, 0, 0, 0, [])), (149, (.iconst 1, 150, 0, 1, 0, 0, 0, 0, [])), (150, (.goto 4, 153, 154, 0, 0, 0, 0, 0, [])), (153, (.iconst 0, 154, 0, 0, 0, 0, 0, 0, [])), (154, (.istore 6, 156, 0, 0, 0, 0, 0, 0, [])), (156, (.aload_n 0, 157, 0, 0, 0, 0, 0, 0, [])), (157, (.getfield 44, 160, 0, 0, 0, 8, 26, 888, []))],
  [(160, (.bipush 9, 162, 0, 9, 0, 0, 0, 0, [])), (162, (.iload 5, 164, 0, 0, 0, 0, 0, 0, [])), (164, (.iadd, 165, 0, 0, 0, 0, 0, 0, [])), (165, (.iload 6, 167, 0, 0, 0, 0, 0, 0, [])), (167, (.ifCond .eq 14, 170, 181, 0, 0, 0, 0, 0, [])), (170, (.aload_n 0, 171, 0, 0, 0, 0, 0, 0, [])), (171, (.getfield 44, 174, 0, 0, 0, 8, 26, 888, [])), (174, (.iconst 1, 175, 0, 1, 0, 0, 0, 0, [])), (175, (.iload_n 1, 176, 0, 0, 0, 0, 0, 0, []))],
  [(176, (.iadd, 177, 0, 0, 0, 0, 0, 0, [])), (177, (.iaload, 178, 0, 0, 0, 0, 0, 0, [])), (178, (.goto 13, 181, 191, 0, 0, 0, 0, 0, [])), (181, (.aload_n 0, 182, 0, 0, 0, 0, 0, 0, [])), (182, (.getfield 44, 185, 0, 0, 0, 8, 26, 888, [])), (185, (.bipush 9, 187, 0, 9, 0, 0, 0, 0, [])), (187, (.iload 5, 189, 0, 0, 0, 0, 0, 0, [])), (189, (.iadd, 190, 0, 0, 0, 0, 0, 0, [])), (190, (.iaload, 191, 0, 0, 0, 0, 0, 0, [])), (191, (.iastore, 192, 0, 0, 0, 0, 0, 0, []))],
  [(192, (.aload_n 0, 193, 0, 0, 0, 0, 0, 0, [])), (193, (.getfield 44, 196, 0, 0, 0, 8, 26, 888, [])), (196, (.bipush 25, 198, 0, 25, 0, 0, 0, 0, [])), (198, (.iload 5, 200, 0, 0, 0, 0, 0, 0, [])), (200, (.iadd, 201, 0, 0, 0, 0, 0, 0, [])), (201, (.iload 6, 203, 0, 0, 0, 0, 0, 0, [])), (203, (.ifCond .eq 12, 206, 215, 0, 0, 0, 0, 0, [])), (206, (.aload_n 0, 207, 0, 0, 0, 0, 0, 0, [])), (207, (.getfield 44, 210, 0, 0, 0, 8, 26, 888, []))],
  [(210, (.iconst 0, 211, 0, 0, 0, 0, 0, 0, [])), (211, (.iaload, 212, 0, 0, 0, 0, 0, 0, [])), (212, (.goto 4, 215, 216, 0, 0, 0, 0, 0, [])), (215, (.iconst (-1), 216, 0, -1, 0, 0, 0, 0, [])), (216, (.iastore, 217, 0, 0, 0, 0, 0, 0, [])), (217, (.aload_n 0, 218, 0, 0, 0, 0, 0, 0, [])), (218, (.getfield 44, 221, 0, 0, 0, 8, 26, 888, [])), (221, (.bipush 17, 223, 0, 17, 0, 0, 0, 0, [])), (223, (.iload 5, 225, 0, 0, 0, 0, 0, 0, []))],
  [(225, (.iadd, 226, 0, 0, 0, 0, 0, 0, [])), (226, (.iload 6, 228, 0, 0, 0, 0, 0, 0, [])), (228, (.ifCond .eq 7, 231, 235, 0, 0, 0, 0, 0, [])), (231, (.iconst (-1), 232, 0, -1, 0, 0, 0, 0, [])), (232, (.goto 4, 235, 236, 0, 0, 0, 0, 0, [])), (235, (.iload_n 1, 236, 0, 0, 0, 0, 0, 0, [])), (236, (.iastore, 237, 0, 0, 0, 0, 0, 0, [])), (237, (.iload 4, 239, 0, 0, 0, 0, 0, 0, [])), (239, (.iload 6, 241, 0, 0, 0, 0, 0, 0, []))],
  [(241, (.ifCond .eq 7, 244, 248, 0, 0, 0, 0, 0, [])), (244, (.iconst 0, 245, 0, 0, 0, 0, 0, 0, [])), (245, (.goto 4, 248, 249, 0, 0, 0, 0, 0, [])), (248, (.iconst 1, 249, 0, 1, 0, 0, 0, 0, [])), (249, (.iadd, 250, 0, 0, 0, 0, 0, 0, [])), (250, (.istore 4, 252, 0, 0, 0, 0, 0, 0, [])), (252, (.iinc 5 1, 255, 0, 1, 0, 0, 0, 0, [])), (255, (.goto (-161), 258, 94, 0, 0, 0, 0, 0, []))],
  [(258, (.iconst 0, 259, 0, 0, 0, 0, 0, 0, [])), (259, (.istore 5, 261, 0, 0, 0, 0, 0, 0, [])), (261, (.iload 5, 263, 0, 0, 0, 0, 0, 0, [])), (263, (.bipush 8, 265, 0, 8, 0, 0, 0, 0, [])), (265, (.if_icmp .ge 93, 268, 358, 0, 0, 0, 0, 0, [])), (268, (.aload_n 0, 269, 0, 0, 0, 0, 0, 0, [])), (269, (.getfield 70, 272, 0, 0, 0, 8, 7, 869, []))],
  [(272, (.iload 5, 274, 0, 0, 0, 0, 0, 0, [])), (274, (.invokestatic 73, 277, 0, 0, 0, 0, 0, 1038, [])), (277, (.ifCond .eq 75, 280, 352, 0, 0, 0, 0, 0, [])), (280, (.aload_n 0, 281, 0, 0, 0, 0, 0, 0, [])), (281, (.getfield 44, 284, 0, 0, 0, 8, 26, 888, [])), (284, (.bipush 17, 286, 0, 17, 0, 0, 0, 0, [])), (286, (.iload 5, 288, 0, 0, 0, 0, 0, 0, []))],
  [(288, (.iadd, 289, 0, 0, 0, 0, 0, 0, [])), (289, (.iaload, 290, 0, 0, 0, 0, 0, 0, [])), (290, (.iconst (-1), 291, 0, -1, 0, 0, 0, 0, [])), (291, (.if_icmp .ne 61, 294, 352, 0, 0, 0, 0, 0, [])), (294, (.aload_n 0, 295, 0, 0, 0, 0, 0, 0, [])), (295, (.getfield 44, 298, 0, 0, 0, 8, 26, 888, [])), (298, (.bipush 25, 300, 0, 25, 0, 0, 0, 0, [])), (300, (.iload 5, 302, 0, 0, 0, 0, 0, 0, [])), (302, (.iadd, 303, 0, 0, 0, 0, 0, 0, [])), (303, (.iaload, 304, 0, 0, 0, 0, 0, 0, []))],
  [(304, (.iconst (-1), 305, 0, -1, 0, 0, 0, 0, [])), (305, (.if_icmp .ne 47, 308, 352, 0, 0, 0, 0, 0, [])), (308, (.aload_n 0, 309, 0, 0, 0, 0, 0, 0, [])), (309, (.getfield 44, 312, 0, 0, 0, 8, 26, 888, [])), (312, (.bipush 9, 314, 0, 9, 0, 0, 0, 0, [])), (314, (.iload 5, 316, 0, 0, 0, 0, 0, 0, [])), (316, (.iadd, 317, 0, 0, 0, 0, 0, 0, [])), (317, (.iaload, 318, 0, 0, 0, 0, 0, 0, [])), (318, (.aload_n 0, 319, 0, 0, 0, 0, 0, 0, [])), (319, (.getfield 44, 322, 0, 0, 0, 8, 26, 888, []))],
  [(322, (.iconst 1, 323, 0, 1, 0, 0, 0, 0, [])), (323, (.iload_n 1, 324, 0, 0, 0, 0, 0, 0, [])), (324, (.iadd, 325, 0, 0, 0, 0, 0, 0, [])), (325, (.iaload, 326, 0, 0, 0, 0, 0, 0, [])), (326, (.if_icmp .ne 26, 329, 352, 0, 0, 0, 0, 0, [])), (329, (.iload 4, 331, 0, 0, 0, 0, 0, 0, [])), (331, (.aload_n 0, 332, 0, 0, 0, 0, 0, 0, [])), (332, (.getfield 19, 335, 0, 0, 0, 8, 3, 865, [])), (335, (.if_icmp .ge 17, 338, 352, 0, 0, 0, 0, 0, []))],
  [(338, (.aload_n 0, 339, 0, 0, 0, 0, 0, 0, [])), (339, (.getfield 44, 342, 0, 0, 0, 8, 26, 888, [])), (342, (.bipush 17, 344, 0, 17, 0, 0, 0, 0, [])), (344, (.iload 5, 346, 0, 0, 0, 0, 0, 0, [])), (346, (.iadd, 347, 0, 0, 0, 0, 0, 0, [])), (347, (.iload_n 1, 348, 0, 0, 0, 0, 0, 0, [])), (348, (.iastore, 349, 0, 0, 0, 0, 0, 0, [])), (349, (.iinc 4 1, 352, 0, 1, 0, 0, 0, 0, []))],
  [(352, (.iinc 5 1, 355, 0, 1, 0, 0, 0, 0, [])), (355, (.goto (-94), 358, 261, 0, 0, 0, 0, 0, [])), (358, (.return_, 359, 0, 0, 0, 0, 0, 0, []))]])
set_option maxRecDepth 100000 in
theorem kX8_haltBy : xMk mX8_haltBy = true := by decide +kernel
set_option maxRecDepth 100000 in
theorem bX8_haltBy : xcB mX8_haltBy 0 2 = true := by decide +kernel
def mX8_goOn : xM := (yX8_goOn, cX8_goOn, 4, none, [
  [(0, (.aload_n 0, 1, 0, 0, 0, 0, 0, 0, [])), (1, (.getfield 44, 4, 0, 0, 0, 8, 26, 888, [])), (4, (.iconst 3, 5, 0, 3, 0, 0, 0, 0, [])), (5, (.iload_n 1, 6, 0, 0, 0, 0, 0, 0, [])), (6, (.iadd, 7, 0, 0, 0, 0, 0, 0, [])), (7, (.iaload, 8, 0, 0, 0, 0, 0, 0, [])), (8, (.ifCond .ne 28, 11, 36, 0, 0, 0, 0, 0, [])), (11, (.aload_n 0, 12, 0, 0, 0, 0, 0, 0, [])), (12, (.getfield 44, 15, 0, 0, 0, 8, 26, 888, [])), (15, (.iconst 1, 16, 0, 1, 0, 0, 0, 0, []))],
  [(16, (.iload_n 1, 17, 0, 0, 0, 0, 0, 0, [])), (17, (.iadd, 18, 0, 0, 0, 0, 0, 0, [])), (18, (.iaload, 19, 0, 0, 0, 0, 0, 0, [])), (19, (.aload_n 0, 20, 0, 0, 0, 0, 0, 0, [])), (20, (.getfield 7, 23, 0, 0, 0, 8, 0, 862, [])), (23, (.iconst 1, 24, 0, 1, 0, 0, 0, 0, [])), (24, (.isub, 25, 0, 0, 0, 0, 0, 0, [])), (25, (.if_icmp .ne 7, 28, 32, 0, 0, 0, 0, 0, [])), (28, (.iconst 1, 29, 0, 1, 0, 0, 0, 0, [])), (29, (.goto 23, 32, 52, 0, 0, 0, 0, 0, []))],
  [(32, (.iconst 0, 33, 0, 0, 0, 0, 0, 0, [])), (33, (.goto 19, 36, 52, 0, 0, 0, 0, 0, [])), (36, (.aload_n 0, 37, 0, 0, 0, 0, 0, 0, [])), (37, (.getfield 44, 40, 0, 0, 0, 8, 26, 888, [])), (40, (.iconst 1, 41, 0, 1, 0, 0, 0, 0, [])), (41, (.iload_n 1, 42, 0, 0, 0, 0, 0, 0, [])), (42, (.iadd, 43, 0, 0, 0, 0, 0, 0, [])), (43, (.iaload, 44, 0, 0, 0, 0, 0, 0, [])), (44, (.ifCond .ne 7, 47, 51, 0, 0, 0, 0, 0, [])), (47, (.iconst 1, 48, 0, 1, 0, 0, 0, 0, []))],
  [(48, (.goto 4, 51, 52, 0, 0, 0, 0, 0, [])), (51, (.iconst 0, 52, 0, 0, 0, 0, 0, 0, [])), (52, (.istore_n 2, 53, 0, 0, 0, 0, 0, 0, [])), (53, (.aload_n 0, 54, 0, 0, 0, 0, 0, 0, [])), (54, (.getfield 44, 57, 0, 0, 0, 8, 26, 888, [])), (57, (.iconst 3, 58, 0, 3, 0, 0, 0, 0, [])), (58, (.iload_n 1, 59, 0, 0, 0, 0, 0, 0, [])), (59, (.iadd, 60, 0, 0, 0, 0, 0, 0, [])), (60, (.iload_n 2, 61, 0, 0, 0, 0, 0, 0, [])), (61, (.ifCond .eq 16, 64, 77, 0, 0, 0, 0, 0, []))],
  [(64, (.iconst 1, 65, 0, 1, 0, 0, 0, 0, [])), (65, (.aload_n 0, 66, 0, 0, 0, 0, 0, 0, [])), (66, (.getfield 44, 69, 0, 0, 0, 8, 26, 888, [])), (69, (.iconst 3, 70, 0, 3, 0, 0, 0, 0, [])), (70, (.iload_n 1, 71, 0, 0, 0, 0, 0, 0, [])), (71, (.iadd, 72, 0, 0, 0, 0, 0, 0, [])), (72, (.iaload, 73, 0, 0, 0, 0, 0, 0, [])), (73, (.isub, 74, 0, 0, 0, 0, 0, 0, [])), (74, (.goto 11, 77, 85, 0, 0, 0, 0, 0, [])), (77, (.aload_n 0, 78, 0, 0, 0, 0, 0, 0, [])), (78, (.getfield 44, 81, 0, 0, 0, 8, 26, 888, []))],
  [(81, (.iconst 3, 82, 0, 3, 0, 0, 0, 0, [])), (82, (.iload_n 1, 83, 0, 0, 0, 0, 0, 0, [])), (83, (.iadd, 84, 0, 0, 0, 0, 0, 0, [])), (84, (.iaload, 85, 0, 0, 0, 0, 0, 0, [])), (85, (.iastore, 86, 0, 0, 0, 0, 0, 0, [])), (86, (.aload_n 0, 87, 0, 0, 0, 0, 0, 0, [])), (87, (.getfield 44, 90, 0, 0, 0, 8, 26, 888, [])), (90, (.iconst 1, 91, 0, 1, 0, 0, 0, 0, [])), (91, (.iload_n 1, 92, 0, 0, 0, 0, 0, 0, [])), (92, (.iadd, 93, 0, 0, 0, 0, 0, 0, [])), (93, (.dup2, 94, 0, 0, 0, 0, 0, 0, [])), (94, (.iaload, 95, 0, 0, 0, 0, 0, 0, [])), (95, (.aload_n 0, 96, 0, 0, 0, 0, 0, 0, []))],
  [(96, (.getfield 44, 99, 0, 0, 0, 8, 26, 888, [])), (99, (.iconst 3, 100, 0, 3, 0, 0, 0, 0, [])), (100, (.iload_n 1, 101, 0, 0, 0, 0, 0, 0, [])), (101, (.iadd, 102, 0, 0, 0, 0, 0, 0, [])), (102, (.iaload, 103, 0, 0, 0, 0, 0, 0, [])), (103, (.ifCond .ne 7, 106, 110, 0, 0, 0, 0, 0, [])), (106, (.iconst 1, 107, 0, 1, 0, 0, 0, 0, [])), (107, (.goto 4, 110, 111, 0, 0, 0, 0, 0, [])), (110, (.iconst (-1), 111, 0, -1, 0, 0, 0, 0, [])), (111, (.iadd, 112, 0, 0, 0, 0, 0, 0, []))],
  [(112, (.iastore, 113, 0, 0, 0, 0, 0, 0, [])), (113, (.aload_n 0, 114, 0, 0, 0, 0, 0, 0, [])), (114, (.getfield 44, 117, 0, 0, 0, 8, 26, 888, [])), (117, (.iconst 5, 118, 0, 5, 0, 0, 0, 0, [])), (118, (.iload_n 1, 119, 0, 0, 0, 0, 0, 0, [])), (119, (.iadd, 120, 0, 0, 0, 0, 0, 0, [])), (120, (.iconst 0, 121, 0, 0, 0, 0, 0, 0, [])), (121, (.iastore, 122, 0, 0, 0, 0, 0, 0, [])), (122, (.iconst 0, 123, 0, 0, 0, 0, 0, 0, [])), (123, (.istore_n 3, 124, 0, 0, 0, 0, 0, 0, [])), (124, (.iload_n 3, 125, 0, 0, 0, 0, 0, 0, [])), (125, (.bipush 8, 127, 0, 8, 0, 0, 0, 0, [])), (127, (.if_icmp .ge 53, 130, 180, 0, 0, 0, 0, 0, []))],
  [(130, (.aload_n 0, 131, 0, 0, 0, 0, 0, 0, [])), (131, (.getfield 44, 134, 0, 0, 0, 8, 26, 888, [])), (134, (.bipush 33, 136, 0, 33, 0, 0, 0, 0, [])), (136, (.iload_n 3, 137, 0, 0, 0, 0, 0, 0, [])), (137, (.iadd, 138, 0, 0, 0, 0, 0, 0, [])), (138, (.dup2, 139, 0, 0, 0, 0, 0, 0, [])), (139, (.iaload, 140, 0, 0, 0, 0, 0, 0, [])), (140, (.aload_n 0, 141, 0, 0, 0, 0, 0, 0, [])), (141, (.getfield 70, 144, 0, 0, 0, 8, 7, 869, []))],
  [(144, (.iload_n 3, 145, 0, 0, 0, 0, 0, 0, [])), (145, (.invokestatic 73, 148, 0, 0, 0, 0, 0, 1038, [])), (148, (.ifCond .eq 23, 151, 171, 0, 0, 0, 0, 0, [])), (151, (.aload_n 0, 152, 0, 0, 0, 0, 0, 0, [])), (152, (.getfield 44, 155, 0, 0, 0, 8, 26, 888, [])), (155, (.bipush 17, 157, 0, 17, 0, 0, 0, 0, [])), (157, (.iload_n 3, 158, 0, 0, 0, 0, 0, 0, [])), (158, (.iadd, 159, 0, 0, 0, 0, 0, 0, [])), (159, (.iaload, 160, 0, 0, 0, 0, 0, 0, []))],
  [(160, (.iload_n 1, 161, 0, 0, 0, 0, 0, 0, [])), (161, (.if_icmp .ne 10, 164, 171, 0, 0, 0, 0, 0, [])), (164, (.aload_n 0, 165, 0, 0, 0, 0, 0, 0, [])), (165, (.getfield 22, 168, 0, 0, 0, 8, 4, 866, [])), (168, (.goto 4, 171, 172, 0, 0, 0, 0, 0, [])), (171, (.iconst 0, 172, 0, 0, 0, 0, 0, 0, [])), (172, (.iadd, 173, 0, 0, 0, 0, 0, 0, [])), (173, (.iastore, 174, 0, 0, 0, 0, 0, 0, [])), (174, (.iinc 3 1, 177, 0, 1, 0, 0, 0, 0, []))],
  [(177, (.goto (-53), 180, 124, 0, 0, 0, 0, 0, [])), (180, (.return_, 181, 0, 0, 0, 0, 0, 0, []))]])
set_option maxRecDepth 100000 in
theorem kX8_goOn : xMk mX8_goOn = true := by decide +kernel
set_option maxRecDepth 100000 in
theorem bX8_goOn : xcB mX8_goOn 0 1 = true := by decide +kernel
def mX8_goMinute : xM := (yX8_goMinute, cX8_goMinute, 3, none, [
  [(0, (.iconst 0, 1, 0, 0, 0, 0, 0, 0, [])), (1, (.istore_n 1, 2, 0, 0, 0, 0, 0, 0, [])), (2, (.iload_n 1, 3, 0, 0, 0, 0, 0, 0, [])), (3, (.aload_n 0, 4, 0, 0, 0, 0, 0, 0, [])), (4, (.getfield 196, 7, 0, 0, 0, 8, 32, 894, [])), (7, (.if_icmp .ge 49, 10, 56, 0, 0, 0, 0, 0, [])), (10, (.aload_n 0, 11, 0, 0, 0, 0, 0, 0, [])), (11, (.getfield 32, 14, 0, 0, 0, 8, 10, 872, [])), (14, (.iconst 3, 15, 0, 3, 0, 0, 0, 0, [])), (15, (.iload_n 1, 16, 0, 0, 0, 0, 0, 0, []))],
  [(16, (.imul, 17, 0, 0, 0, 0, 0, 0, [])), (17, (.iconst 2, 18, 0, 2, 0, 0, 0, 0, [])), (18, (.iadd, 19, 0, 0, 0, 0, 0, 0, [])), (19, (.iaload, 20, 0, 0, 0, 0, 0, 0, [])), (20, (.aload_n 0, 21, 0, 0, 0, 0, 0, 0, [])), (21, (.getfield 44, 24, 0, 0, 0, 8, 26, 888, [])), (24, (.iconst 0, 25, 0, 0, 0, 0, 0, 0, [])), (25, (.iaload, 26, 0, 0, 0, 0, 0, 0, [])), (26, (.if_icmp .ne 24, 29, 50, 0, 0, 0, 0, 0, [])), (29, (.aload_n 0, 30, 0, 0, 0, 0, 0, 0, [])), (30, (.getfield 44, 33, 0, 0, 0, 8, 26, 888, []))],
  [(33, (.bipush 41, 35, 0, 41, 0, 0, 0, 0, [])), (35, (.iload_n 1, 36, 0, 0, 0, 0, 0, 0, [])), (36, (.iadd, 37, 0, 0, 0, 0, 0, 0, [])), (37, (.aload_n 0, 38, 0, 0, 0, 0, 0, 0, [])), (38, (.aload_n 0, 39, 0, 0, 0, 0, 0, 0, [])), (39, (.getfield 32, 42, 0, 0, 0, 8, 10, 872, [])), (42, (.iconst 3, 43, 0, 3, 0, 0, 0, 0, [])), (43, (.iload_n 1, 44, 0, 0, 0, 0, 0, 0, [])), (44, (.imul, 45, 0, 0, 0, 0, 0, 0, [])), (45, (.iaload, 46, 0, 0, 0, 0, 0, 0, [])), (46, (.invokevirtual 209, 49, 0, 0, 0, 0, 0, 1081, []))],
  [(49, (.iastore, 50, 0, 0, 0, 0, 0, 0, [])), (50, (.iinc 1 1, 53, 0, 1, 0, 0, 0, 0, [])), (53, (.goto (-51), 56, 2, 0, 0, 0, 0, 0, [])), (56, (.iconst 0, 57, 0, 0, 0, 0, 0, 0, [])), (57, (.istore_n 1, 58, 0, 0, 0, 0, 0, 0, [])), (58, (.iload_n 1, 59, 0, 0, 0, 0, 0, 0, [])), (59, (.iconst 2, 60, 0, 2, 0, 0, 0, 0, [])), (60, (.if_icmp .ge 87, 63, 147, 0, 0, 0, 0, 0, [])), (63, (.aload_n 0, 64, 0, 0, 0, 0, 0, 0, []))],
  [(64, (.getfield 77, 67, 0, 0, 0, 8, 5, 867, [])), (67, (.iload_n 1, 68, 0, 0, 0, 0, 0, 0, [])), (68, (.invokestatic 73, 71, 0, 0, 0, 0, 0, 1038, [])), (71, (.ifCond .eq 70, 74, 141, 0, 0, 0, 0, 0, [])), (74, (.aload_n 0, 75, 0, 0, 0, 0, 0, 0, [])), (75, (.getfield 25, 78, 0, 0, 0, 8, 6, 868, [])), (78, (.iconst 3, 79, 0, 3, 0, 0, 0, 0, [])), (79, (.iload_n 1, 80, 0, 0, 0, 0, 0, 0, []))],
  [(80, (.imul, 81, 0, 0, 0, 0, 0, 0, [])), (81, (.iconst 1, 82, 0, 1, 0, 0, 0, 0, [])), (82, (.iadd, 83, 0, 0, 0, 0, 0, 0, [])), (83, (.iaload, 84, 0, 0, 0, 0, 0, 0, [])), (84, (.aload_n 0, 85, 0, 0, 0, 0, 0, 0, [])), (85, (.getfield 44, 88, 0, 0, 0, 8, 26, 888, [])), (88, (.iconst 0, 89, 0, 0, 0, 0, 0, 0, [])), (89, (.iaload, 90, 0, 0, 0, 0, 0, 0, [])), (90, (.if_icmp .gt 51, 93, 141, 0, 0, 0, 0, 0, [])), (93, (.aload_n 0, 94, 0, 0, 0, 0, 0, 0, [])), (94, (.getfield 44, 97, 0, 0, 0, 8, 26, 888, []))],
  [(97, (.iconst 5, 98, 0, 5, 0, 0, 0, 0, [])), (98, (.iload_n 1, 99, 0, 0, 0, 0, 0, 0, [])), (99, (.iadd, 100, 0, 0, 0, 0, 0, 0, [])), (100, (.iaload, 101, 0, 0, 0, 0, 0, 0, [])), (101, (.iconst 1, 102, 0, 1, 0, 0, 0, 0, [])), (102, (.if_icmp .ne 7, 105, 109, 0, 0, 0, 0, 0, [])), (105, (.iconst (-1), 106, 0, -1, 0, 0, 0, 0, [])), (106, (.goto 15, 109, 121, 0, 0, 0, 0, 0, [])), (109, (.aload_n 0, 110, 0, 0, 0, 0, 0, 0, [])), (110, (.aload_n 0, 111, 0, 0, 0, 0, 0, 0, [])), (111, (.getfield 44, 114, 0, 0, 0, 8, 26, 888, []))],
  [(114, (.iconst 1, 115, 0, 1, 0, 0, 0, 0, [])), (115, (.iload_n 1, 116, 0, 0, 0, 0, 0, 0, [])), (116, (.iadd, 117, 0, 0, 0, 0, 0, 0, [])), (117, (.iaload, 118, 0, 0, 0, 0, 0, 0, [])), (118, (.invokevirtual 212, 121, 0, 0, 0, 0, 0, 1085, [])), (121, (.istore_n 2, 122, 0, 0, 0, 0, 0, 0, [])), (122, (.iload_n 2, 123, 0, 0, 0, 0, 0, 0, [])), (123, (.iconst (-1), 124, 0, -1, 0, 0, 0, 0, [])), (124, (.if_icmp .ne 11, 127, 135, 0, 0, 0, 0, 0, [])), (127, (.aload_n 0, 128, 0, 0, 0, 0, 0, 0, []))],
  [(128, (.iload_n 1, 129, 0, 0, 0, 0, 0, 0, [])), (129, (.invokevirtual 215, 132, 0, 0, 0, 0, 0, 1089, [])), (132, (.goto 9, 135, 141, 0, 0, 0, 0, 0, [])), (135, (.aload_n 0, 136, 0, 0, 0, 0, 0, 0, [])), (136, (.iload_n 1, 137, 0, 0, 0, 0, 0, 0, [])), (137, (.iload_n 2, 138, 0, 0, 0, 0, 0, 0, [])), (138, (.invokevirtual 218, 141, 0, 0, 0, 0, 0, 1093, [])), (141, (.iinc 1 1, 144, 0, 1, 0, 0, 0, 0, []))],
  [(144, (.goto (-86), 147, 58, 0, 0, 0, 0, 0, [])), (147, (.aload_n 0, 148, 0, 0, 0, 0, 0, 0, [])), (148, (.getfield 44, 151, 0, 0, 0, 8, 26, 888, [])), (151, (.iconst 0, 152, 0, 0, 0, 0, 0, 0, [])), (152, (.dup2, 153, 0, 0, 0, 0, 0, 0, [])), (153, (.iaload, 154, 0, 0, 0, 0, 0, 0, [])), (154, (.iconst 1, 155, 0, 1, 0, 0, 0, 0, [])), (155, (.iadd, 156, 0, 0, 0, 0, 0, 0, [])), (156, (.iastore, 157, 0, 0, 0, 0, 0, 0, [])), (157, (.return_, 158, 0, 0, 0, 0, 0, 0, []))]])
set_option maxRecDepth 100000 in
theorem kX8_goMinute : xMk mX8_goMinute = true := by decide +kernel
set_option maxRecDepth 100000 in
theorem bX8_goMinute : xcB mX8_goMinute 0 0 = true := by decide +kernel
def mX8_asTold : xM := (yX8_asTold, cX8_asTold, 1, none, [
  [(0, (.aload_n 0, 1, 0, 0, 0, 0, 0, 0, [])), (1, (.aload_n 0, 2, 0, 0, 0, 0, 0, 0, [])), (2, (.getfield 13, 5, 0, 0, 0, 8, 1, 863, [])), (5, (.putfield 199, 8, 0, 0, 0, 8, 30, 892, [])), (8, (.aload_n 0, 9, 0, 0, 0, 0, 0, 0, [])), (9, (.aload_n 0, 10, 0, 0, 0, 0, 0, 0, [])), (10, (.getfield 16, 13, 0, 0, 0, 8, 2, 864, [])), (13, (.putfield 202, 16, 0, 0, 0, 8, 31, 893, []))],
  [(16, (.aload_n 0, 17, 0, 0, 0, 0, 0, 0, [])), (17, (.aload_n 0, 18, 0, 0, 0, 0, 0, 0, [])), (18, (.getfield 168, 21, 0, 0, 0, 8, 9, 871, [])), (21, (.putfield 196, 24, 0, 0, 0, 8, 32, 894, [])), (24, (.return_, 25, 0, 0, 0, 0, 0, 0, []))]])
set_option maxRecDepth 100000 in
theorem kX8_asTold : xMk mX8_asTold = true := by decide +kernel
set_option maxRecDepth 100000 in
theorem bX8_asTold : xcB mX8_asTold 0 0 = true := by decide +kernel
def mX8_go : xM := (yX8_go, cX8_go, 3, (some .int), [
  [(0, (.iload_n 1, 1, 0, 0, 0, 0, 0, 0, [])), (1, (.iconst 1, 2, 0, 1, 0, 0, 0, 0, [])), (2, (.bipush 60, 4, 0, 60, 0, 0, 0, 0, [])), (4, (.invokestatic 66, 7, 0, 0, 0, 0, 0, 978, [])), (7, (.ifCond .ne 6, 10, 13, 0, 0, 0, 0, 0, [])), (10, (.bipush (-3), 12, 0, -3, 0, 0, 0, 0, [])), (12, (.ireturn, 13, 0, 0, 0, 0, 0, 0, [])), (13, (.aload_n 0, 14, 0, 0, 0, 0, 0, 0, [])), (14, (.invokevirtual 222, 17, 0, 0, 0, 0, 0, 1073, []))],
  [(17, (.iconst 0, 18, 0, 0, 0, 0, 0, 0, [])), (18, (.istore_n 2, 19, 0, 0, 0, 0, 0, 0, [])), (19, (.iload_n 2, 20, 0, 0, 0, 0, 0, 0, [])), (20, (.iload_n 1, 21, 0, 0, 0, 0, 0, 0, [])), (21, (.if_icmp .ge 24, 24, 45, 0, 0, 0, 0, 0, [])), (24, (.aload_n 0, 25, 0, 0, 0, 0, 0, 0, [])), (25, (.getfield 44, 28, 0, 0, 0, 8, 26, 888, [])), (28, (.iconst 0, 29, 0, 0, 0, 0, 0, 0, [])), (29, (.iaload, 30, 0, 0, 0, 0, 0, 0, [])), (30, (.bipush 60, 32, 0, 60, 0, 0, 0, 0, []))],
  [(32, (.if_icmp .ge 13, 35, 45, 0, 0, 0, 0, 0, [])), (35, (.aload_n 0, 36, 0, 0, 0, 0, 0, 0, [])), (36, (.invokevirtual 225, 39, 0, 0, 0, 0, 0, 1077, [])), (39, (.iinc 2 1, 42, 0, 1, 0, 0, 0, 0, [])), (42, (.goto (-23), 45, 19, 0, 0, 0, 0, 0, [])), (45, (.aload_n 0, 46, 0, 0, 0, 0, 0, 0, [])), (46, (.getfield 44, 49, 0, 0, 0, 8, 26, 888, []))],
  [(49, (.iconst 0, 50, 0, 0, 0, 0, 0, 0, [])), (50, (.iaload, 51, 0, 0, 0, 0, 0, 0, [])), (51, (.ireturn, 52, 0, 0, 0, 0, 0, 0, []))]])
set_option maxRecDepth 100000 in
theorem kX8_go : xMk mX8_go = true := by decide +kernel
set_option maxRecDepth 100000 in
theorem bX8_go : xcB mX8_go 0 1 = true := by decide +kernel
def mX8_tram : xM := (yX8_tram, cX8_tram, 5, (some .int), [
  [(0, (.aload_n 0, 1, 0, 0, 0, 0, 0, 0, [])), (1, (.iload_n 1, 2, 0, 0, 0, 0, 0, 0, [])), (2, (.invokevirtual 228, 5, 0, 0, 0, 0, 0, 1105, [])), (5, (.ifCond .ne 6, 8, 11, 0, 0, 0, 0, 0, [])), (8, (.bipush (-2), 10, 0, -2, 0, 0, 0, 0, [])), (10, (.ireturn, 11, 0, 0, 0, 0, 0, 0, [])), (11, (.iconst 0, 12, 0, 0, 0, 0, 0, 0, [])), (12, (.istore_n 3, 13, 0, 0, 0, 0, 0, 0, [])), (13, (.iconst 0, 14, 0, 0, 0, 0, 0, 0, [])), (14, (.istore 4, 16, 0, 0, 0, 0, 0, 0, []))],
  [(16, (.iload 4, 18, 0, 0, 0, 0, 0, 0, [])), (18, (.bipush 8, 20, 0, 8, 0, 0, 0, 0, [])), (20, (.if_icmp .ge 46, 23, 66, 0, 0, 0, 0, 0, [])), (23, (.iload_n 3, 24, 0, 0, 0, 0, 0, 0, [])), (24, (.aload_n 0, 25, 0, 0, 0, 0, 0, 0, [])), (25, (.getfield 70, 28, 0, 0, 0, 8, 7, 869, [])), (28, (.iload 4, 30, 0, 0, 0, 0, 0, 0, [])), (30, (.invokestatic 73, 33, 0, 0, 0, 0, 0, 1038, []))],
  [(33, (.ifCond .eq 24, 36, 57, 0, 0, 0, 0, 0, [])), (36, (.aload_n 0, 37, 0, 0, 0, 0, 0, 0, [])), (37, (.getfield 44, 40, 0, 0, 0, 8, 26, 888, [])), (40, (.bipush 17, 42, 0, 17, 0, 0, 0, 0, [])), (42, (.iload 4, 44, 0, 0, 0, 0, 0, 0, [])), (44, (.iadd, 45, 0, 0, 0, 0, 0, 0, [])), (45, (.iaload, 46, 0, 0, 0, 0, 0, 0, [])), (46, (.iload_n 1, 47, 0, 0, 0, 0, 0, 0, [])), (47, (.if_icmp .ne 10, 50, 57, 0, 0, 0, 0, 0, []))],
  [(50, (.iconst 1, 51, 0, 1, 0, 0, 0, 0, [])), (51, (.iload 4, 53, 0, 0, 0, 0, 0, 0, [])), (53, (.ishl, 54, 0, 0, 0, 0, 0, 0, [])), (54, (.goto 4, 57, 58, 0, 0, 0, 0, 0, [])), (57, (.iconst 0, 58, 0, 0, 0, 0, 0, 0, [])), (58, (.ior, 59, 0, 0, 0, 0, 0, 0, [])), (59, (.istore_n 3, 60, 0, 0, 0, 0, 0, 0, [])), (60, (.iinc 4 1, 63, 0, 1, 0, 0, 0, 0, [])), (63, (.goto (-47), 66, 16, 0, 0, 0, 0, 0, []))],
  [(66, (.iload_n 2, 67, 0, 0, 0, 0, 0, 0, [])), (67, (.tableswitch 59 0 3 #[29, 38, 47, 49], 96, 126, 0, 0, 0, 0, 0, [(0, 96), (1, 105), (2, 114), (3, 116)]))],
  [],
  [(96, (.aload_n 0, 97, 0, 0, 0, 0, 0, 0, [])), (97, (.getfield 44, 100, 0, 0, 0, 8, 26, 888, [])), (100, (.iconst 1, 101, 0, 1, 0, 0, 0, 0, [])), (101, (.iload_n 1, 102, 0, 0, 0, 0, 0, 0, [])), (102, (.iadd, 103, 0, 0, 0, 0, 0, 0, [])), (103, (.iaload, 104, 0, 0, 0, 0, 0, 0, [])), (104, (.ireturn, 105, 0, 0, 0, 0, 0, 0, [])), (105, (.aload_n 0, 106, 0, 0, 0, 0, 0, 0, [])), (106, (.getfield 44, 109, 0, 0, 0, 8, 26, 888, [])), (109, (.iconst 3, 110, 0, 3, 0, 0, 0, 0, [])), (110, (.iload_n 1, 111, 0, 0, 0, 0, 0, 0, [])), (111, (.iadd, 112, 0, 0, 0, 0, 0, 0, []))],
  [(112, (.iaload, 113, 0, 0, 0, 0, 0, 0, [])), (113, (.ireturn, 114, 0, 0, 0, 0, 0, 0, [])), (114, (.iload_n 3, 115, 0, 0, 0, 0, 0, 0, [])), (115, (.ireturn, 116, 0, 0, 0, 0, 0, 0, [])), (116, (.aload_n 0, 117, 0, 0, 0, 0, 0, 0, [])), (117, (.getfield 44, 120, 0, 0, 0, 8, 26, 888, [])), (120, (.bipush 7, 122, 0, 7, 0, 0, 0, 0, [])), (122, (.iload_n 1, 123, 0, 0, 0, 0, 0, 0, [])), (123, (.iadd, 124, 0, 0, 0, 0, 0, 0, [])), (124, (.iaload, 125, 0, 0, 0, 0, 0, 0, [])), (125, (.ireturn, 126, 0, 0, 0, 0, 0, 0, [])), (126, (.bipush (-3), 128, 0, -3, 0, 0, 0, 0, []))],
  [(128, (.ireturn, 129, 0, 0, 0, 0, 0, 0, []))]])
set_option maxRecDepth 100000 in
theorem kX8_tram : xMk mX8_tram = true := by decide +kernel
set_option maxRecDepth 100000 in
theorem bX8_tram : xcB mX8_tram 0 2 = true := by decide +kernel
def mX8_person : xM := (yX8_person, cX8_person, 3, (some .int), [
  [(0, (.aload_n 0, 1, 0, 0, 0, 0, 0, 0, [])), (1, (.iload_n 1, 2, 0, 0, 0, 0, 0, 0, [])), (2, (.invokevirtual 231, 5, 0, 0, 0, 0, 0, 1113, [])), (5, (.ifCond .ne 6, 8, 11, 0, 0, 0, 0, 0, [])), (8, (.bipush (-2), 10, 0, -2, 0, 0, 0, 0, [])), (10, (.ireturn, 11, 0, 0, 0, 0, 0, 0, [])), (11, (.iload_n 2, 12, 0, 0, 0, 0, 0, 0, [])), (12, (.tableswitch 83 0 4 #[36, 42, 52, 62, 72], 48, 95, 0, 0, 0, 0, 0, [(0, 48), (1, 54), (2, 64), (3, 74), (4, 84)]))],
  [],
  [],
  [(48, (.aload_n 0, 49, 0, 0, 0, 0, 0, 0, [])), (49, (.iload_n 1, 50, 0, 0, 0, 0, 0, 0, [])), (50, (.invokevirtual 209, 53, 0, 0, 0, 0, 0, 1081, [])), (53, (.ireturn, 54, 0, 0, 0, 0, 0, 0, [])), (54, (.aload_n 0, 55, 0, 0, 0, 0, 0, 0, [])), (55, (.getfield 44, 58, 0, 0, 0, 8, 26, 888, [])), (58, (.bipush 17, 60, 0, 17, 0, 0, 0, 0, [])), (60, (.iload_n 1, 61, 0, 0, 0, 0, 0, 0, [])), (61, (.iadd, 62, 0, 0, 0, 0, 0, 0, [])), (62, (.iaload, 63, 0, 0, 0, 0, 0, 0, [])), (63, (.ireturn, 64, 0, 0, 0, 0, 0, 0, []))],
  [(64, (.aload_n 0, 65, 0, 0, 0, 0, 0, 0, [])), (65, (.getfield 44, 68, 0, 0, 0, 8, 26, 888, [])), (68, (.bipush 25, 70, 0, 25, 0, 0, 0, 0, [])), (70, (.iload_n 1, 71, 0, 0, 0, 0, 0, 0, [])), (71, (.iadd, 72, 0, 0, 0, 0, 0, 0, [])), (72, (.iaload, 73, 0, 0, 0, 0, 0, 0, [])), (73, (.ireturn, 74, 0, 0, 0, 0, 0, 0, [])), (74, (.aload_n 0, 75, 0, 0, 0, 0, 0, 0, [])), (75, (.getfield 44, 78, 0, 0, 0, 8, 26, 888, [])), (78, (.bipush 33, 80, 0, 33, 0, 0, 0, 0, []))],
  [(80, (.iload_n 1, 81, 0, 0, 0, 0, 0, 0, [])), (81, (.iadd, 82, 0, 0, 0, 0, 0, 0, [])), (82, (.iaload, 83, 0, 0, 0, 0, 0, 0, [])), (83, (.ireturn, 84, 0, 0, 0, 0, 0, 0, [])), (84, (.aload_n 0, 85, 0, 0, 0, 0, 0, 0, [])), (85, (.getfield 29, 88, 0, 0, 0, 8, 8, 870, [])), (88, (.iconst 2, 89, 0, 2, 0, 0, 0, 0, [])), (89, (.iload_n 1, 90, 0, 0, 0, 0, 0, 0, [])), (90, (.imul, 91, 0, 0, 0, 0, 0, 0, [])), (91, (.iconst 1, 92, 0, 1, 0, 0, 0, 0, [])), (92, (.iadd, 93, 0, 0, 0, 0, 0, 0, [])), (93, (.iaload, 94, 0, 0, 0, 0, 0, 0, [])), (94, (.ireturn, 95, 0, 0, 0, 0, 0, 0, [])), (95, (.bipush (-3), 97, 0, -3, 0, 0, 0, 0, []))],
  [(97, (.ireturn, 98, 0, 0, 0, 0, 0, 0, []))]])
set_option maxRecDepth 100000 in
theorem kX8_person : xMk mX8_person = true := by decide +kernel
set_option maxRecDepth 100000 in
theorem bX8_person : xcB mX8_person 0 2 = true := by decide +kernel
def mX8_halt : xM := (yX8_halt, cX8_halt, 3, (some .int), [
  [(0, (.iload_n 1, 1, 0, 0, 0, 0, 0, 0, [])), (1, (.ifCond .lt 12, 4, 13, 0, 0, 0, 0, 0, [])), (4, (.iload_n 2, 5, 0, 0, 0, 0, 0, 0, [])), (5, (.iconst 0, 6, 0, 0, 0, 0, 0, 0, [])), (6, (.iconst 4, 7, 0, 4, 0, 0, 0, 0, [])), (7, (.invokestatic 66, 10, 0, 0, 0, 0, 0, 978, [])), (10, (.ifCond .ne 6, 13, 16, 0, 0, 0, 0, 0, [])), (13, (.bipush (-3), 15, 0, -3, 0, 0, 0, 0, [])), (15, (.ireturn, 16, 0, 0, 0, 0, 0, 0, []))],
  [(16, (.iload_n 1, 17, 0, 0, 0, 0, 0, 0, [])), (17, (.aload_n 0, 18, 0, 0, 0, 0, 0, 0, [])), (18, (.invokevirtual 205, 21, 0, 0, 0, 0, 0, 1097, [])), (21, (.if_icmp .lt 5, 24, 26, 0, 0, 0, 0, 0, [])), (24, (.iconst (-1), 25, 0, -1, 0, 0, 0, 0, [])), (25, (.ireturn, 26, 0, 0, 0, 0, 0, 0, [])), (26, (.iload_n 2, 27, 0, 0, 0, 0, 0, 0, [])), (27, (.iconst 4, 28, 0, 4, 0, 0, 0, 0, [])), (28, (.if_icmp .ge 19, 31, 47, 0, 0, 0, 0, 0, [])), (31, (.aload_n 0, 32, 0, 0, 0, 0, 0, 0, []))],
  [(32, (.getfield 44, 35, 0, 0, 0, 8, 26, 888, [])), (35, (.bipush 93, 37, 0, 93, 0, 0, 0, 0, [])), (37, (.iconst 4, 38, 0, 4, 0, 0, 0, 0, [])), (38, (.iload_n 1, 39, 0, 0, 0, 0, 0, 0, [])), (39, (.imul, 40, 0, 0, 0, 0, 0, 0, [])), (40, (.iadd, 41, 0, 0, 0, 0, 0, 0, [])), (41, (.iload_n 2, 42, 0, 0, 0, 0, 0, 0, [])), (42, (.iadd, 43, 0, 0, 0, 0, 0, 0, [])), (43, (.iaload, 44, 0, 0, 0, 0, 0, 0, [])), (44, (.goto 23, 47, 67, 0, 0, 0, 0, 0, [])), (47, (.aload_n 0, 48, 0, 0, 0, 0, 0, 0, []))],
  [(48, (.getfield 32, 51, 0, 0, 0, 8, 10, 872, [])), (51, (.iconst 3, 52, 0, 3, 0, 0, 0, 0, [])), (52, (.aload_n 0, 53, 0, 0, 0, 0, 0, 0, [])), (53, (.getfield 44, 56, 0, 0, 0, 8, 26, 888, [])), (56, (.bipush 93, 58, 0, 93, 0, 0, 0, 0, [])), (58, (.iconst 4, 59, 0, 4, 0, 0, 0, 0, [])), (59, (.iload_n 1, 60, 0, 0, 0, 0, 0, 0, [])), (60, (.imul, 61, 0, 0, 0, 0, 0, 0, [])), (61, (.iadd, 62, 0, 0, 0, 0, 0, 0, [])), (62, (.iconst 3, 63, 0, 3, 0, 0, 0, 0, [])), (63, (.iadd, 64, 0, 0, 0, 0, 0, 0, []))],
  [(64, (.iaload, 65, 0, 0, 0, 0, 0, 0, [])), (65, (.imul, 66, 0, 0, 0, 0, 0, 0, [])), (66, (.iaload, 67, 0, 0, 0, 0, 0, 0, [])), (67, (.ireturn, 68, 0, 0, 0, 0, 0, 0, []))]])
set_option maxRecDepth 100000 in
theorem kX8_halt : xMk mX8_halt = true := by decide +kernel
set_option maxRecDepth 100000 in
theorem bX8_halt : xcB mX8_halt 0 2 = true := by decide +kernel
def mX8_copy : xM := (yX8_copy, cX8_copy, 5, none, [
  [(0, (.iconst 0, 1, 0, 0, 0, 0, 0, 0, [])), (1, (.istore 4, 3, 0, 0, 0, 0, 0, 0, [])), (3, (.iload 4, 5, 0, 0, 0, 0, 0, 0, [])), (5, (.sipush 573, 8, 0, 573, 0, 0, 0, 0, [])), (8, (.if_icmp .ge 21, 11, 29, 0, 0, 0, 0, 0, [])), (11, (.aload_n 2, 12, 0, 0, 0, 0, 0, 0, [])), (12, (.iload_n 3, 13, 0, 0, 0, 0, 0, 0, [])), (13, (.iload 4, 15, 0, 0, 0, 0, 0, 0, [])), (15, (.iadd, 16, 0, 0, 0, 0, 0, 0, []))],
  [(16, (.aload_n 0, 17, 0, 0, 0, 0, 0, 0, [])), (17, (.iload_n 1, 18, 0, 0, 0, 0, 0, 0, [])), (18, (.iload 4, 20, 0, 0, 0, 0, 0, 0, [])), (20, (.iadd, 21, 0, 0, 0, 0, 0, 0, [])), (21, (.iaload, 22, 0, 0, 0, 0, 0, 0, [])), (22, (.iastore, 23, 0, 0, 0, 0, 0, 0, [])), (23, (.iinc 4 1, 26, 0, 1, 0, 0, 0, 0, [])), (26, (.goto (-23), 29, 3, 0, 0, 0, 0, 0, [])), (29, (.return_, 30, 0, 0, 0, 0, 0, 0, []))]])
set_option maxRecDepth 100000 in
theorem kX8_copy : xMk mX8_copy = true := by decide +kernel
set_option maxRecDepth 100000 in
theorem bX8_copy : xcB mX8_copy 1 4 = true := by decide +kernel
def mX8_keep : xM := (yX8_keep, cX8_keep, 2, (some .int), [
  [(0, (.iload_n 1, 1, 0, 0, 0, 0, 0, 0, [])), (1, (.iconst 0, 2, 0, 0, 0, 0, 0, 0, [])), (2, (.iconst 1, 3, 0, 1, 0, 0, 0, 0, [])), (3, (.invokestatic 66, 6, 0, 0, 0, 0, 0, 978, [])), (6, (.ifCond .ne 6, 9, 12, 0, 0, 0, 0, 0, [])), (9, (.bipush (-2), 11, 0, -2, 0, 0, 0, 0, [])), (11, (.ireturn, 12, 0, 0, 0, 0, 0, 0, [])), (12, (.aload_n 0, 13, 0, 0, 0, 0, 0, 0, [])), (13, (.getfield 44, 16, 0, 0, 0, 8, 26, 888, []))],
  [(16, (.iconst 0, 17, 0, 0, 0, 0, 0, 0, [])), (17, (.aload_n 0, 18, 0, 0, 0, 0, 0, 0, [])), (18, (.getfield 50, 21, 0, 0, 0, 8, 28, 890, [])), (21, (.sipush 573, 24, 0, 573, 0, 0, 0, 0, [])), (24, (.iload_n 1, 25, 0, 0, 0, 0, 0, 0, [])), (25, (.imul, 26, 0, 0, 0, 0, 0, 0, [])), (26, (.invokestatic 234, 29, 0, 0, 0, 0, 0, 1125, [])), (29, (.aload_n 0, 30, 0, 0, 0, 0, 0, 0, [])), (30, (.getfield 53, 33, 0, 0, 0, 8, 29, 891, []))],
  [(33, (.iload_n 1, 34, 0, 0, 0, 0, 0, 0, [])), (34, (.iconst 1, 35, 0, 1, 0, 0, 0, 0, [])), (35, (.bastore, 36, 0, 0, 0, 0, 0, 0, [])), (36, (.aload_n 0, 37, 0, 0, 0, 0, 0, 0, [])), (37, (.getfield 44, 40, 0, 0, 0, 8, 26, 888, [])), (40, (.iconst 0, 41, 0, 0, 0, 0, 0, 0, [])), (41, (.iaload, 42, 0, 0, 0, 0, 0, 0, [])), (42, (.ireturn, 43, 0, 0, 0, 0, 0, 0, []))]])
set_option maxRecDepth 100000 in
theorem kX8_keep : xMk mX8_keep = true := by decide +kernel
set_option maxRecDepth 100000 in
theorem bX8_keep : xcB mX8_keep 0 1 = true := by decide +kernel
def mX8_back : xM := (yX8_back, cX8_back, 2, (some .int), [
  [(0, (.iload_n 1, 1, 0, 0, 0, 0, 0, 0, [])), (1, (.iconst 0, 2, 0, 0, 0, 0, 0, 0, [])), (2, (.iconst 1, 3, 0, 1, 0, 0, 0, 0, [])), (3, (.invokestatic 66, 6, 0, 0, 0, 0, 0, 978, [])), (6, (.ifCond .ne 6, 9, 12, 0, 0, 0, 0, 0, [])), (9, (.bipush (-2), 11, 0, -2, 0, 0, 0, 0, [])), (11, (.ireturn, 12, 0, 0, 0, 0, 0, 0, [])), (12, (.aload_n 0, 13, 0, 0, 0, 0, 0, 0, [])), (13, (.getfield 53, 16, 0, 0, 0, 8, 29, 891, []))],
  [(16, (.iload_n 1, 17, 0, 0, 0, 0, 0, 0, [])), (17, (.baload, 18, 0, 0, 0, 0, 0, 0, [])), (18, (.ifCond .ne 6, 21, 24, 0, 0, 0, 0, 0, [])), (21, (.bipush (-4), 23, 0, -4, 0, 0, 0, 0, [])), (23, (.ireturn, 24, 0, 0, 0, 0, 0, 0, [])), (24, (.aload_n 0, 25, 0, 0, 0, 0, 0, 0, [])), (25, (.getfield 50, 28, 0, 0, 0, 8, 28, 890, [])), (28, (.sipush 573, 31, 0, 573, 0, 0, 0, 0, [])), (31, (.iload_n 1, 32, 0, 0, 0, 0, 0, 0, []))],
  [(32, (.imul, 33, 0, 0, 0, 0, 0, 0, [])), (33, (.aload_n 0, 34, 0, 0, 0, 0, 0, 0, [])), (34, (.getfield 44, 37, 0, 0, 0, 8, 26, 888, [])), (37, (.iconst 0, 38, 0, 0, 0, 0, 0, 0, [])), (38, (.invokestatic 234, 41, 0, 0, 0, 0, 0, 1125, [])), (41, (.aload_n 0, 42, 0, 0, 0, 0, 0, 0, [])), (42, (.getfield 44, 45, 0, 0, 0, 8, 26, 888, [])), (45, (.iconst 0, 46, 0, 0, 0, 0, 0, 0, [])), (46, (.iaload, 47, 0, 0, 0, 0, 0, 0, [])), (47, (.ireturn, 48, 0, 0, 0, 0, 0, 0, []))]])
set_option maxRecDepth 100000 in
theorem kX8_back : xMk mX8_back = true := by decide +kernel
set_option maxRecDepth 100000 in
theorem bX8_back : xcB mX8_back 0 1 = true := by decide +kernel
def mX8_goDay : xM := (yX8_goDay, cX8_goDay, 1, none, [
  [(0, (.aload_n 0, 1, 0, 0, 0, 0, 0, 0, [])), (1, (.getfield 44, 4, 0, 0, 0, 8, 26, 888, [])), (4, (.iconst 0, 5, 0, 0, 0, 0, 0, 0, [])), (5, (.aload_n 0, 6, 0, 0, 0, 0, 0, 0, [])), (6, (.getfield 47, 9, 0, 0, 0, 8, 27, 889, [])), (9, (.iconst 0, 10, 0, 0, 0, 0, 0, 0, [])), (10, (.invokestatic 234, 13, 0, 0, 0, 0, 0, 1125, [])), (13, (.aload_n 0, 14, 0, 0, 0, 0, 0, 0, [])), (14, (.invokevirtual 63, 17, 0, 0, 0, 0, 0, 858, []))],
  [(17, (.aload_n 0, 18, 0, 0, 0, 0, 0, 0, [])), (18, (.getfield 44, 21, 0, 0, 0, 8, 26, 888, [])), (21, (.iconst 0, 22, 0, 0, 0, 0, 0, 0, [])), (22, (.iaload, 23, 0, 0, 0, 0, 0, 0, [])), (23, (.bipush 60, 25, 0, 60, 0, 0, 0, 0, [])), (25, (.if_icmp .ge 10, 28, 35, 0, 0, 0, 0, 0, [])), (28, (.aload_n 0, 29, 0, 0, 0, 0, 0, 0, [])), (29, (.invokevirtual 225, 32, 0, 0, 0, 0, 0, 1077, []))],
  [(32, (.goto (-15), 35, 17, 0, 0, 0, 0, 0, [])), (35, (.return_, 36, 0, 0, 0, 0, 0, 0, []))]])
set_option maxRecDepth 100000 in
theorem kX8_goDay : xMk mX8_goDay = true := by decide +kernel
set_option maxRecDepth 100000 in
theorem bX8_goDay : xcB mX8_goDay 0 0 = true := by decide +kernel
def mX8_putBack : xM := (yX8_putBack, cX8_putBack, 1, none, [
  [(0, (.aload_n 0, 1, 0, 0, 0, 0, 0, 0, [])), (1, (.getfield 47, 4, 0, 0, 0, 8, 27, 889, [])), (4, (.iconst 0, 5, 0, 0, 0, 0, 0, 0, [])), (5, (.aload_n 0, 6, 0, 0, 0, 0, 0, 0, [])), (6, (.getfield 44, 9, 0, 0, 0, 8, 26, 888, [])), (9, (.iconst 0, 10, 0, 0, 0, 0, 0, 0, [])), (10, (.invokestatic 234, 13, 0, 0, 0, 0, 0, 1125, [])), (13, (.return_, 14, 0, 0, 0, 0, 0, 0, []))]])
set_option maxRecDepth 100000 in
theorem kX8_putBack : xMk mX8_putBack = true := by decide +kernel
set_option maxRecDepth 100000 in
theorem bX8_putBack : xcB mX8_putBack 0 0 = true := by decide +kernel
def mX8_late : xM := (yX8_late, cX8_late, 2, (some .int), [
  [(0, (.aload_n 0, 1, 0, 0, 0, 0, 0, 0, [])), (1, (.getfield 44, 4, 0, 0, 0, 8, 26, 888, [])), (4, (.bipush 25, 6, 0, 25, 0, 0, 0, 0, [])), (6, (.iload_n 1, 7, 0, 0, 0, 0, 0, 0, [])), (7, (.iadd, 8, 0, 0, 0, 0, 0, 0, [])), (8, (.iaload, 9, 0, 0, 0, 0, 0, 0, [])), (9, (.iconst (-1), 10, 0, -1, 0, 0, 0, 0, [])), (10, (.if_icmp .ne 8, 13, 18, 0, 0, 0, 0, 0, [])), (13, (.bipush 60, 15, 0, 60, 0, 0, 0, 0, [])), (15, (.goto 12, 18, 27, 0, 0, 0, 0, 0, []))],
  [(18, (.aload_n 0, 19, 0, 0, 0, 0, 0, 0, [])), (19, (.getfield 44, 22, 0, 0, 0, 8, 26, 888, [])), (22, (.bipush 25, 24, 0, 25, 0, 0, 0, 0, [])), (24, (.iload_n 1, 25, 0, 0, 0, 0, 0, 0, [])), (25, (.iadd, 26, 0, 0, 0, 0, 0, 0, [])), (26, (.iaload, 27, 0, 0, 0, 0, 0, 0, [])), (27, (.ireturn, 28, 0, 0, 0, 0, 0, 0, []))]])
set_option maxRecDepth 100000 in
theorem kX8_late : xMk mX8_late = true := by decide +kernel
set_option maxRecDepth 100000 in
theorem bX8_late : xcB mX8_late 0 1 = true := by decide +kernel
def mX8_home : xM := (yX8_home, cX8_home, 3, (some .int), [
  [(0, (.aload_n 0, 1, 0, 0, 0, 0, 0, 0, [])), (1, (.iload_n 1, 2, 0, 0, 0, 0, 0, 0, [])), (2, (.invokevirtual 231, 5, 0, 0, 0, 0, 0, 1113, [])), (5, (.ifCond .ne 6, 8, 11, 0, 0, 0, 0, 0, [])), (8, (.bipush (-2), 10, 0, -2, 0, 0, 0, 0, [])), (10, (.ireturn, 11, 0, 0, 0, 0, 0, 0, [])), (11, (.aload_n 0, 12, 0, 0, 0, 0, 0, 0, [])), (12, (.invokevirtual 222, 15, 0, 0, 0, 0, 0, 1073, [])), (15, (.aload_n 0, 16, 0, 0, 0, 0, 0, 0, []))],
  [(16, (.invokevirtual 238, 19, 0, 0, 0, 0, 0, 1136, [])), (19, (.aload_n 0, 20, 0, 0, 0, 0, 0, 0, [])), (20, (.getfield 44, 23, 0, 0, 0, 8, 26, 888, [])), (23, (.bipush 25, 25, 0, 25, 0, 0, 0, 0, [])), (25, (.iload_n 1, 26, 0, 0, 0, 0, 0, 0, [])), (26, (.iadd, 27, 0, 0, 0, 0, 0, 0, [])), (27, (.iaload, 28, 0, 0, 0, 0, 0, 0, [])), (28, (.istore_n 2, 29, 0, 0, 0, 0, 0, 0, [])), (29, (.aload_n 0, 30, 0, 0, 0, 0, 0, 0, [])), (30, (.invokevirtual 241, 33, 0, 0, 0, 0, 0, 1140, []))],
  [(33, (.iload_n 2, 34, 0, 0, 0, 0, 0, 0, [])), (34, (.ireturn, 35, 0, 0, 0, 0, 0, 0, []))]])
set_option maxRecDepth 100000 in
theorem kX8_home : xMk mX8_home = true := by decide +kernel
set_option maxRecDepth 100000 in
theorem bX8_home : xcB mX8_home 0 1 = true := by decide +kernel
def mX8_tryFeigned : xM := (yX8_tryFeigned, cX8_tryFeigned, 7, none, [
  [(0, (.aload_n 0, 1, 0, 0, 0, 0, 0, 0, [])), (1, (.getfield 13, 4, 0, 0, 0, 8, 1, 863, [])), (4, (.ifCond .eq 14, 7, 18, 0, 0, 0, 0, 0, [])), (7, (.aload_n 0, 8, 0, 0, 0, 0, 0, 0, [])), (8, (.getfield 13, 11, 0, 0, 0, 8, 1, 863, [])), (11, (.iconst 0, 12, 0, 0, 0, 0, 0, 0, [])), (12, (.invokestatic 73, 15, 0, 0, 0, 0, 0, 1038, [])), (15, (.ifCond .eq 7, 18, 22, 0, 0, 0, 0, 0, []))],
  [(18, (.iconst 0, 19, 0, 0, 0, 0, 0, 0, [])), (19, (.goto 19, 22, 38, 0, 0, 0, 0, 0, [])), (22, (.aload_n 0, 23, 0, 0, 0, 0, 0, 0, [])), (23, (.getfield 13, 26, 0, 0, 0, 8, 1, 863, [])), (26, (.iconst 1, 27, 0, 1, 0, 0, 0, 0, [])), (27, (.invokestatic 73, 30, 0, 0, 0, 0, 0, 1038, [])), (30, (.ifCond .eq 7, 33, 37, 0, 0, 0, 0, 0, []))],
  [(33, (.iconst 1, 34, 0, 1, 0, 0, 0, 0, [])), (34, (.goto 4, 37, 38, 0, 0, 0, 0, 0, [])), (37, (.iconst 2, 38, 0, 2, 0, 0, 0, 0, [])), (38, (.istore 5, 40, 0, 0, 0, 0, 0, 0, [])), (40, (.aload_n 0, 41, 0, 0, 0, 0, 0, 0, [])), (41, (.invokevirtual 222, 44, 0, 0, 0, 0, 0, 1073, [])), (44, (.iconst 0, 45, 0, 0, 0, 0, 0, 0, [])), (45, (.istore 6, 47, 0, 0, 0, 0, 0, 0, [])), (47, (.iload 6, 49, 0, 0, 0, 0, 0, 0, []))],
  [(49, (.iload_n 2, 50, 0, 0, 0, 0, 0, 0, [])), (50, (.if_icmp .ge 70, 53, 120, 0, 0, 0, 0, 0, [])), (53, (.aload_n 0, 54, 0, 0, 0, 0, 0, 0, [])), (54, (.getfield 32, 57, 0, 0, 0, 8, 10, 872, [])), (57, (.iconst 3, 58, 0, 3, 0, 0, 0, 0, [])), (58, (.aload_n 0, 59, 0, 0, 0, 0, 0, 0, [])), (59, (.getfield 196, 62, 0, 0, 0, 8, 32, 894, [])), (62, (.imul, 63, 0, 0, 0, 0, 0, 0, [])), (63, (.iload_n 1, 64, 0, 0, 0, 0, 0, 0, []))],
  [(64, (.iastore, 65, 0, 0, 0, 0, 0, 0, [])), (65, (.aload_n 0, 66, 0, 0, 0, 0, 0, 0, [])), (66, (.getfield 32, 69, 0, 0, 0, 8, 10, 872, [])), (69, (.iconst 3, 70, 0, 3, 0, 0, 0, 0, [])), (70, (.aload_n 0, 71, 0, 0, 0, 0, 0, 0, [])), (71, (.getfield 196, 74, 0, 0, 0, 8, 32, 894, [])), (74, (.imul, 75, 0, 0, 0, 0, 0, 0, [])), (75, (.iconst 1, 76, 0, 1, 0, 0, 0, 0, [])), (76, (.iadd, 77, 0, 0, 0, 0, 0, 0, [])), (77, (.iload 5, 79, 0, 0, 0, 0, 0, 0, [])), (79, (.iastore, 80, 0, 0, 0, 0, 0, 0, []))],
  [(80, (.aload_n 0, 81, 0, 0, 0, 0, 0, 0, [])), (81, (.getfield 32, 84, 0, 0, 0, 8, 10, 872, [])), (84, (.iconst 3, 85, 0, 3, 0, 0, 0, 0, [])), (85, (.aload_n 0, 86, 0, 0, 0, 0, 0, 0, [])), (86, (.getfield 196, 89, 0, 0, 0, 8, 32, 894, [])), (89, (.imul, 90, 0, 0, 0, 0, 0, 0, [])), (90, (.iconst 2, 91, 0, 2, 0, 0, 0, 0, [])), (91, (.iadd, 92, 0, 0, 0, 0, 0, 0, [])), (92, (.iload 6, 94, 0, 0, 0, 0, 0, 0, [])), (94, (.ifCond .ne 7, 97, 101, 0, 0, 0, 0, 0, []))],
  [(97, (.iload_n 3, 98, 0, 0, 0, 0, 0, 0, [])), (98, (.goto 5, 101, 103, 0, 0, 0, 0, 0, [])), (101, (.iload 4, 103, 0, 0, 0, 0, 0, 0, [])), (103, (.iastore, 104, 0, 0, 0, 0, 0, 0, [])), (104, (.aload_n 0, 105, 0, 0, 0, 0, 0, 0, [])), (105, (.dup, 106, 0, 0, 0, 0, 0, 0, [])), (106, (.getfield 196, 109, 0, 0, 0, 8, 32, 894, [])), (109, (.iconst 1, 110, 0, 1, 0, 0, 0, 0, [])), (110, (.iadd, 111, 0, 0, 0, 0, 0, 0, [])), (111, (.putfield 196, 114, 0, 0, 0, 8, 32, 894, []))],
  [(114, (.iinc 6 1, 117, 0, 1, 0, 0, 0, 0, [])), (117, (.goto (-70), 120, 47, 0, 0, 0, 0, 0, [])), (120, (.aload_n 0, 121, 0, 0, 0, 0, 0, 0, [])), (121, (.invokevirtual 238, 124, 0, 0, 0, 0, 0, 1136, [])), (124, (.aload_n 0, 125, 0, 0, 0, 0, 0, 0, [])), (125, (.iload_n 1, 126, 0, 0, 0, 0, 0, 0, [])), (126, (.invokevirtual 244, 129, 0, 0, 0, 0, 0, 1152, []))],
  [(129, (.istore 6, 131, 0, 0, 0, 0, 0, 0, [])), (131, (.aload_n 0, 132, 0, 0, 0, 0, 0, 0, [])), (132, (.invokevirtual 241, 135, 0, 0, 0, 0, 0, 1140, [])), (135, (.iload 6, 137, 0, 0, 0, 0, 0, 0, [])), (137, (.aload_n 0, 138, 0, 0, 0, 0, 0, 0, [])), (138, (.getfield 57, 141, 0, 0, 0, 8, 33, 895, [])), (141, (.iconst 0, 142, 0, 0, 0, 0, 0, 0, [])), (142, (.iaload, 143, 0, 0, 0, 0, 0, 0, [])), (143, (.if_icmp .ge 50, 146, 193, 0, 0, 0, 0, 0, []))],
  [(146, (.aload_n 0, 147, 0, 0, 0, 0, 0, 0, [])), (147, (.getfield 57, 150, 0, 0, 0, 8, 33, 895, [])), (150, (.iconst 0, 151, 0, 0, 0, 0, 0, 0, [])), (151, (.iload 6, 153, 0, 0, 0, 0, 0, 0, [])), (153, (.iastore, 154, 0, 0, 0, 0, 0, 0, [])), (154, (.aload_n 0, 155, 0, 0, 0, 0, 0, 0, [])), (155, (.getfield 57, 158, 0, 0, 0, 8, 33, 895, [])), (158, (.iconst 1, 159, 0, 1, 0, 0, 0, 0, [])), (159, (.iload_n 2, 160, 0, 0, 0, 0, 0, 0, []))],
  [(160, (.iastore, 161, 0, 0, 0, 0, 0, 0, [])), (161, (.aload_n 0, 162, 0, 0, 0, 0, 0, 0, [])), (162, (.getfield 57, 165, 0, 0, 0, 8, 33, 895, [])), (165, (.iconst 2, 166, 0, 2, 0, 0, 0, 0, [])), (166, (.iload_n 2, 167, 0, 0, 0, 0, 0, 0, [])), (167, (.ifCond .le 7, 170, 174, 0, 0, 0, 0, 0, [])), (170, (.iload_n 3, 171, 0, 0, 0, 0, 0, 0, [])), (171, (.goto 4, 174, 175, 0, 0, 0, 0, 0, [])), (174, (.iconst (-1), 175, 0, -1, 0, 0, 0, 0, [])), (175, (.iastore, 176, 0, 0, 0, 0, 0, 0, []))],
  [(176, (.aload_n 0, 177, 0, 0, 0, 0, 0, 0, [])), (177, (.getfield 57, 180, 0, 0, 0, 8, 33, 895, [])), (180, (.iconst 3, 181, 0, 3, 0, 0, 0, 0, [])), (181, (.iload_n 2, 182, 0, 0, 0, 0, 0, 0, [])), (182, (.iconst 1, 183, 0, 1, 0, 0, 0, 0, [])), (183, (.if_icmp .le 8, 186, 191, 0, 0, 0, 0, 0, [])), (186, (.iload 4, 188, 0, 0, 0, 0, 0, 0, [])), (188, (.goto 4, 191, 192, 0, 0, 0, 0, 0, [])), (191, (.iconst (-1), 192, 0, -1, 0, 0, 0, 0, []))],
  [(192, (.iastore, 193, 0, 0, 0, 0, 0, 0, [])), (193, (.return_, 194, 0, 0, 0, 0, 0, 0, []))]])
set_option maxRecDepth 100000 in
theorem kX8_tryFeigned : xMk mX8_tryFeigned = true := by decide +kernel
set_option maxRecDepth 100000 in
theorem bX8_tryFeigned : xcB mX8_tryFeigned 0 4 = true := by decide +kernel
end
section
/-! the rows of the methods of X8 -/
def mX8_feigned : xM := (yX8_feigned, cX8_feigned, 6, (some .int), [
  [(0, (.aload_n 0, 1, 0, 0, 0, 0, 0, 0, [])), (1, (.iload_n 1, 2, 0, 0, 0, 0, 0, 0, [])), (2, (.invokevirtual 231, 5, 0, 0, 0, 0, 0, 1113, [])), (5, (.ifCond .ne 6, 8, 11, 0, 0, 0, 0, 0, [])), (8, (.bipush (-2), 10, 0, -2, 0, 0, 0, 0, [])), (10, (.ireturn, 11, 0, 0, 0, 0, 0, 0, [])), (11, (.iload_n 2, 12, 0, 0, 0, 0, 0, 0, [])), (12, (.iconst 0, 13, 0, 0, 0, 0, 0, 0, [])), (13, (.iconst 2, 14, 0, 2, 0, 0, 0, 0, [])), (14, (.invokestatic 66, 17, 0, 0, 0, 0, 0, 978, []))],
  [(17, (.ifCond .eq 12, 20, 29, 0, 0, 0, 0, 0, [])), (20, (.iload_n 3, 21, 0, 0, 0, 0, 0, 0, [])), (21, (.iconst 0, 22, 0, 0, 0, 0, 0, 0, [])), (22, (.iconst 3, 23, 0, 3, 0, 0, 0, 0, [])), (23, (.invokestatic 66, 26, 0, 0, 0, 0, 0, 978, [])), (26, (.ifCond .ne 6, 29, 32, 0, 0, 0, 0, 0, [])), (29, (.bipush (-3), 31, 0, -3, 0, 0, 0, 0, [])), (31, (.ireturn, 32, 0, 0, 0, 0, 0, 0, []))],
  [(32, (.aload_n 0, 33, 0, 0, 0, 0, 0, 0, [])), (33, (.getfield 57, 36, 0, 0, 0, 8, 33, 895, [])), (36, (.iconst 0, 37, 0, 0, 0, 0, 0, 0, [])), (37, (.bipush 60, 39, 0, 60, 0, 0, 0, 0, [])), (39, (.iastore, 40, 0, 0, 0, 0, 0, 0, [])), (40, (.aload_n 0, 41, 0, 0, 0, 0, 0, 0, [])), (41, (.getfield 57, 44, 0, 0, 0, 8, 33, 895, [])), (44, (.iconst 1, 45, 0, 1, 0, 0, 0, 0, [])), (45, (.iconst (-1), 46, 0, -1, 0, 0, 0, 0, [])), (46, (.iastore, 47, 0, 0, 0, 0, 0, 0, [])), (47, (.aload_n 0, 48, 0, 0, 0, 0, 0, 0, []))],
  [(48, (.getfield 57, 51, 0, 0, 0, 8, 33, 895, [])), (51, (.iconst 2, 52, 0, 2, 0, 0, 0, 0, [])), (52, (.iconst (-1), 53, 0, -1, 0, 0, 0, 0, [])), (53, (.iastore, 54, 0, 0, 0, 0, 0, 0, [])), (54, (.aload_n 0, 55, 0, 0, 0, 0, 0, 0, [])), (55, (.getfield 57, 58, 0, 0, 0, 8, 33, 895, [])), (58, (.iconst 3, 59, 0, 3, 0, 0, 0, 0, [])), (59, (.iconst (-1), 60, 0, -1, 0, 0, 0, 0, [])), (60, (.iastore, 61, 0, 0, 0, 0, 0, 0, [])), (61, (.aload_n 0, 62, 0, 0, 0, 0, 0, 0, [])), (62, (.iload_n 1, 63, 0, 0, 0, 0, 0, 0, [])), (63, (.iconst 0, 64, 0, 0, 0, 0, 0, 0, []))],
  [(64, (.iconst 0, 65, 0, 0, 0, 0, 0, 0, [])), (65, (.iconst 0, 66, 0, 0, 0, 0, 0, 0, [])), (66, (.invokevirtual 247, 69, 0, 0, 0, 0, 0, 1148, [])), (69, (.iconst 0, 70, 0, 0, 0, 0, 0, 0, [])), (70, (.istore 4, 72, 0, 0, 0, 0, 0, 0, [])), (72, (.iload 4, 74, 0, 0, 0, 0, 0, 0, [])), (74, (.bipush 60, 76, 0, 60, 0, 0, 0, 0, [])), (76, (.if_icmp .ge 22, 79, 98, 0, 0, 0, 0, 0, [])), (79, (.iload_n 2, 80, 0, 0, 0, 0, 0, 0, []))],
  [(80, (.ifCond .le 18, 83, 98, 0, 0, 0, 0, 0, [])), (83, (.aload_n 0, 84, 0, 0, 0, 0, 0, 0, [])), (84, (.iload_n 1, 85, 0, 0, 0, 0, 0, 0, [])), (85, (.iconst 1, 86, 0, 1, 0, 0, 0, 0, [])), (86, (.iload 4, 88, 0, 0, 0, 0, 0, 0, [])), (88, (.iconst 0, 89, 0, 0, 0, 0, 0, 0, [])), (89, (.invokevirtual 247, 92, 0, 0, 0, 0, 0, 1148, [])), (92, (.iinc 4 1, 95, 0, 1, 0, 0, 0, 0, [])), (95, (.goto (-23), 98, 72, 0, 0, 0, 0, 0, []))],
  [(98, (.iconst 0, 99, 0, 0, 0, 0, 0, 0, [])), (99, (.istore 4, 101, 0, 0, 0, 0, 0, 0, [])), (101, (.iload 4, 103, 0, 0, 0, 0, 0, 0, [])), (103, (.bipush 60, 105, 0, 60, 0, 0, 0, 0, [])), (105, (.if_icmp .ge 43, 108, 148, 0, 0, 0, 0, 0, [])), (108, (.iload_n 2, 109, 0, 0, 0, 0, 0, 0, [])), (109, (.iconst 1, 110, 0, 1, 0, 0, 0, 0, [])), (110, (.if_icmp .le 38, 113, 148, 0, 0, 0, 0, 0, []))],
  [(113, (.iload 4, 115, 0, 0, 0, 0, 0, 0, [])), (115, (.iconst 1, 116, 0, 1, 0, 0, 0, 0, [])), (116, (.iadd, 117, 0, 0, 0, 0, 0, 0, [])), (117, (.istore 5, 119, 0, 0, 0, 0, 0, 0, [])), (119, (.iload 5, 121, 0, 0, 0, 0, 0, 0, [])), (121, (.bipush 60, 123, 0, 60, 0, 0, 0, 0, [])), (123, (.if_icmp .ge 19, 126, 142, 0, 0, 0, 0, 0, [])), (126, (.aload_n 0, 127, 0, 0, 0, 0, 0, 0, [])), (127, (.iload_n 1, 128, 0, 0, 0, 0, 0, 0, []))],
  [(128, (.iconst 2, 129, 0, 2, 0, 0, 0, 0, [])), (129, (.iload 4, 131, 0, 0, 0, 0, 0, 0, [])), (131, (.iload 5, 133, 0, 0, 0, 0, 0, 0, [])), (133, (.invokevirtual 247, 136, 0, 0, 0, 0, 0, 1148, [])), (136, (.iinc 5 1, 139, 0, 1, 0, 0, 0, 0, [])), (139, (.goto (-20), 142, 119, 0, 0, 0, 0, 0, [])), (142, (.iinc 4 1, 145, 0, 1, 0, 0, 0, 0, []))],
  [(145, (.goto (-44), 148, 101, 0, 0, 0, 0, 0, [])), (148, (.aload_n 0, 149, 0, 0, 0, 0, 0, 0, [])), (149, (.getfield 57, 152, 0, 0, 0, 8, 33, 895, [])), (152, (.iconst 0, 153, 0, 0, 0, 0, 0, 0, [])), (153, (.iaload, 154, 0, 0, 0, 0, 0, 0, [])), (154, (.bipush 60, 156, 0, 60, 0, 0, 0, 0, [])), (156, (.if_icmp .ne 7, 159, 163, 0, 0, 0, 0, 0, [])), (159, (.iconst (-1), 160, 0, -1, 0, 0, 0, 0, []))],
  [(160, (.goto 9, 163, 169, 0, 0, 0, 0, 0, [])), (163, (.aload_n 0, 164, 0, 0, 0, 0, 0, 0, [])), (164, (.getfield 57, 167, 0, 0, 0, 8, 33, 895, [])), (167, (.iload_n 3, 168, 0, 0, 0, 0, 0, 0, [])), (168, (.iaload, 169, 0, 0, 0, 0, 0, 0, [])), (169, (.ireturn, 170, 0, 0, 0, 0, 0, 0, []))]])
set_option maxRecDepth 100000 in
theorem kX8_feigned : xMk mX8_feigned = true := by decide +kernel
set_option maxRecDepth 100000 in
theorem bX8_feigned : xcB mX8_feigned 0 3 = true := by decide +kernel
def mX8_law : xM := (yX8_law, cX8_law, 7, (some .int), [
  [(0, (.iload_n 1, 1, 0, 0, 0, 0, 0, 0, [])), (1, (.iconst 0, 2, 0, 0, 0, 0, 0, 0, [])), (2, (.iconst 1, 3, 0, 1, 0, 0, 0, 0, [])), (3, (.invokestatic 66, 6, 0, 0, 0, 0, 0, 978, [])), (6, (.ifCond .ne 6, 9, 12, 0, 0, 0, 0, 0, [])), (9, (.bipush (-3), 11, 0, -3, 0, 0, 0, 0, [])), (11, (.ireturn, 12, 0, 0, 0, 0, 0, 0, [])), (12, (.iconst (-1), 13, 0, -1, 0, 0, 0, 0, [])), (13, (.istore_n 2, 14, 0, 0, 0, 0, 0, 0, [])), (14, (.iconst 0, 15, 0, 0, 0, 0, 0, 0, [])), (15, (.istore_n 3, 16, 0, 0, 0, 0, 0, 0, []))],
  [(16, (.iconst 0, 17, 0, 0, 0, 0, 0, 0, [])), (17, (.istore 4, 19, 0, 0, 0, 0, 0, 0, [])), (19, (.iload 4, 21, 0, 0, 0, 0, 0, 0, [])), (21, (.bipush 8, 23, 0, 8, 0, 0, 0, 0, [])), (23, (.if_icmp .ge 115, 26, 138, 0, 0, 0, 0, 0, [])), (26, (.aload_n 0, 27, 0, 0, 0, 0, 0, 0, [])), (27, (.invokevirtual 222, 30, 0, 0, 0, 0, 0, 1073, [])), (30, (.aload_n 0, 31, 0, 0, 0, 0, 0, 0, [])), (31, (.iload 4, 33, 0, 0, 0, 0, 0, 0, []))],
  [(33, (.putfield 199, 36, 0, 0, 0, 8, 30, 892, [])), (36, (.aload_n 0, 37, 0, 0, 0, 0, 0, 0, [])), (37, (.invokevirtual 238, 40, 0, 0, 0, 0, 0, 1136, [])), (40, (.iconst 0, 41, 0, 0, 0, 0, 0, 0, [])), (41, (.istore 5, 43, 0, 0, 0, 0, 0, 0, [])), (43, (.iconst 0, 44, 0, 0, 0, 0, 0, 0, [])), (44, (.istore 6, 46, 0, 0, 0, 0, 0, 0, [])), (46, (.iload 6, 48, 0, 0, 0, 0, 0, 0, []))],
  [(48, (.bipush 8, 50, 0, 8, 0, 0, 0, 0, [])), (50, (.if_icmp .ge 36, 53, 86, 0, 0, 0, 0, 0, [])), (53, (.iload 5, 55, 0, 0, 0, 0, 0, 0, [])), (55, (.aload_n 0, 56, 0, 0, 0, 0, 0, 0, [])), (56, (.getfield 70, 59, 0, 0, 0, 8, 7, 869, [])), (59, (.iload 6, 61, 0, 0, 0, 0, 0, 0, [])), (61, (.invokestatic 73, 64, 0, 0, 0, 0, 0, 1038, []))],
  [(64, (.ifCond .eq 12, 67, 76, 0, 0, 0, 0, 0, [])), (67, (.aload_n 0, 68, 0, 0, 0, 0, 0, 0, [])), (68, (.iload 6, 70, 0, 0, 0, 0, 0, 0, [])), (70, (.invokevirtual 244, 73, 0, 0, 0, 0, 0, 1152, [])), (73, (.goto 4, 76, 77, 0, 0, 0, 0, 0, [])), (76, (.iconst 0, 77, 0, 0, 0, 0, 0, 0, [])), (77, (.iadd, 78, 0, 0, 0, 0, 0, 0, [])), (78, (.istore 5, 80, 0, 0, 0, 0, 0, 0, []))],
  [(80, (.iinc 6 1, 83, 0, 1, 0, 0, 0, 0, [])), (83, (.goto (-37), 86, 46, 0, 0, 0, 0, 0, [])), (86, (.aload_n 0, 87, 0, 0, 0, 0, 0, 0, [])), (87, (.invokevirtual 241, 90, 0, 0, 0, 0, 0, 1140, [])), (90, (.iload_n 2, 91, 0, 0, 0, 0, 0, 0, [])), (91, (.iconst (-1), 92, 0, -1, 0, 0, 0, 0, [])), (92, (.if_icmp .eq 9, 95, 101, 0, 0, 0, 0, 0, [])), (95, (.iload 5, 97, 0, 0, 0, 0, 0, 0, []))],
  [(97, (.iload_n 3, 98, 0, 0, 0, 0, 0, 0, [])), (98, (.if_icmp .ge 7, 101, 105, 0, 0, 0, 0, 0, [])), (101, (.iconst 1, 102, 0, 1, 0, 0, 0, 0, [])), (102, (.goto 4, 105, 106, 0, 0, 0, 0, 0, [])), (105, (.iconst 0, 106, 0, 0, 0, 0, 0, 0, [])), (106, (.istore 6, 108, 0, 0, 0, 0, 0, 0, [])), (108, (.iload 6, 110, 0, 0, 0, 0, 0, 0, [])), (110, (.ifCond .eq 8, 113, 118, 0, 0, 0, 0, 0, []))],
  [(113, (.iload 4, 115, 0, 0, 0, 0, 0, 0, [])), (115, (.goto 4, 118, 119, 0, 0, 0, 0, 0, [])), (118, (.iload_n 2, 119, 0, 0, 0, 0, 0, 0, [])), (119, (.istore_n 2, 120, 0, 0, 0, 0, 0, 0, [])), (120, (.iload 6, 122, 0, 0, 0, 0, 0, 0, [])), (122, (.ifCond .eq 8, 125, 130, 0, 0, 0, 0, 0, [])), (125, (.iload 5, 127, 0, 0, 0, 0, 0, 0, [])), (127, (.goto 4, 130, 131, 0, 0, 0, 0, 0, []))],
  [(130, (.iload_n 3, 131, 0, 0, 0, 0, 0, 0, [])), (131, (.istore_n 3, 132, 0, 0, 0, 0, 0, 0, [])), (132, (.iinc 4 1, 135, 0, 1, 0, 0, 0, 0, [])), (135, (.goto (-116), 138, 19, 0, 0, 0, 0, 0, [])), (138, (.iload_n 1, 139, 0, 0, 0, 0, 0, 0, [])), (139, (.ifCond .ne 7, 142, 146, 0, 0, 0, 0, 0, [])), (142, (.iload_n 2, 143, 0, 0, 0, 0, 0, 0, [])), (143, (.goto 4, 146, 147, 0, 0, 0, 0, 0, []))],
  [(146, (.iload_n 3, 147, 0, 0, 0, 0, 0, 0, [])), (147, (.ireturn, 148, 0, 0, 0, 0, 0, 0, []))]])
set_option maxRecDepth 100000 in
theorem kX8_law : xMk mX8_law = true := by decide +kernel
set_option maxRecDepth 100000 in
theorem bX8_law : xcB mX8_law 0 1 = true := by decide +kernel
def mX8_wornAt : xM := (yX8_wornAt, cX8_wornAt, 4, (some .int), [
  [(0, (.iconst 0, 1, 0, 0, 0, 0, 0, 0, [])), (1, (.istore_n 2, 2, 0, 0, 0, 0, 0, 0, [])), (2, (.iconst 0, 3, 0, 0, 0, 0, 0, 0, [])), (3, (.istore_n 3, 4, 0, 0, 0, 0, 0, 0, [])), (4, (.iload_n 3, 5, 0, 0, 0, 0, 0, 0, [])), (5, (.aload_n 0, 6, 0, 0, 0, 0, 0, 0, [])), (6, (.invokevirtual 205, 9, 0, 0, 0, 0, 0, 1097, [])), (9, (.if_icmp .ge 34, 12, 43, 0, 0, 0, 0, 0, [])), (12, (.iload_n 2, 13, 0, 0, 0, 0, 0, 0, [])), (13, (.aload_n 0, 14, 0, 0, 0, 0, 0, 0, [])), (14, (.getfield 44, 17, 0, 0, 0, 8, 26, 888, []))],
  [(17, (.bipush 93, 19, 0, 93, 0, 0, 0, 0, [])), (19, (.iconst 4, 20, 0, 4, 0, 0, 0, 0, [])), (20, (.iload_n 3, 21, 0, 0, 0, 0, 0, 0, [])), (21, (.imul, 22, 0, 0, 0, 0, 0, 0, [])), (22, (.iadd, 23, 0, 0, 0, 0, 0, 0, [])), (23, (.iconst 1, 24, 0, 1, 0, 0, 0, 0, [])), (24, (.iadd, 25, 0, 0, 0, 0, 0, 0, [])), (25, (.iaload, 26, 0, 0, 0, 0, 0, 0, [])), (26, (.iload_n 1, 27, 0, 0, 0, 0, 0, 0, [])), (27, (.if_icmp .ne 7, 30, 34, 0, 0, 0, 0, 0, [])), (30, (.iconst 1, 31, 0, 1, 0, 0, 0, 0, [])), (31, (.goto 4, 34, 35, 0, 0, 0, 0, 0, []))],
  [(34, (.iconst 0, 35, 0, 0, 0, 0, 0, 0, [])), (35, (.iadd, 36, 0, 0, 0, 0, 0, 0, [])), (36, (.istore_n 2, 37, 0, 0, 0, 0, 0, 0, [])), (37, (.iinc 3 1, 40, 0, 1, 0, 0, 0, 0, [])), (40, (.goto (-36), 43, 4, 0, 0, 0, 0, 0, [])), (43, (.iload_n 2, 44, 0, 0, 0, 0, 0, 0, [])), (44, (.ireturn, 45, 0, 0, 0, 0, 0, 0, []))]])
set_option maxRecDepth 100000 in
theorem kX8_wornAt : xMk mX8_wornAt = true := by decide +kernel
set_option maxRecDepth 100000 in
theorem bX8_wornAt : xcB mX8_wornAt 0 1 = true := by decide +kernel
def mX8_worn : xM := (yX8_worn, cX8_worn, 3, (some .int), [
  [(0, (.aload_n 0, 1, 0, 0, 0, 0, 0, 0, [])), (1, (.iload_n 1, 2, 0, 0, 0, 0, 0, 0, [])), (2, (.invokevirtual 251, 5, 0, 0, 0, 0, 0, 1164, [])), (5, (.ifCond .ne 6, 8, 11, 0, 0, 0, 0, 0, [])), (8, (.bipush (-2), 10, 0, -2, 0, 0, 0, 0, [])), (10, (.ireturn, 11, 0, 0, 0, 0, 0, 0, [])), (11, (.aload_n 0, 12, 0, 0, 0, 0, 0, 0, [])), (12, (.invokevirtual 222, 15, 0, 0, 0, 0, 0, 1073, [])), (15, (.aload_n 0, 16, 0, 0, 0, 0, 0, 0, []))],
  [(16, (.invokevirtual 238, 19, 0, 0, 0, 0, 0, 1136, [])), (19, (.aload_n 0, 20, 0, 0, 0, 0, 0, 0, [])), (20, (.iload_n 1, 21, 0, 0, 0, 0, 0, 0, [])), (21, (.invokevirtual 254, 24, 0, 0, 0, 0, 0, 1168, [])), (24, (.istore_n 2, 25, 0, 0, 0, 0, 0, 0, [])), (25, (.aload_n 0, 26, 0, 0, 0, 0, 0, 0, [])), (26, (.invokevirtual 241, 29, 0, 0, 0, 0, 0, 1140, [])), (29, (.iload_n 2, 30, 0, 0, 0, 0, 0, 0, [])), (30, (.ireturn, 31, 0, 0, 0, 0, 0, 0, []))]])
set_option maxRecDepth 100000 in
theorem kX8_worn : xMk mX8_worn = true := by decide +kernel
set_option maxRecDepth 100000 in
theorem bX8_worn : xcB mX8_worn 0 1 = true := by decide +kernel
def mX8_dry : xM := (yX8_dry, cX8_dry, 3, (some .int), [
  [(0, (.aload_n 0, 1, 0, 0, 0, 0, 0, 0, [])), (1, (.invokevirtual 222, 4, 0, 0, 0, 0, 0, 1073, [])), (4, (.aload_n 0, 5, 0, 0, 0, 0, 0, 0, [])), (5, (.invokevirtual 238, 8, 0, 0, 0, 0, 0, 1136, [])), (8, (.iconst 0, 9, 0, 0, 0, 0, 0, 0, [])), (9, (.istore_n 1, 10, 0, 0, 0, 0, 0, 0, [])), (10, (.iconst 0, 11, 0, 0, 0, 0, 0, 0, [])), (11, (.istore_n 2, 12, 0, 0, 0, 0, 0, 0, [])), (12, (.iload_n 2, 13, 0, 0, 0, 0, 0, 0, [])), (13, (.aload_n 0, 14, 0, 0, 0, 0, 0, 0, [])), (14, (.getfield 7, 17, 0, 0, 0, 8, 0, 862, []))],
  [(17, (.if_icmp .ge 27, 20, 44, 0, 0, 0, 0, 0, [])), (20, (.iload_n 1, 21, 0, 0, 0, 0, 0, 0, [])), (21, (.aload_n 0, 22, 0, 0, 0, 0, 0, 0, [])), (22, (.iload_n 2, 23, 0, 0, 0, 0, 0, 0, [])), (23, (.invokevirtual 254, 26, 0, 0, 0, 0, 0, 1168, [])), (26, (.ifCond .ne 9, 29, 35, 0, 0, 0, 0, 0, [])), (29, (.iconst 1, 30, 0, 1, 0, 0, 0, 0, [])), (30, (.iload_n 2, 31, 0, 0, 0, 0, 0, 0, [])), (31, (.ishl, 32, 0, 0, 0, 0, 0, 0, []))],
  [(32, (.goto 4, 35, 36, 0, 0, 0, 0, 0, [])), (35, (.iconst 0, 36, 0, 0, 0, 0, 0, 0, [])), (36, (.ior, 37, 0, 0, 0, 0, 0, 0, [])), (37, (.istore_n 1, 38, 0, 0, 0, 0, 0, 0, [])), (38, (.iinc 2 1, 41, 0, 1, 0, 0, 0, 0, [])), (41, (.goto (-29), 44, 12, 0, 0, 0, 0, 0, [])), (44, (.aload_n 0, 45, 0, 0, 0, 0, 0, 0, [])), (45, (.invokevirtual 241, 48, 0, 0, 0, 0, 0, 1140, []))],
  [(48, (.iload_n 1, 49, 0, 0, 0, 0, 0, 0, [])), (49, (.ireturn, 50, 0, 0, 0, 0, 0, 0, []))]])
set_option maxRecDepth 100000 in
theorem kX8_dry : xMk mX8_dry = true := by decide +kernel
set_option maxRecDepth 100000 in
theorem bX8_dry : xcB mX8_dry 0 0 = true := by decide +kernel
def mX8_divisor : xM := (yX8_divisor, cX8_divisor, 5, (some .int), [
  [(0, (.iload_n 0, 1, 0, 0, 0, 0, 0, 0, [])), (1, (.istore_n 2, 2, 0, 0, 0, 0, 0, 0, [])), (2, (.iload_n 1, 3, 0, 0, 0, 0, 0, 0, [])), (3, (.istore_n 3, 4, 0, 0, 0, 0, 0, 0, [])), (4, (.iload_n 3, 5, 0, 0, 0, 0, 0, 0, [])), (5, (.ifCond .eq 16, 8, 21, 0, 0, 0, 0, 0, [])), (8, (.iload_n 2, 9, 0, 0, 0, 0, 0, 0, [])), (9, (.iload_n 3, 10, 0, 0, 0, 0, 0, 0, [])), (10, (.irem, 11, 0, 0, 0, 0, 0, 0, [])), (11, (.istore 4, 13, 0, 0, 0, 0, 0, 0, [])), (13, (.iload_n 3, 14, 0, 0, 0, 0, 0, 0, [])), (14, (.istore_n 2, 15, 0, 0, 0, 0, 0, 0, [])), (15, (.iload 4, 17, 0, 0, 0, 0, 0, 0, []))],
  [(17, (.istore_n 3, 18, 0, 0, 0, 0, 0, 0, [])), (18, (.goto (-14), 21, 4, 0, 0, 0, 0, 0, [])), (21, (.iload_n 2, 22, 0, 0, 0, 0, 0, 0, [])), (22, (.ireturn, 23, 0, 0, 0, 0, 0, 0, []))]])
set_option maxRecDepth 100000 in
theorem kX8_divisor : xMk mX8_divisor = true := by decide +kernel
set_option maxRecDepth 100000 in
theorem bX8_divisor : xcB mX8_divisor 1 2 = true := by decide +kernel
def mX8_last : xM := (yX8_last, cX8_last, 10, (some .int), [
  [(0, (.iload_n 1, 1, 0, 0, 0, 0, 0, 0, [])), (1, (.iconst 0, 2, 0, 0, 0, 0, 0, 0, [])), (2, (.iconst 2, 3, 0, 2, 0, 0, 0, 0, [])), (3, (.invokestatic 66, 6, 0, 0, 0, 0, 0, 978, [])), (6, (.ifCond .ne 6, 9, 12, 0, 0, 0, 0, 0, [])), (9, (.bipush (-3), 11, 0, -3, 0, 0, 0, 0, [])), (11, (.ireturn, 12, 0, 0, 0, 0, 0, 0, [])), (12, (.aload_n 0, 13, 0, 0, 0, 0, 0, 0, [])), (13, (.invokevirtual 222, 16, 0, 0, 0, 0, 0, 1073, []))],
  [(16, (.aload_n 0, 17, 0, 0, 0, 0, 0, 0, [])), (17, (.invokevirtual 238, 20, 0, 0, 0, 0, 0, 1136, [])), (20, (.iconst (-1), 21, 0, -1, 0, 0, 0, 0, [])), (21, (.istore_n 2, 22, 0, 0, 0, 0, 0, 0, [])), (22, (.iconst 0, 23, 0, 0, 0, 0, 0, 0, [])), (23, (.istore_n 3, 24, 0, 0, 0, 0, 0, 0, [])), (24, (.iconst 1, 25, 0, 1, 0, 0, 0, 0, [])), (25, (.istore 4, 27, 0, 0, 0, 0, 0, 0, [])), (27, (.iconst 0, 28, 0, 0, 0, 0, 0, 0, [])), (28, (.istore 5, 30, 0, 0, 0, 0, 0, 0, [])), (30, (.iload 5, 32, 0, 0, 0, 0, 0, 0, []))],
  [(32, (.aload_n 0, 33, 0, 0, 0, 0, 0, 0, [])), (33, (.getfield 7, 36, 0, 0, 0, 8, 0, 862, [])), (36, (.if_icmp .ge 131, 39, 167, 0, 0, 0, 0, 0, [])), (39, (.iconst 0, 40, 0, 0, 0, 0, 0, 0, [])), (40, (.istore 6, 42, 0, 0, 0, 0, 0, 0, [])), (42, (.iconst 0, 43, 0, 0, 0, 0, 0, 0, [])), (43, (.istore 7, 45, 0, 0, 0, 0, 0, 0, [])), (45, (.iconst 0, 46, 0, 0, 0, 0, 0, 0, [])), (46, (.istore 8, 48, 0, 0, 0, 0, 0, 0, []))],
  [(48, (.iload 8, 50, 0, 0, 0, 0, 0, 0, [])), (50, (.bipush 8, 52, 0, 8, 0, 0, 0, 0, [])), (52, (.if_icmp .ge 77, 55, 129, 0, 0, 0, 0, 0, [])), (55, (.aload_n 0, 56, 0, 0, 0, 0, 0, 0, [])), (56, (.getfield 70, 59, 0, 0, 0, 8, 7, 869, [])), (59, (.iload 8, 61, 0, 0, 0, 0, 0, 0, [])), (61, (.invokestatic 73, 64, 0, 0, 0, 0, 0, 1038, []))],
  [(64, (.ifCond .eq 21, 67, 85, 0, 0, 0, 0, 0, [])), (67, (.aload_n 0, 68, 0, 0, 0, 0, 0, 0, [])), (68, (.getfield 29, 71, 0, 0, 0, 8, 8, 870, [])), (71, (.iconst 2, 72, 0, 2, 0, 0, 0, 0, [])), (72, (.iload 8, 74, 0, 0, 0, 0, 0, 0, [])), (74, (.imul, 75, 0, 0, 0, 0, 0, 0, [])), (75, (.iaload, 76, 0, 0, 0, 0, 0, 0, [])), (76, (.iload 5, 78, 0, 0, 0, 0, 0, 0, [])), (78, (.if_icmp .ne 7, 81, 85, 0, 0, 0, 0, 0, []))],
  [(81, (.iconst 1, 82, 0, 1, 0, 0, 0, 0, [])), (82, (.goto 4, 85, 86, 0, 0, 0, 0, 0, [])), (85, (.iconst 0, 86, 0, 0, 0, 0, 0, 0, [])), (86, (.istore 9, 88, 0, 0, 0, 0, 0, 0, [])), (88, (.iload 6, 90, 0, 0, 0, 0, 0, 0, [])), (90, (.iload 9, 92, 0, 0, 0, 0, 0, 0, [])), (92, (.ifCond .eq 12, 95, 104, 0, 0, 0, 0, 0, [])), (95, (.aload_n 0, 96, 0, 0, 0, 0, 0, 0, []))],
  [(96, (.iload 8, 98, 0, 0, 0, 0, 0, 0, [])), (98, (.invokevirtual 244, 101, 0, 0, 0, 0, 0, 1152, [])), (101, (.goto 4, 104, 105, 0, 0, 0, 0, 0, [])), (104, (.iconst 0, 105, 0, 0, 0, 0, 0, 0, [])), (105, (.iadd, 106, 0, 0, 0, 0, 0, 0, [])), (106, (.istore 6, 108, 0, 0, 0, 0, 0, 0, [])), (108, (.iload 7, 110, 0, 0, 0, 0, 0, 0, [])), (110, (.iload 9, 112, 0, 0, 0, 0, 0, 0, []))],
  [(112, (.ifCond .eq 7, 115, 119, 0, 0, 0, 0, 0, [])), (115, (.iconst 1, 116, 0, 1, 0, 0, 0, 0, [])), (116, (.goto 4, 119, 120, 0, 0, 0, 0, 0, [])), (119, (.iconst 0, 120, 0, 0, 0, 0, 0, 0, [])), (120, (.iadd, 121, 0, 0, 0, 0, 0, 0, [])), (121, (.istore 7, 123, 0, 0, 0, 0, 0, 0, [])), (123, (.iinc 8 1, 126, 0, 1, 0, 0, 0, 0, [])), (126, (.goto (-78), 129, 48, 0, 0, 0, 0, 0, []))],
  [(129, (.iload 7, 131, 0, 0, 0, 0, 0, 0, [])), (131, (.ifCond .le 30, 134, 161, 0, 0, 0, 0, 0, [])), (134, (.iload_n 2, 135, 0, 0, 0, 0, 0, 0, [])), (135, (.iconst (-1), 136, 0, -1, 0, 0, 0, 0, [])), (136, (.if_icmp .eq 15, 139, 151, 0, 0, 0, 0, 0, [])), (139, (.iload 6, 141, 0, 0, 0, 0, 0, 0, [])), (141, (.iload 4, 143, 0, 0, 0, 0, 0, 0, [])), (143, (.imul, 144, 0, 0, 0, 0, 0, 0, []))],
  [(144, (.iload_n 3, 145, 0, 0, 0, 0, 0, 0, [])), (145, (.iload 7, 147, 0, 0, 0, 0, 0, 0, [])), (147, (.imul, 148, 0, 0, 0, 0, 0, 0, [])), (148, (.if_icmp .le 13, 151, 161, 0, 0, 0, 0, 0, [])), (151, (.iload 5, 153, 0, 0, 0, 0, 0, 0, [])), (153, (.istore_n 2, 154, 0, 0, 0, 0, 0, 0, [])), (154, (.iload 6, 156, 0, 0, 0, 0, 0, 0, [])), (156, (.istore_n 3, 157, 0, 0, 0, 0, 0, 0, [])), (157, (.iload 7, 159, 0, 0, 0, 0, 0, 0, [])), (159, (.istore 4, 161, 0, 0, 0, 0, 0, 0, []))],
  [(161, (.iinc 5 1, 164, 0, 1, 0, 0, 0, 0, [])), (164, (.goto (-134), 167, 30, 0, 0, 0, 0, 0, [])), (167, (.aload_n 0, 168, 0, 0, 0, 0, 0, 0, [])), (168, (.invokevirtual 241, 171, 0, 0, 0, 0, 0, 1140, [])), (171, (.iload_n 2, 172, 0, 0, 0, 0, 0, 0, [])), (172, (.iconst (-1), 173, 0, -1, 0, 0, 0, 0, [])), (173, (.if_icmp .eq 7, 176, 180, 0, 0, 0, 0, 0, []))],
  [(176, (.iload_n 1, 177, 0, 0, 0, 0, 0, 0, [])), (177, (.ifCond .ne 5, 180, 182, 0, 0, 0, 0, 0, [])), (180, (.iload_n 2, 181, 0, 0, 0, 0, 0, 0, [])), (181, (.ireturn, 182, 0, 0, 0, 0, 0, 0, [])), (182, (.iload_n 1, 183, 0, 0, 0, 0, 0, 0, [])), (183, (.iconst 1, 184, 0, 1, 0, 0, 0, 0, [])), (184, (.if_icmp .ne 7, 187, 191, 0, 0, 0, 0, 0, [])), (187, (.iload_n 3, 188, 0, 0, 0, 0, 0, 0, [])), (188, (.goto 5, 191, 193, 0, 0, 0, 0, 0, [])), (191, (.iload 4, 193, 0, 0, 0, 0, 0, 0, []))],
  [(193, (.iload_n 3, 194, 0, 0, 0, 0, 0, 0, [])), (194, (.iload 4, 196, 0, 0, 0, 0, 0, 0, [])), (196, (.invokestatic 257, 199, 0, 0, 0, 0, 0, 1180, [])), (199, (.idiv, 200, 0, 0, 0, 0, 0, 0, [])), (200, (.ireturn, 201, 0, 0, 0, 0, 0, 0, []))]])
set_option maxRecDepth 100000 in
theorem kX8_last : xMk mX8_last = true := by decide +kernel
set_option maxRecDepth 100000 in
theorem bX8_last : xcB mX8_last 0 1 = true := by decide +kernel
def mX8_fares : xM := (yX8_fares, cX8_fares, 3, (some .int), [
  [(0, (.aload_n 0, 1, 0, 0, 0, 0, 0, 0, [])), (1, (.invokevirtual 222, 4, 0, 0, 0, 0, 0, 1073, [])), (4, (.aload_n 0, 5, 0, 0, 0, 0, 0, 0, [])), (5, (.invokevirtual 238, 8, 0, 0, 0, 0, 0, 1136, [])), (8, (.iconst 0, 9, 0, 0, 0, 0, 0, 0, [])), (9, (.istore_n 1, 10, 0, 0, 0, 0, 0, 0, [])), (10, (.iconst 0, 11, 0, 0, 0, 0, 0, 0, [])), (11, (.istore_n 2, 12, 0, 0, 0, 0, 0, 0, [])), (12, (.iload_n 2, 13, 0, 0, 0, 0, 0, 0, [])), (13, (.bipush 8, 15, 0, 8, 0, 0, 0, 0, [])), (15, (.if_icmp .ge 36, 18, 51, 0, 0, 0, 0, 0, []))],
  [(18, (.iload_n 1, 19, 0, 0, 0, 0, 0, 0, [])), (19, (.aload_n 0, 20, 0, 0, 0, 0, 0, 0, [])), (20, (.getfield 70, 23, 0, 0, 0, 8, 7, 869, [])), (23, (.iload_n 2, 24, 0, 0, 0, 0, 0, 0, [])), (24, (.invokestatic 73, 27, 0, 0, 0, 0, 0, 1038, [])), (27, (.ifCond .eq 15, 30, 42, 0, 0, 0, 0, 0, [])), (30, (.aload_n 0, 31, 0, 0, 0, 0, 0, 0, [])), (31, (.getfield 44, 34, 0, 0, 0, 8, 26, 888, []))],
  [(34, (.bipush 33, 36, 0, 33, 0, 0, 0, 0, [])), (36, (.iload_n 2, 37, 0, 0, 0, 0, 0, 0, [])), (37, (.iadd, 38, 0, 0, 0, 0, 0, 0, [])), (38, (.iaload, 39, 0, 0, 0, 0, 0, 0, [])), (39, (.goto 4, 42, 43, 0, 0, 0, 0, 0, [])), (42, (.iconst 0, 43, 0, 0, 0, 0, 0, 0, [])), (43, (.iadd, 44, 0, 0, 0, 0, 0, 0, [])), (44, (.istore_n 1, 45, 0, 0, 0, 0, 0, 0, [])), (45, (.iinc 2 1, 48, 0, 1, 0, 0, 0, 0, []))],
  [(48, (.goto (-36), 51, 12, 0, 0, 0, 0, 0, [])), (51, (.aload_n 0, 52, 0, 0, 0, 0, 0, 0, [])), (52, (.invokevirtual 241, 55, 0, 0, 0, 0, 0, 1140, [])), (55, (.iload_n 1, 56, 0, 0, 0, 0, 0, 0, [])), (56, (.ireturn, 57, 0, 0, 0, 0, 0, 0, []))]])
set_option maxRecDepth 100000 in
theorem kX8_fares : xMk mX8_fares = true := by decide +kernel
set_option maxRecDepth 100000 in
theorem bX8_fares : xcB mX8_fares 0 0 = true := by decide +kernel
def mX8_seen : xM := (yX8_seen, cX8_seen, 3, (some .int), [
  [(0, (.aload_n 0, 1, 0, 0, 0, 0, 0, 0, [])), (1, (.iload_n 1, 2, 0, 0, 0, 0, 0, 0, [])), (2, (.invokevirtual 251, 5, 0, 0, 0, 0, 0, 1164, [])), (5, (.ifCond .ne 6, 8, 11, 0, 0, 0, 0, 0, [])), (8, (.bipush (-2), 10, 0, -2, 0, 0, 0, 0, [])), (10, (.ireturn, 11, 0, 0, 0, 0, 0, 0, [])), (11, (.iload_n 2, 12, 0, 0, 0, 0, 0, 0, [])), (12, (.iconst 0, 13, 0, 0, 0, 0, 0, 0, [])), (13, (.bipush 59, 15, 0, 59, 0, 0, 0, 0, [])), (15, (.invokestatic 66, 18, 0, 0, 0, 0, 0, 978, []))],
  [(18, (.ifCond .ne 6, 21, 24, 0, 0, 0, 0, 0, [])), (21, (.bipush (-3), 23, 0, -3, 0, 0, 0, 0, [])), (23, (.ireturn, 24, 0, 0, 0, 0, 0, 0, [])), (24, (.aload_n 0, 25, 0, 0, 0, 0, 0, 0, [])), (25, (.getfield 185, 28, 0, 0, 0, 8, 11, 873, [])), (28, (.bipush 8, 30, 0, 8, 0, 0, 0, 0, [])), (30, (.if_icmp .ne 6, 33, 36, 0, 0, 0, 0, 0, []))],
  [(33, (.bipush (-5), 35, 0, -5, 0, 0, 0, 0, [])), (35, (.ireturn, 36, 0, 0, 0, 0, 0, 0, [])), (36, (.aload_n 0, 37, 0, 0, 0, 0, 0, 0, [])), (37, (.getfield 35, 40, 0, 0, 0, 8, 12, 874, [])), (40, (.iconst 2, 41, 0, 2, 0, 0, 0, 0, [])), (41, (.aload_n 0, 42, 0, 0, 0, 0, 0, 0, [])), (42, (.getfield 185, 45, 0, 0, 0, 8, 11, 873, [])), (45, (.imul, 46, 0, 0, 0, 0, 0, 0, [])), (46, (.iload_n 1, 47, 0, 0, 0, 0, 0, 0, [])), (47, (.iastore, 48, 0, 0, 0, 0, 0, 0, []))],
  [(48, (.aload_n 0, 49, 0, 0, 0, 0, 0, 0, [])), (49, (.getfield 35, 52, 0, 0, 0, 8, 12, 874, [])), (52, (.iconst 2, 53, 0, 2, 0, 0, 0, 0, [])), (53, (.aload_n 0, 54, 0, 0, 0, 0, 0, 0, [])), (54, (.getfield 185, 57, 0, 0, 0, 8, 11, 873, [])), (57, (.imul, 58, 0, 0, 0, 0, 0, 0, [])), (58, (.iconst 1, 59, 0, 1, 0, 0, 0, 0, [])), (59, (.iadd, 60, 0, 0, 0, 0, 0, 0, [])), (60, (.iload_n 2, 61, 0, 0, 0, 0, 0, 0, [])), (61, (.iastore, 62, 0, 0, 0, 0, 0, 0, [])), (62, (.aload_n 0, 63, 0, 0, 0, 0, 0, 0, [])), (63, (.dup, 64, 0, 0, 0, 0, 0, 0, []))],
  [(64, (.getfield 185, 67, 0, 0, 0, 8, 11, 873, [])), (67, (.iconst 1, 68, 0, 1, 0, 0, 0, 0, [])), (68, (.iadd, 69, 0, 0, 0, 0, 0, 0, [])), (69, (.putfield 185, 72, 0, 0, 0, 8, 11, 873, [])), (72, (.aload_n 0, 73, 0, 0, 0, 0, 0, 0, [])), (73, (.getfield 185, 76, 0, 0, 0, 8, 11, 873, [])), (76, (.ireturn, 77, 0, 0, 0, 0, 0, 0, []))]])
set_option maxRecDepth 100000 in
theorem kX8_seen : xMk mX8_seen = true := by decide +kernel
set_option maxRecDepth 100000 in
theorem bX8_seen : xcB mX8_seen 0 2 = true := by decide +kernel
def mX8_forget : xM := (yX8_forget, cX8_forget, 2, (some .int), [
  [(0, (.aload_n 0, 1, 0, 0, 0, 0, 0, 0, [])), (1, (.getfield 185, 4, 0, 0, 0, 8, 11, 873, [])), (4, (.istore_n 1, 5, 0, 0, 0, 0, 0, 0, [])), (5, (.aload_n 0, 6, 0, 0, 0, 0, 0, 0, [])), (6, (.iconst 0, 7, 0, 0, 0, 0, 0, 0, [])), (7, (.putfield 185, 10, 0, 0, 0, 8, 11, 873, [])), (10, (.iload_n 1, 11, 0, 0, 0, 0, 0, 0, [])), (11, (.ireturn, 12, 0, 0, 0, 0, 0, 0, []))]])
set_option maxRecDepth 100000 in
theorem kX8_forget : xMk mX8_forget = true := by decide +kernel
set_option maxRecDepth 100000 in
theorem bX8_forget : xcB mX8_forget 0 0 = true := by decide +kernel
def mX8_areSeen : xM := (yX8_areSeen, cX8_areSeen, 5, (some .boolean), [
  [(0, (.iconst 1, 1, 0, 1, 0, 0, 0, 0, [])), (1, (.istore_n 1, 2, 0, 0, 0, 0, 0, 0, [])), (2, (.iconst 0, 3, 0, 0, 0, 0, 0, 0, [])), (3, (.istore_n 2, 4, 0, 0, 0, 0, 0, 0, [])), (4, (.iload_n 2, 5, 0, 0, 0, 0, 0, 0, [])), (5, (.aload_n 0, 6, 0, 0, 0, 0, 0, 0, [])), (6, (.getfield 185, 9, 0, 0, 0, 8, 11, 873, [])), (9, (.if_icmp .ge 105, 12, 114, 0, 0, 0, 0, 0, [])), (12, (.iconst 0, 13, 0, 0, 0, 0, 0, 0, [])), (13, (.istore_n 3, 14, 0, 0, 0, 0, 0, 0, [])), (14, (.iconst 0, 15, 0, 0, 0, 0, 0, 0, [])), (15, (.istore 4, 17, 0, 0, 0, 0, 0, 0, []))],
  [(17, (.iload 4, 19, 0, 0, 0, 0, 0, 0, [])), (19, (.aload_n 0, 20, 0, 0, 0, 0, 0, 0, [])), (20, (.invokevirtual 205, 23, 0, 0, 0, 0, 0, 1097, [])), (23, (.if_icmp .ge 71, 26, 94, 0, 0, 0, 0, 0, [])), (26, (.iload_n 3, 27, 0, 0, 0, 0, 0, 0, [])), (27, (.ifCond .ne 55, 30, 82, 0, 0, 0, 0, 0, [])), (30, (.aload_n 0, 31, 0, 0, 0, 0, 0, 0, [])), (31, (.getfield 44, 34, 0, 0, 0, 8, 26, 888, []))],
  [(34, (.bipush 93, 36, 0, 93, 0, 0, 0, 0, [])), (36, (.iconst 4, 37, 0, 4, 0, 0, 0, 0, [])), (37, (.iload 4, 39, 0, 0, 0, 0, 0, 0, [])), (39, (.imul, 40, 0, 0, 0, 0, 0, 0, [])), (40, (.iadd, 41, 0, 0, 0, 0, 0, 0, [])), (41, (.iconst 1, 42, 0, 1, 0, 0, 0, 0, [])), (42, (.iadd, 43, 0, 0, 0, 0, 0, 0, [])), (43, (.iaload, 44, 0, 0, 0, 0, 0, 0, [])), (44, (.aload_n 0, 45, 0, 0, 0, 0, 0, 0, [])), (45, (.getfield 35, 48, 0, 0, 0, 8, 12, 874, []))],
  [(48, (.iconst 2, 49, 0, 2, 0, 0, 0, 0, [])), (49, (.iload_n 2, 50, 0, 0, 0, 0, 0, 0, [])), (50, (.imul, 51, 0, 0, 0, 0, 0, 0, [])), (51, (.iaload, 52, 0, 0, 0, 0, 0, 0, [])), (52, (.if_icmp .ne 34, 55, 86, 0, 0, 0, 0, 0, [])), (55, (.aload_n 0, 56, 0, 0, 0, 0, 0, 0, [])), (56, (.getfield 44, 59, 0, 0, 0, 8, 26, 888, [])), (59, (.bipush 93, 61, 0, 93, 0, 0, 0, 0, [])), (61, (.iconst 4, 62, 0, 4, 0, 0, 0, 0, [])), (62, (.iload 4, 64, 0, 0, 0, 0, 0, 0, []))],
  [(64, (.imul, 65, 0, 0, 0, 0, 0, 0, [])), (65, (.iadd, 66, 0, 0, 0, 0, 0, 0, [])), (66, (.iconst 2, 67, 0, 2, 0, 0, 0, 0, [])), (67, (.iadd, 68, 0, 0, 0, 0, 0, 0, [])), (68, (.iaload, 69, 0, 0, 0, 0, 0, 0, [])), (69, (.aload_n 0, 70, 0, 0, 0, 0, 0, 0, [])), (70, (.getfield 35, 73, 0, 0, 0, 8, 12, 874, [])), (73, (.iconst 2, 74, 0, 2, 0, 0, 0, 0, [])), (74, (.iload_n 2, 75, 0, 0, 0, 0, 0, 0, [])), (75, (.imul, 76, 0, 0, 0, 0, 0, 0, [])), (76, (.iconst 1, 77, 0, 1, 0, 0, 0, 0, [])), (77, (.iadd, 78, 0, 0, 0, 0, 0, 0, [])), (78, (.iaload, 79, 0, 0, 0, 0, 0, 0, [])), (79, (.if_icmp .ne 7, 82, 86, 0, 0, 0, 0, 0, []))],
  [(82, (.iconst 1, 83, 0, 1, 0, 0, 0, 0, [])), (83, (.goto 4, 86, 87, 0, 0, 0, 0, 0, [])), (86, (.iconst 0, 87, 0, 0, 0, 0, 0, 0, [])), (87, (.istore_n 3, 88, 0, 0, 0, 0, 0, 0, [])), (88, (.iinc 4 1, 91, 0, 1, 0, 0, 0, 0, [])), (91, (.goto (-74), 94, 17, 0, 0, 0, 0, 0, [])), (94, (.iload_n 1, 95, 0, 0, 0, 0, 0, 0, [])), (95, (.ifCond .eq 11, 98, 106, 0, 0, 0, 0, 0, []))],
  [(98, (.iload_n 3, 99, 0, 0, 0, 0, 0, 0, [])), (99, (.ifCond .eq 7, 102, 106, 0, 0, 0, 0, 0, [])), (102, (.iconst 1, 103, 0, 1, 0, 0, 0, 0, [])), (103, (.goto 4, 106, 107, 0, 0, 0, 0, 0, [])), (106, (.iconst 0, 107, 0, 0, 0, 0, 0, 0, [])), (107, (.istore_n 1, 108, 0, 0, 0, 0, 0, 0, [])), (108, (.iinc 2 1, 111, 0, 1, 0, 0, 0, 0, [])), (111, (.goto (-107), 114, 4, 0, 0, 0, 0, 0, []))],
  [(114, (.iload_n 1, 115, 0, 0, 0, 0, 0, 0, [])), (115, (.ireturn, 116, 0, 0, 0, 0, 0, 0, []))]])
set_option maxRecDepth 100000 in
theorem kX8_areSeen : xMk mX8_areSeen = true := by decide +kernel
set_option maxRecDepth 100000 in
theorem bX8_areSeen : xcB mX8_areSeen 0 0 = true := by decide +kernel
def mX8_layLaws : xM := (yX8_layLaws, cX8_layLaws, 3, none, [
  [(0, (.aload_n 0, 1, 0, 0, 0, 0, 0, 0, [])), (1, (.iconst 0, 2, 0, 0, 0, 0, 0, 0, [])), (2, (.putfield 261, 5, 0, 0, 0, 8, 34, 896, [])), (5, (.aload_n 0, 6, 0, 0, 0, 0, 0, 0, [])), (6, (.iconst (-1), 7, 0, -1, 0, 0, 0, 0, [])), (7, (.putfield 264, 10, 0, 0, 0, 8, 35, 897, [])), (10, (.iconst 0, 11, 0, 0, 0, 0, 0, 0, [])), (11, (.istore_n 1, 12, 0, 0, 0, 0, 0, 0, [])), (12, (.iload_n 1, 13, 0, 0, 0, 0, 0, 0, [])), (13, (.iconst 3, 14, 0, 3, 0, 0, 0, 0, [])), (14, (.if_icmp .ge 16, 17, 30, 0, 0, 0, 0, 0, []))],
  [(17, (.aload_n 0, 18, 0, 0, 0, 0, 0, 0, [])), (18, (.getfield 60, 21, 0, 0, 0, 8, 36, 898, [])), (21, (.iload_n 1, 22, 0, 0, 0, 0, 0, 0, [])), (22, (.iconst 0, 23, 0, 0, 0, 0, 0, 0, [])), (23, (.iastore, 24, 0, 0, 0, 0, 0, 0, [])), (24, (.iinc 1 1, 27, 0, 1, 0, 0, 0, 0, [])), (27, (.goto (-15), 30, 12, 0, 0, 0, 0, 0, [])), (30, (.bipush 30, 32, 0, 30, 0, 0, 0, 0, []))],
  [(32, (.istore_n 1, 33, 0, 0, 0, 0, 0, 0, [])), (33, (.iload_n 1, 34, 0, 0, 0, 0, 0, 0, [])), (34, (.sipush 240, 37, 0, 240, 0, 0, 0, 0, [])), (37, (.if_icmp .ge 105, 40, 142, 0, 0, 0, 0, 0, [])), (40, (.aload_n 0, 41, 0, 0, 0, 0, 0, 0, [])), (41, (.invokevirtual 222, 44, 0, 0, 0, 0, 0, 1073, [])), (44, (.aload_n 0, 45, 0, 0, 0, 0, 0, 0, [])), (45, (.iload_n 1, 46, 0, 0, 0, 0, 0, 0, [])), (46, (.bipush 30, 48, 0, 30, 0, 0, 0, 0, []))],
  [(48, (.idiv, 49, 0, 0, 0, 0, 0, 0, [])), (49, (.putfield 199, 52, 0, 0, 0, 8, 30, 892, [])), (52, (.aload_n 0, 53, 0, 0, 0, 0, 0, 0, [])), (53, (.iload_n 1, 54, 0, 0, 0, 0, 0, 0, [])), (54, (.bipush 30, 56, 0, 30, 0, 0, 0, 0, [])), (56, (.irem, 57, 0, 0, 0, 0, 0, 0, [])), (57, (.iconst 1, 58, 0, 1, 0, 0, 0, 0, [])), (58, (.iadd, 59, 0, 0, 0, 0, 0, 0, [])), (59, (.putfield 202, 62, 0, 0, 0, 8, 31, 893, [])), (62, (.aload_n 0, 63, 0, 0, 0, 0, 0, 0, [])), (63, (.invokevirtual 238, 66, 0, 0, 0, 0, 0, 1136, []))],
  [(66, (.aload_n 0, 67, 0, 0, 0, 0, 0, 0, [])), (67, (.invokevirtual 267, 70, 0, 0, 0, 0, 0, 1203, [])), (70, (.ifCond .eq 62, 73, 132, 0, 0, 0, 0, 0, [])), (73, (.aload_n 0, 74, 0, 0, 0, 0, 0, 0, [])), (74, (.aload_n 0, 75, 0, 0, 0, 0, 0, 0, [])), (75, (.getfield 261, 78, 0, 0, 0, 8, 34, 896, [])), (78, (.ifCond .ne 7, 81, 85, 0, 0, 0, 0, 0, []))],
  [(81, (.iload_n 1, 82, 0, 0, 0, 0, 0, 0, [])), (82, (.goto 7, 85, 89, 0, 0, 0, 0, 0, [])), (85, (.aload_n 0, 86, 0, 0, 0, 0, 0, 0, [])), (86, (.getfield 264, 89, 0, 0, 0, 8, 35, 897, [])), (89, (.putfield 264, 92, 0, 0, 0, 8, 35, 897, [])), (92, (.aload_n 0, 93, 0, 0, 0, 0, 0, 0, [])), (93, (.dup, 94, 0, 0, 0, 0, 0, 0, [])), (94, (.getfield 261, 97, 0, 0, 0, 8, 34, 896, []))],
  [(97, (.iconst 1, 98, 0, 1, 0, 0, 0, 0, [])), (98, (.iadd, 99, 0, 0, 0, 0, 0, 0, [])), (99, (.putfield 261, 102, 0, 0, 0, 8, 34, 896, [])), (102, (.iconst 0, 103, 0, 0, 0, 0, 0, 0, [])), (103, (.istore_n 2, 104, 0, 0, 0, 0, 0, 0, [])), (104, (.iload_n 2, 105, 0, 0, 0, 0, 0, 0, [])), (105, (.iconst 3, 106, 0, 3, 0, 0, 0, 0, [])), (106, (.if_icmp .ge 26, 109, 132, 0, 0, 0, 0, 0, [])), (109, (.aload_n 0, 110, 0, 0, 0, 0, 0, 0, [])), (110, (.getfield 60, 113, 0, 0, 0, 8, 36, 898, []))],
  [(113, (.iload_n 2, 114, 0, 0, 0, 0, 0, 0, [])), (114, (.dup2, 115, 0, 0, 0, 0, 0, 0, [])), (115, (.iaload, 116, 0, 0, 0, 0, 0, 0, [])), (116, (.iload_n 1, 117, 0, 0, 0, 0, 0, 0, [])), (117, (.bipush 30, 119, 0, 30, 0, 0, 0, 0, [])), (119, (.idiv, 120, 0, 0, 0, 0, 0, 0, [])), (120, (.iload_n 2, 121, 0, 0, 0, 0, 0, 0, [])), (121, (.ishr, 122, 0, 0, 0, 0, 0, 0, [])), (122, (.iconst 1, 123, 0, 1, 0, 0, 0, 0, [])), (123, (.iand, 124, 0, 0, 0, 0, 0, 0, [])), (124, (.iadd, 125, 0, 0, 0, 0, 0, 0, [])), (125, (.iastore, 126, 0, 0, 0, 0, 0, 0, [])), (126, (.iinc 2 1, 129, 0, 1, 0, 0, 0, 0, []))],
  [(129, (.goto (-25), 132, 104, 0, 0, 0, 0, 0, [])), (132, (.aload_n 0, 133, 0, 0, 0, 0, 0, 0, [])), (133, (.invokevirtual 241, 136, 0, 0, 0, 0, 0, 1140, [])), (136, (.iinc 1 1, 139, 0, 1, 0, 0, 0, 0, [])), (139, (.goto (-106), 142, 33, 0, 0, 0, 0, 0, [])), (142, (.return_, 143, 0, 0, 0, 0, 0, 0, []))]])
set_option maxRecDepth 100000 in
theorem kX8_layLaws : xMk mX8_layLaws = true := by decide +kernel
set_option maxRecDepth 100000 in
theorem bX8_layLaws : xcB mX8_layLaws 0 0 = true := by decide +kernel
def mX8_read : xM := (yX8_read, cX8_read, 2, (some .int), [
  [(0, (.iload_n 1, 1, 0, 0, 0, 0, 0, 0, [])), (1, (.iconst 0, 2, 0, 0, 0, 0, 0, 0, [])), (2, (.iconst 2, 3, 0, 2, 0, 0, 0, 0, [])), (3, (.invokestatic 66, 6, 0, 0, 0, 0, 0, 978, [])), (6, (.ifCond .ne 6, 9, 12, 0, 0, 0, 0, 0, [])), (9, (.bipush (-3), 11, 0, -3, 0, 0, 0, 0, [])), (11, (.ireturn, 12, 0, 0, 0, 0, 0, 0, [])), (12, (.aload_n 0, 13, 0, 0, 0, 0, 0, 0, [])), (13, (.invokevirtual 270, 16, 0, 0, 0, 0, 0, 1199, []))],
  [(16, (.iload_n 1, 17, 0, 0, 0, 0, 0, 0, [])), (17, (.ifCond .ne 10, 20, 27, 0, 0, 0, 0, 0, [])), (20, (.aload_n 0, 21, 0, 0, 0, 0, 0, 0, [])), (21, (.getfield 261, 24, 0, 0, 0, 8, 34, 896, [])), (24, (.goto 38, 27, 62, 0, 0, 0, 0, 0, [])), (27, (.aload_n 0, 28, 0, 0, 0, 0, 0, 0, [])), (28, (.getfield 261, 31, 0, 0, 0, 8, 34, 896, [])), (31, (.ifCond .ne 7, 34, 38, 0, 0, 0, 0, 0, []))],
  [(34, (.iconst (-1), 35, 0, -1, 0, 0, 0, 0, [])), (35, (.goto 27, 38, 62, 0, 0, 0, 0, 0, [])), (38, (.iload_n 1, 39, 0, 0, 0, 0, 0, 0, [])), (39, (.iconst 1, 40, 0, 1, 0, 0, 0, 0, [])), (40, (.if_icmp .ne 13, 43, 53, 0, 0, 0, 0, 0, [])), (43, (.aload_n 0, 44, 0, 0, 0, 0, 0, 0, [])), (44, (.getfield 264, 47, 0, 0, 0, 8, 35, 897, [])), (47, (.bipush 30, 49, 0, 30, 0, 0, 0, 0, []))],
  [(49, (.idiv, 50, 0, 0, 0, 0, 0, 0, [])), (50, (.goto 12, 53, 62, 0, 0, 0, 0, 0, [])), (53, (.aload_n 0, 54, 0, 0, 0, 0, 0, 0, [])), (54, (.getfield 264, 57, 0, 0, 0, 8, 35, 897, [])), (57, (.bipush 30, 59, 0, 30, 0, 0, 0, 0, [])), (59, (.irem, 60, 0, 0, 0, 0, 0, 0, [])), (60, (.iconst 1, 61, 0, 1, 0, 0, 0, 0, [])), (61, (.iadd, 62, 0, 0, 0, 0, 0, 0, [])), (62, (.ireturn, 63, 0, 0, 0, 0, 0, 0, []))]])
set_option maxRecDepth 100000 in
theorem kX8_read : xMk mX8_read = true := by decide +kernel
set_option maxRecDepth 100000 in
theorem bX8_read : xcB mX8_read 0 1 = true := by decide +kernel
def mX8_odds : xM := (yX8_odds, cX8_odds, 3, (some .int), [
  [(0, (.iload_n 1, 1, 0, 0, 0, 0, 0, 0, [])), (1, (.iconst 0, 2, 0, 0, 0, 0, 0, 0, [])), (2, (.iconst 2, 3, 0, 2, 0, 0, 0, 0, [])), (3, (.invokestatic 66, 6, 0, 0, 0, 0, 0, 978, [])), (6, (.ifCond .eq 12, 9, 18, 0, 0, 0, 0, 0, [])), (9, (.iload_n 2, 10, 0, 0, 0, 0, 0, 0, [])), (10, (.iconst 0, 11, 0, 0, 0, 0, 0, 0, [])), (11, (.iconst 1, 12, 0, 1, 0, 0, 0, 0, [])), (12, (.invokestatic 66, 15, 0, 0, 0, 0, 0, 978, [])), (15, (.ifCond .ne 6, 18, 21, 0, 0, 0, 0, 0, []))],
  [(18, (.bipush (-3), 20, 0, -3, 0, 0, 0, 0, [])), (20, (.ireturn, 21, 0, 0, 0, 0, 0, 0, [])), (21, (.aload_n 0, 22, 0, 0, 0, 0, 0, 0, [])), (22, (.invokevirtual 270, 25, 0, 0, 0, 0, 0, 1199, [])), (25, (.aload_n 0, 26, 0, 0, 0, 0, 0, 0, [])), (26, (.getfield 261, 29, 0, 0, 0, 8, 34, 896, [])), (29, (.ifCond .ne 6, 32, 35, 0, 0, 0, 0, 0, []))],
  [(32, (.bipush (-4), 34, 0, -4, 0, 0, 0, 0, [])), (34, (.ireturn, 35, 0, 0, 0, 0, 0, 0, [])), (35, (.iload_n 2, 36, 0, 0, 0, 0, 0, 0, [])), (36, (.ifCond .ne 12, 39, 48, 0, 0, 0, 0, 0, [])), (39, (.aload_n 0, 40, 0, 0, 0, 0, 0, 0, [])), (40, (.getfield 60, 43, 0, 0, 0, 8, 36, 898, [])), (43, (.iload_n 1, 44, 0, 0, 0, 0, 0, 0, [])), (44, (.iaload, 45, 0, 0, 0, 0, 0, 0, [])), (45, (.goto 7, 48, 52, 0, 0, 0, 0, 0, []))],
  [(48, (.aload_n 0, 49, 0, 0, 0, 0, 0, 0, [])), (49, (.getfield 261, 52, 0, 0, 0, 8, 34, 896, [])), (52, (.aload_n 0, 53, 0, 0, 0, 0, 0, 0, [])), (53, (.getfield 60, 56, 0, 0, 0, 8, 36, 898, [])), (56, (.iload_n 1, 57, 0, 0, 0, 0, 0, 0, [])), (57, (.iaload, 58, 0, 0, 0, 0, 0, 0, [])), (58, (.aload_n 0, 59, 0, 0, 0, 0, 0, 0, [])), (59, (.getfield 261, 62, 0, 0, 0, 8, 34, 896, [])), (62, (.invokestatic 257, 65, 0, 0, 0, 0, 0, 1180, []))],
  [(65, (.idiv, 66, 0, 0, 0, 0, 0, 0, [])), (66, (.ireturn, 67, 0, 0, 0, 0, 0, 0, []))]])
set_option maxRecDepth 100000 in
theorem kX8_odds : xMk mX8_odds = true := by decide +kernel
set_option maxRecDepth 100000 in
theorem bX8_odds : xcB mX8_odds 0 2 = true := by decide +kernel
def mX8_count : xM := (yX8_count, cX8_count, 2, (some .int), [
  [(0, (.iload_n 1, 1, 0, 0, 0, 0, 0, 0, [])), (1, (.tableswitch 125 0 11 #[63, 68, 73, 78, 83, 88, 93, 98, 103, 110, 115, 120], 64, 126, 0, 0, 0, 0, 0, [(0, 64), (1, 69), (2, 74), (3, 79), (4, 84), (5, 89), (6, 94), (7, 99), (8, 104), (9, 111), (10, 116), (11, 121)]))],
  [],
  [],
  [],
  [(64, (.aload_n 0, 65, 0, 0, 0, 0, 0, 0, [])), (65, (.getfield 7, 68, 0, 0, 0, 8, 0, 862, [])), (68, (.ireturn, 69, 0, 0, 0, 0, 0, 0, [])), (69, (.aload_n 0, 70, 0, 0, 0, 0, 0, 0, [])), (70, (.getfield 13, 73, 0, 0, 0, 8, 1, 863, [])), (73, (.ireturn, 74, 0, 0, 0, 0, 0, 0, [])), (74, (.aload_n 0, 75, 0, 0, 0, 0, 0, 0, [])), (75, (.getfield 16, 78, 0, 0, 0, 8, 2, 864, [])), (78, (.ireturn, 79, 0, 0, 0, 0, 0, 0, [])), (79, (.aload_n 0, 80, 0, 0, 0, 0, 0, 0, []))],
  [(80, (.getfield 19, 83, 0, 0, 0, 8, 3, 865, [])), (83, (.ireturn, 84, 0, 0, 0, 0, 0, 0, [])), (84, (.aload_n 0, 85, 0, 0, 0, 0, 0, 0, [])), (85, (.getfield 22, 88, 0, 0, 0, 8, 4, 866, [])), (88, (.ireturn, 89, 0, 0, 0, 0, 0, 0, [])), (89, (.aload_n 0, 90, 0, 0, 0, 0, 0, 0, [])), (90, (.getfield 77, 93, 0, 0, 0, 8, 5, 867, [])), (93, (.ireturn, 94, 0, 0, 0, 0, 0, 0, [])), (94, (.aload_n 0, 95, 0, 0, 0, 0, 0, 0, [])), (95, (.getfield 70, 98, 0, 0, 0, 8, 7, 869, []))],
  [(98, (.ireturn, 99, 0, 0, 0, 0, 0, 0, [])), (99, (.aload_n 0, 100, 0, 0, 0, 0, 0, 0, [])), (100, (.getfield 168, 103, 0, 0, 0, 8, 9, 871, [])), (103, (.ireturn, 104, 0, 0, 0, 0, 0, 0, [])), (104, (.aload_n 0, 105, 0, 0, 0, 0, 0, 0, [])), (105, (.getfield 44, 108, 0, 0, 0, 8, 26, 888, [])), (108, (.iconst 0, 109, 0, 0, 0, 0, 0, 0, [])), (109, (.iaload, 110, 0, 0, 0, 0, 0, 0, [])), (110, (.ireturn, 111, 0, 0, 0, 0, 0, 0, [])), (111, (.aload_n 0, 112, 0, 0, 0, 0, 0, 0, []))],
  [(112, (.invokevirtual 205, 115, 0, 0, 0, 0, 0, 1097, [])), (115, (.ireturn, 116, 0, 0, 0, 0, 0, 0, [])), (116, (.aload_n 0, 117, 0, 0, 0, 0, 0, 0, [])), (117, (.getfield 185, 120, 0, 0, 0, 8, 11, 873, [])), (120, (.ireturn, 121, 0, 0, 0, 0, 0, 0, [])), (121, (.aload_n 0, 122, 0, 0, 0, 0, 0, 0, [])), (122, (.getfield 80, 125, 0, 0, 0, 8, 13, 875, [])), (125, (.ireturn, 126, 0, 0, 0, 0, 0, 0, [])), (126, (.bipush (-3), 128, 0, -3, 0, 0, 0, 0, []))],
  [(128, (.ireturn, 129, 0, 0, 0, 0, 0, 0, []))]])
set_option maxRecDepth 100000 in
theorem kX8_count : xMk mX8_count = true := by decide +kernel
set_option maxRecDepth 100000 in
theorem bX8_count : xcB mX8_count 0 1 = true := by decide +kernel
end
section
/-! the rows of the methods of L -/
def mL_law : xM := (x, code, 4, (some .boolean), [
  [(0, (.new 7, 3, 0, 0, 0, 7, 0, 18, [])), (3, (.dup, 4, 0, 0, 0, 0, 0, 0, [])), (4, (.invokespecial 9, 7, 0, 0, 0, 0, 0, 20, [])), (7, (.astore_n 1, 8, 0, 0, 0, 0, 0, 0, [])), (8, (.new 10, 11, 0, 0, 0, 8, 0, 852, [])), (11, (.dup, 12, 0, 0, 0, 0, 0, 0, [])), (12, (.invokespecial 12, 15, 0, 0, 0, 0, 0, 854, [])), (15, (.astore_n 2, 16, 0, 0, 0, 0, 0, 0, []))],
  [(16, (.iconst 0, 17, 0, 0, 0, 0, 0, 0, [])), (17, (.istore_n 3, 18, 0, 0, 0, 0, 0, 0, [])), (18, (.iload_n 3, 19, 0, 0, 0, 0, 0, 0, [])), (19, (.aload_n 0, 20, 0, 0, 0, 0, 0, 0, [])), (20, (.arraylength, 21, 0, 0, 0, 0, 0, 0, [])), (21, (.iconst 4, 22, 0, 4, 0, 0, 0, 0, [])), (22, (.isub, 23, 0, 0, 0, 0, 0, 0, [])), (23, (.if_icmp .gt 749, 26, 772, 0, 0, 0, 0, 0, [])), (26, (.aload_n 0, 27, 0, 0, 0, 0, 0, 0, [])), (27, (.iload_n 3, 28, 0, 0, 0, 0, 0, 0, [])), (28, (.iaload, 29, 0, 0, 0, 0, 0, 0, [])), (29, (.bipush 31, 31, 0, 31, 0, 0, 0, 0, [])), (31, (.iand, 32, 0, 0, 0, 0, 0, 0, []))],
  [(32, (.tableswitch 734 0 23 #[112, 175, 188, 201, 214, 247, 280, 303, 336, 369, 402, 425, 448, 471, 514, 537, 560, 573, 596, 609, 642, 655, 678, 711], 144, 766, 0, 0, 0, 0, 0, [(0, 144), (1, 207), (2, 220), (3, 233), (4, 246), (5, 279), (6, 312), (7, 335), (8, 368), (9, 401), (10, 434), (11, 457), (12, 480), (13, 503), (14, 546), (15, 569), (16, 592), (17, 605), (18, 628), (19, 641), (20, 674), (21, 687), (22, 710), (23, 743)]))],
  [],
  [],
  [],
  [],
  [],
  [],
  [(144, (.aload_n 1, 145, 0, 0, 0, 0, 0, 0, [])), (145, (.aload_n 0, 146, 0, 0, 0, 0, 0, 0, [])), (146, (.iload_n 3, 147, 0, 0, 0, 0, 0, 0, [])), (147, (.iconst 1, 148, 0, 1, 0, 0, 0, 0, [])), (148, (.iadd, 149, 0, 0, 0, 0, 0, 0, [])), (149, (.iaload, 150, 0, 0, 0, 0, 0, 0, [])), (150, (.i2l, 151, 0, 0, 0, 0, 0, 0, [])), (151, (.bipush 32, 153, 0, 32, 0, 0, 0, 0, [])), (153, (.lshl, 154, 0, 0, 0, 0, 0, 0, [])), (154, (.aload_n 0, 155, 0, 0, 0, 0, 0, 0, [])), (155, (.iload_n 3, 156, 0, 0, 0, 0, 0, 0, [])), (156, (.iconst 2, 157, 0, 2, 0, 0, 0, 0, [])), (157, (.iadd, 158, 0, 0, 0, 0, 0, 0, [])), (158, (.iaload, 159, 0, 0, 0, 0, 0, 0, [])), (159, (.i2l, 160, 0, 0, 0, 0, 0, 0, []))],
  [(160, (.ldc2_w 13, 163, 0, 0, 4294967295, 0, 0, 1215, [])), (163, (.land, 164, 0, 0, 0, 0, 0, 0, [])), (164, (.lor, 165, 0, 0, 0, 0, 0, 0, [])), (165, (.aload_n 0, 166, 0, 0, 0, 0, 0, 0, [])), (166, (.iload_n 3, 167, 0, 0, 0, 0, 0, 0, [])), (167, (.iconst 3, 168, 0, 3, 0, 0, 0, 0, [])), (168, (.iadd, 169, 0, 0, 0, 0, 0, 0, [])), (169, (.iaload, 170, 0, 0, 0, 0, 0, 0, [])), (170, (.invokevirtual 15, 173, 0, 0, 0, 0, 0, 392, [])), (173, (.aload_n 2, 174, 0, 0, 0, 0, 0, 0, [])), (174, (.aload_n 0, 175, 0, 0, 0, 0, 0, 0, [])), (175, (.iload_n 3, 176, 0, 0, 0, 0, 0, 0, []))],
  [(176, (.iconst 1, 177, 0, 1, 0, 0, 0, 0, [])), (177, (.iadd, 178, 0, 0, 0, 0, 0, 0, [])), (178, (.iaload, 179, 0, 0, 0, 0, 0, 0, [])), (179, (.i2l, 180, 0, 0, 0, 0, 0, 0, [])), (180, (.bipush 32, 182, 0, 32, 0, 0, 0, 0, [])), (182, (.lshl, 183, 0, 0, 0, 0, 0, 0, [])), (183, (.aload_n 0, 184, 0, 0, 0, 0, 0, 0, [])), (184, (.iload_n 3, 185, 0, 0, 0, 0, 0, 0, [])), (185, (.iconst 2, 186, 0, 2, 0, 0, 0, 0, [])), (186, (.iadd, 187, 0, 0, 0, 0, 0, 0, [])), (187, (.iaload, 188, 0, 0, 0, 0, 0, 0, [])), (188, (.i2l, 189, 0, 0, 0, 0, 0, 0, [])), (189, (.ldc2_w 13, 192, 0, 0, 4294967295, 0, 0, 1215, []))],
  [(192, (.land, 193, 0, 0, 0, 0, 0, 0, [])), (193, (.lor, 194, 0, 0, 0, 0, 0, 0, [])), (194, (.aload_n 0, 195, 0, 0, 0, 0, 0, 0, [])), (195, (.iload_n 3, 196, 0, 0, 0, 0, 0, 0, [])), (196, (.iconst 3, 197, 0, 3, 0, 0, 0, 0, [])), (197, (.iadd, 198, 0, 0, 0, 0, 0, 0, [])), (198, (.iaload, 199, 0, 0, 0, 0, 0, 0, [])), (199, (.invokevirtual 19, 202, 0, 0, 0, 0, 0, 974, [])), (202, (.if_icmp .eq 564, 205, 766, 0, 0, 0, 0, 0, [])), (205, (.iconst 0, 206, 0, 0, 0, 0, 0, 0, [])), (206, (.ireturn, 207, 0, 0, 0, 0, 0, 0, [])), (207, (.aload_n 1, 208, 0, 0, 0, 0, 0, 0, []))],
  [(208, (.invokevirtual 20, 211, 0, 0, 0, 0, 0, 400, [])), (211, (.aload_n 2, 212, 0, 0, 0, 0, 0, 0, [])), (212, (.invokevirtual 24, 215, 0, 0, 0, 0, 0, 982, [])), (215, (.if_icmp .eq 551, 218, 766, 0, 0, 0, 0, 0, [])), (218, (.iconst 0, 219, 0, 0, 0, 0, 0, 0, [])), (219, (.ireturn, 220, 0, 0, 0, 0, 0, 0, [])), (220, (.aload_n 1, 221, 0, 0, 0, 0, 0, 0, [])), (221, (.invokevirtual 25, 224, 0, 0, 0, 0, 0, 404, []))],
  [(224, (.aload_n 2, 225, 0, 0, 0, 0, 0, 0, [])), (225, (.invokevirtual 28, 228, 0, 0, 0, 0, 0, 986, [])), (228, (.if_icmp .eq 538, 231, 766, 0, 0, 0, 0, 0, [])), (231, (.iconst 0, 232, 0, 0, 0, 0, 0, 0, [])), (232, (.ireturn, 233, 0, 0, 0, 0, 0, 0, [])), (233, (.aload_n 1, 234, 0, 0, 0, 0, 0, 0, [])), (234, (.invokevirtual 29, 237, 0, 0, 0, 0, 0, 568, [])), (237, (.aload_n 2, 238, 0, 0, 0, 0, 0, 0, [])), (238, (.invokevirtual 32, 241, 0, 0, 0, 0, 0, 1041, []))],
  [(241, (.if_icmp .eq 525, 244, 766, 0, 0, 0, 0, 0, [])), (244, (.iconst 0, 245, 0, 0, 0, 0, 0, 0, [])), (245, (.ireturn, 246, 0, 0, 0, 0, 0, 0, [])), (246, (.aload_n 1, 247, 0, 0, 0, 0, 0, 0, [])), (247, (.aload_n 0, 248, 0, 0, 0, 0, 0, 0, [])), (248, (.iload_n 3, 249, 0, 0, 0, 0, 0, 0, [])), (249, (.iconst 1, 250, 0, 1, 0, 0, 0, 0, [])), (250, (.iadd, 251, 0, 0, 0, 0, 0, 0, [])), (251, (.iaload, 252, 0, 0, 0, 0, 0, 0, [])), (252, (.aload_n 0, 253, 0, 0, 0, 0, 0, 0, [])), (253, (.iload_n 3, 254, 0, 0, 0, 0, 0, 0, [])), (254, (.iconst 2, 255, 0, 2, 0, 0, 0, 0, [])), (255, (.iadd, 256, 0, 0, 0, 0, 0, 0, []))],
  [(256, (.iaload, 257, 0, 0, 0, 0, 0, 0, [])), (257, (.invokevirtual 33, 260, 0, 0, 0, 0, 0, 581, [])), (260, (.aload_n 2, 261, 0, 0, 0, 0, 0, 0, [])), (261, (.aload_n 0, 262, 0, 0, 0, 0, 0, 0, [])), (262, (.iload_n 3, 263, 0, 0, 0, 0, 0, 0, [])), (263, (.iconst 1, 264, 0, 1, 0, 0, 0, 0, [])), (264, (.iadd, 265, 0, 0, 0, 0, 0, 0, [])), (265, (.iaload, 266, 0, 0, 0, 0, 0, 0, [])), (266, (.aload_n 0, 267, 0, 0, 0, 0, 0, 0, [])), (267, (.iload_n 3, 268, 0, 0, 0, 0, 0, 0, [])), (268, (.iconst 2, 269, 0, 2, 0, 0, 0, 0, [])), (269, (.iadd, 270, 0, 0, 0, 0, 0, 0, [])), (270, (.iaload, 271, 0, 0, 0, 0, 0, 0, [])), (271, (.invokevirtual 37, 274, 0, 0, 0, 0, 0, 1053, []))],
  [(274, (.if_icmp .eq 492, 277, 766, 0, 0, 0, 0, 0, [])), (277, (.iconst 0, 278, 0, 0, 0, 0, 0, 0, [])), (278, (.ireturn, 279, 0, 0, 0, 0, 0, 0, [])), (279, (.aload_n 1, 280, 0, 0, 0, 0, 0, 0, [])), (280, (.aload_n 0, 281, 0, 0, 0, 0, 0, 0, [])), (281, (.iload_n 3, 282, 0, 0, 0, 0, 0, 0, [])), (282, (.iconst 1, 283, 0, 1, 0, 0, 0, 0, [])), (283, (.iadd, 284, 0, 0, 0, 0, 0, 0, [])), (284, (.iaload, 285, 0, 0, 0, 0, 0, 0, [])), (285, (.aload_n 0, 286, 0, 0, 0, 0, 0, 0, [])), (286, (.iload_n 3, 287, 0, 0, 0, 0, 0, 0, [])), (287, (.iconst 2, 288, 0, 2, 0, 0, 0, 0, []))],
  [(288, (.iadd, 289, 0, 0, 0, 0, 0, 0, [])), (289, (.iaload, 290, 0, 0, 0, 0, 0, 0, [])), (290, (.invokevirtual 38, 293, 0, 0, 0, 0, 0, 585, [])), (293, (.aload_n 2, 294, 0, 0, 0, 0, 0, 0, [])), (294, (.aload_n 0, 295, 0, 0, 0, 0, 0, 0, [])), (295, (.iload_n 3, 296, 0, 0, 0, 0, 0, 0, [])), (296, (.iconst 1, 297, 0, 1, 0, 0, 0, 0, [])), (297, (.iadd, 298, 0, 0, 0, 0, 0, 0, [])), (298, (.iaload, 299, 0, 0, 0, 0, 0, 0, [])), (299, (.aload_n 0, 300, 0, 0, 0, 0, 0, 0, [])), (300, (.iload_n 3, 301, 0, 0, 0, 0, 0, 0, [])), (301, (.iconst 2, 302, 0, 2, 0, 0, 0, 0, [])), (302, (.iadd, 303, 0, 0, 0, 0, 0, 0, [])), (303, (.iaload, 304, 0, 0, 0, 0, 0, 0, []))],
  [(304, (.invokevirtual 41, 307, 0, 0, 0, 0, 0, 1057, [])), (307, (.if_icmp .eq 459, 310, 766, 0, 0, 0, 0, 0, [])), (310, (.iconst 0, 311, 0, 0, 0, 0, 0, 0, [])), (311, (.ireturn, 312, 0, 0, 0, 0, 0, 0, [])), (312, (.aload_n 1, 313, 0, 0, 0, 0, 0, 0, [])), (313, (.aload_n 0, 314, 0, 0, 0, 0, 0, 0, [])), (314, (.iload_n 3, 315, 0, 0, 0, 0, 0, 0, [])), (315, (.iconst 1, 316, 0, 1, 0, 0, 0, 0, [])), (316, (.iadd, 317, 0, 0, 0, 0, 0, 0, [])), (317, (.iaload, 318, 0, 0, 0, 0, 0, 0, [])), (318, (.invokevirtual 42, 321, 0, 0, 0, 0, 0, 602, []))],
  [(321, (.aload_n 2, 322, 0, 0, 0, 0, 0, 0, [])), (322, (.aload_n 0, 323, 0, 0, 0, 0, 0, 0, [])), (323, (.iload_n 3, 324, 0, 0, 0, 0, 0, 0, [])), (324, (.iconst 1, 325, 0, 1, 0, 0, 0, 0, [])), (325, (.iadd, 326, 0, 0, 0, 0, 0, 0, [])), (326, (.iaload, 327, 0, 0, 0, 0, 0, 0, [])), (327, (.invokevirtual 46, 330, 0, 0, 0, 0, 0, 1069, [])), (330, (.if_icmp .eq 436, 333, 766, 0, 0, 0, 0, 0, [])), (333, (.iconst 0, 334, 0, 0, 0, 0, 0, 0, [])), (334, (.ireturn, 335, 0, 0, 0, 0, 0, 0, [])), (335, (.aload_n 1, 336, 0, 0, 0, 0, 0, 0, []))],
  [(336, (.aload_n 0, 337, 0, 0, 0, 0, 0, 0, [])), (337, (.iload_n 3, 338, 0, 0, 0, 0, 0, 0, [])), (338, (.iconst 1, 339, 0, 1, 0, 0, 0, 0, [])), (339, (.iadd, 340, 0, 0, 0, 0, 0, 0, [])), (340, (.iaload, 341, 0, 0, 0, 0, 0, 0, [])), (341, (.aload_n 0, 342, 0, 0, 0, 0, 0, 0, [])), (342, (.iload_n 3, 343, 0, 0, 0, 0, 0, 0, [])), (343, (.iconst 2, 344, 0, 2, 0, 0, 0, 0, [])), (344, (.iadd, 345, 0, 0, 0, 0, 0, 0, [])), (345, (.iaload, 346, 0, 0, 0, 0, 0, 0, [])), (346, (.invokevirtual 47, 349, 0, 0, 0, 0, 0, 668, [])), (349, (.aload_n 2, 350, 0, 0, 0, 0, 0, 0, [])), (350, (.aload_n 0, 351, 0, 0, 0, 0, 0, 0, [])), (351, (.iload_n 3, 352, 0, 0, 0, 0, 0, 0, []))],
  [(352, (.iconst 1, 353, 0, 1, 0, 0, 0, 0, [])), (353, (.iadd, 354, 0, 0, 0, 0, 0, 0, [])), (354, (.iaload, 355, 0, 0, 0, 0, 0, 0, [])), (355, (.aload_n 0, 356, 0, 0, 0, 0, 0, 0, [])), (356, (.iload_n 3, 357, 0, 0, 0, 0, 0, 0, [])), (357, (.iconst 2, 358, 0, 2, 0, 0, 0, 0, [])), (358, (.iadd, 359, 0, 0, 0, 0, 0, 0, [])), (359, (.iaload, 360, 0, 0, 0, 0, 0, 0, [])), (360, (.invokevirtual 50, 363, 0, 0, 0, 0, 0, 1101, [])), (363, (.if_icmp .eq 403, 366, 766, 0, 0, 0, 0, 0, [])), (366, (.iconst 0, 367, 0, 0, 0, 0, 0, 0, [])), (367, (.ireturn, 368, 0, 0, 0, 0, 0, 0, []))],
  [(368, (.aload_n 1, 369, 0, 0, 0, 0, 0, 0, [])), (369, (.aload_n 0, 370, 0, 0, 0, 0, 0, 0, [])), (370, (.iload_n 3, 371, 0, 0, 0, 0, 0, 0, [])), (371, (.iconst 1, 372, 0, 1, 0, 0, 0, 0, [])), (372, (.iadd, 373, 0, 0, 0, 0, 0, 0, [])), (373, (.iaload, 374, 0, 0, 0, 0, 0, 0, [])), (374, (.aload_n 0, 375, 0, 0, 0, 0, 0, 0, [])), (375, (.iload_n 3, 376, 0, 0, 0, 0, 0, 0, [])), (376, (.iconst 2, 377, 0, 2, 0, 0, 0, 0, [])), (377, (.iadd, 378, 0, 0, 0, 0, 0, 0, [])), (378, (.iaload, 379, 0, 0, 0, 0, 0, 0, [])), (379, (.invokevirtual 51, 382, 0, 0, 0, 0, 0, 677, [])), (382, (.aload_n 2, 383, 0, 0, 0, 0, 0, 0, [])), (383, (.aload_n 0, 384, 0, 0, 0, 0, 0, 0, []))],
  [(384, (.iload_n 3, 385, 0, 0, 0, 0, 0, 0, [])), (385, (.iconst 1, 386, 0, 1, 0, 0, 0, 0, [])), (386, (.iadd, 387, 0, 0, 0, 0, 0, 0, [])), (387, (.iaload, 388, 0, 0, 0, 0, 0, 0, [])), (388, (.aload_n 0, 389, 0, 0, 0, 0, 0, 0, [])), (389, (.iload_n 3, 390, 0, 0, 0, 0, 0, 0, [])), (390, (.iconst 2, 391, 0, 2, 0, 0, 0, 0, [])), (391, (.iadd, 392, 0, 0, 0, 0, 0, 0, [])), (392, (.iaload, 393, 0, 0, 0, 0, 0, 0, [])), (393, (.invokevirtual 54, 396, 0, 0, 0, 0, 0, 1109, [])), (396, (.if_icmp .eq 370, 399, 766, 0, 0, 0, 0, 0, [])), (399, (.iconst 0, 400, 0, 0, 0, 0, 0, 0, []))],
  [(400, (.ireturn, 401, 0, 0, 0, 0, 0, 0, [])), (401, (.aload_n 1, 402, 0, 0, 0, 0, 0, 0, [])), (402, (.aload_n 0, 403, 0, 0, 0, 0, 0, 0, [])), (403, (.iload_n 3, 404, 0, 0, 0, 0, 0, 0, [])), (404, (.iconst 1, 405, 0, 1, 0, 0, 0, 0, [])), (405, (.iadd, 406, 0, 0, 0, 0, 0, 0, [])), (406, (.iaload, 407, 0, 0, 0, 0, 0, 0, [])), (407, (.aload_n 0, 408, 0, 0, 0, 0, 0, 0, [])), (408, (.iload_n 3, 409, 0, 0, 0, 0, 0, 0, [])), (409, (.iconst 2, 410, 0, 2, 0, 0, 0, 0, [])), (410, (.iadd, 411, 0, 0, 0, 0, 0, 0, [])), (411, (.iaload, 412, 0, 0, 0, 0, 0, 0, [])), (412, (.invokevirtual 55, 415, 0, 0, 0, 0, 0, 684, [])), (415, (.aload_n 2, 416, 0, 0, 0, 0, 0, 0, []))],
  [(416, (.aload_n 0, 417, 0, 0, 0, 0, 0, 0, [])), (417, (.iload_n 3, 418, 0, 0, 0, 0, 0, 0, [])), (418, (.iconst 1, 419, 0, 1, 0, 0, 0, 0, [])), (419, (.iadd, 420, 0, 0, 0, 0, 0, 0, [])), (420, (.iaload, 421, 0, 0, 0, 0, 0, 0, [])), (421, (.aload_n 0, 422, 0, 0, 0, 0, 0, 0, [])), (422, (.iload_n 3, 423, 0, 0, 0, 0, 0, 0, [])), (423, (.iconst 2, 424, 0, 2, 0, 0, 0, 0, [])), (424, (.iadd, 425, 0, 0, 0, 0, 0, 0, [])), (425, (.iaload, 426, 0, 0, 0, 0, 0, 0, [])), (426, (.invokevirtual 58, 429, 0, 0, 0, 0, 0, 1117, [])), (429, (.if_icmp .eq 337, 432, 766, 0, 0, 0, 0, 0, []))],
  [(432, (.iconst 0, 433, 0, 0, 0, 0, 0, 0, [])), (433, (.ireturn, 434, 0, 0, 0, 0, 0, 0, [])), (434, (.aload_n 1, 435, 0, 0, 0, 0, 0, 0, [])), (435, (.aload_n 0, 436, 0, 0, 0, 0, 0, 0, [])), (436, (.iload_n 3, 437, 0, 0, 0, 0, 0, 0, [])), (437, (.iconst 1, 438, 0, 1, 0, 0, 0, 0, [])), (438, (.iadd, 439, 0, 0, 0, 0, 0, 0, [])), (439, (.iaload, 440, 0, 0, 0, 0, 0, 0, [])), (440, (.invokevirtual 59, 443, 0, 0, 0, 0, 0, 692, [])), (443, (.aload_n 2, 444, 0, 0, 0, 0, 0, 0, [])), (444, (.aload_n 0, 445, 0, 0, 0, 0, 0, 0, [])), (445, (.iload_n 3, 446, 0, 0, 0, 0, 0, 0, [])), (446, (.iconst 1, 447, 0, 1, 0, 0, 0, 0, [])), (447, (.iadd, 448, 0, 0, 0, 0, 0, 0, []))],
  [(448, (.iaload, 449, 0, 0, 0, 0, 0, 0, [])), (449, (.invokevirtual 62, 452, 0, 0, 0, 0, 0, 1121, [])), (452, (.if_icmp .eq 314, 455, 766, 0, 0, 0, 0, 0, [])), (455, (.iconst 0, 456, 0, 0, 0, 0, 0, 0, [])), (456, (.ireturn, 457, 0, 0, 0, 0, 0, 0, [])), (457, (.aload_n 1, 458, 0, 0, 0, 0, 0, 0, [])), (458, (.aload_n 0, 459, 0, 0, 0, 0, 0, 0, [])), (459, (.iload_n 3, 460, 0, 0, 0, 0, 0, 0, [])), (460, (.iconst 1, 461, 0, 1, 0, 0, 0, 0, [])), (461, (.iadd, 462, 0, 0, 0, 0, 0, 0, [])), (462, (.iaload, 463, 0, 0, 0, 0, 0, 0, [])), (463, (.invokevirtual 63, 466, 0, 0, 0, 0, 0, 706, []))],
  [(466, (.aload_n 2, 467, 0, 0, 0, 0, 0, 0, [])), (467, (.aload_n 0, 468, 0, 0, 0, 0, 0, 0, [])), (468, (.iload_n 3, 469, 0, 0, 0, 0, 0, 0, [])), (469, (.iconst 1, 470, 0, 1, 0, 0, 0, 0, [])), (470, (.iadd, 471, 0, 0, 0, 0, 0, 0, [])), (471, (.iaload, 472, 0, 0, 0, 0, 0, 0, [])), (472, (.invokevirtual 66, 475, 0, 0, 0, 0, 0, 1128, [])), (475, (.if_icmp .eq 291, 478, 766, 0, 0, 0, 0, 0, [])), (478, (.iconst 0, 479, 0, 0, 0, 0, 0, 0, [])), (479, (.ireturn, 480, 0, 0, 0, 0, 0, 0, []))],
  [(480, (.aload_n 1, 481, 0, 0, 0, 0, 0, 0, [])), (481, (.aload_n 0, 482, 0, 0, 0, 0, 0, 0, [])), (482, (.iload_n 3, 483, 0, 0, 0, 0, 0, 0, [])), (483, (.iconst 1, 484, 0, 1, 0, 0, 0, 0, [])), (484, (.iadd, 485, 0, 0, 0, 0, 0, 0, [])), (485, (.iaload, 486, 0, 0, 0, 0, 0, 0, [])), (486, (.invokevirtual 67, 489, 0, 0, 0, 0, 0, 710, [])), (489, (.aload_n 2, 490, 0, 0, 0, 0, 0, 0, [])), (490, (.aload_n 0, 491, 0, 0, 0, 0, 0, 0, [])), (491, (.iload_n 3, 492, 0, 0, 0, 0, 0, 0, [])), (492, (.iconst 1, 493, 0, 1, 0, 0, 0, 0, [])), (493, (.iadd, 494, 0, 0, 0, 0, 0, 0, [])), (494, (.iaload, 495, 0, 0, 0, 0, 0, 0, [])), (495, (.invokevirtual 70, 498, 0, 0, 0, 0, 0, 1132, []))],
  [(498, (.if_icmp .eq 268, 501, 766, 0, 0, 0, 0, 0, [])), (501, (.iconst 0, 502, 0, 0, 0, 0, 0, 0, [])), (502, (.ireturn, 503, 0, 0, 0, 0, 0, 0, [])), (503, (.aload_n 1, 504, 0, 0, 0, 0, 0, 0, [])), (504, (.aload_n 0, 505, 0, 0, 0, 0, 0, 0, [])), (505, (.iload_n 3, 506, 0, 0, 0, 0, 0, 0, [])), (506, (.iconst 1, 507, 0, 1, 0, 0, 0, 0, [])), (507, (.iadd, 508, 0, 0, 0, 0, 0, 0, [])), (508, (.iaload, 509, 0, 0, 0, 0, 0, 0, [])), (509, (.aload_n 0, 510, 0, 0, 0, 0, 0, 0, [])), (510, (.iload_n 3, 511, 0, 0, 0, 0, 0, 0, [])), (511, (.iconst 2, 512, 0, 2, 0, 0, 0, 0, []))],
  [(512, (.iadd, 513, 0, 0, 0, 0, 0, 0, [])), (513, (.iaload, 514, 0, 0, 0, 0, 0, 0, [])), (514, (.aload_n 0, 515, 0, 0, 0, 0, 0, 0, [])), (515, (.iload_n 3, 516, 0, 0, 0, 0, 0, 0, [])), (516, (.iconst 3, 517, 0, 3, 0, 0, 0, 0, [])), (517, (.iadd, 518, 0, 0, 0, 0, 0, 0, [])), (518, (.iaload, 519, 0, 0, 0, 0, 0, 0, [])), (519, (.invokevirtual 71, 522, 0, 0, 0, 0, 0, 718, [])), (522, (.aload_n 2, 523, 0, 0, 0, 0, 0, 0, [])), (523, (.aload_n 0, 524, 0, 0, 0, 0, 0, 0, [])), (524, (.iload_n 3, 525, 0, 0, 0, 0, 0, 0, [])), (525, (.iconst 1, 526, 0, 1, 0, 0, 0, 0, [])), (526, (.iadd, 527, 0, 0, 0, 0, 0, 0, [])), (527, (.iaload, 528, 0, 0, 0, 0, 0, 0, []))],
  [(528, (.aload_n 0, 529, 0, 0, 0, 0, 0, 0, [])), (529, (.iload_n 3, 530, 0, 0, 0, 0, 0, 0, [])), (530, (.iconst 2, 531, 0, 2, 0, 0, 0, 0, [])), (531, (.iadd, 532, 0, 0, 0, 0, 0, 0, [])), (532, (.iaload, 533, 0, 0, 0, 0, 0, 0, [])), (533, (.aload_n 0, 534, 0, 0, 0, 0, 0, 0, [])), (534, (.iload_n 3, 535, 0, 0, 0, 0, 0, 0, [])), (535, (.iconst 3, 536, 0, 3, 0, 0, 0, 0, [])), (536, (.iadd, 537, 0, 0, 0, 0, 0, 0, [])), (537, (.iaload, 538, 0, 0, 0, 0, 0, 0, [])), (538, (.invokevirtual 75, 541, 0, 0, 0, 0, 0, 1144, [])), (541, (.if_icmp .eq 225, 544, 766, 0, 0, 0, 0, 0, []))],
  [(544, (.iconst 0, 545, 0, 0, 0, 0, 0, 0, [])), (545, (.ireturn, 546, 0, 0, 0, 0, 0, 0, [])), (546, (.aload_n 1, 547, 0, 0, 0, 0, 0, 0, [])), (547, (.aload_n 0, 548, 0, 0, 0, 0, 0, 0, [])), (548, (.iload_n 3, 549, 0, 0, 0, 0, 0, 0, [])), (549, (.iconst 1, 550, 0, 1, 0, 0, 0, 0, [])), (550, (.iadd, 551, 0, 0, 0, 0, 0, 0, [])), (551, (.iaload, 552, 0, 0, 0, 0, 0, 0, [])), (552, (.invokevirtual 76, 555, 0, 0, 0, 0, 0, 755, [])), (555, (.aload_n 2, 556, 0, 0, 0, 0, 0, 0, [])), (556, (.aload_n 0, 557, 0, 0, 0, 0, 0, 0, [])), (557, (.iload_n 3, 558, 0, 0, 0, 0, 0, 0, [])), (558, (.iconst 1, 559, 0, 1, 0, 0, 0, 0, [])), (559, (.iadd, 560, 0, 0, 0, 0, 0, 0, []))],
  [(560, (.iaload, 561, 0, 0, 0, 0, 0, 0, [])), (561, (.invokevirtual 79, 564, 0, 0, 0, 0, 0, 1156, [])), (564, (.if_icmp .eq 202, 567, 766, 0, 0, 0, 0, 0, [])), (567, (.iconst 0, 568, 0, 0, 0, 0, 0, 0, [])), (568, (.ireturn, 569, 0, 0, 0, 0, 0, 0, [])), (569, (.aload_n 1, 570, 0, 0, 0, 0, 0, 0, [])), (570, (.aload_n 0, 571, 0, 0, 0, 0, 0, 0, [])), (571, (.iload_n 3, 572, 0, 0, 0, 0, 0, 0, [])), (572, (.iconst 1, 573, 0, 1, 0, 0, 0, 0, [])), (573, (.iadd, 574, 0, 0, 0, 0, 0, 0, [])), (574, (.iaload, 575, 0, 0, 0, 0, 0, 0, [])), (575, (.invokevirtual 80, 578, 0, 0, 0, 0, 0, 767, []))],
  [(578, (.aload_n 2, 579, 0, 0, 0, 0, 0, 0, [])), (579, (.aload_n 0, 580, 0, 0, 0, 0, 0, 0, [])), (580, (.iload_n 3, 581, 0, 0, 0, 0, 0, 0, [])), (581, (.iconst 1, 582, 0, 1, 0, 0, 0, 0, [])), (582, (.iadd, 583, 0, 0, 0, 0, 0, 0, [])), (583, (.iaload, 584, 0, 0, 0, 0, 0, 0, [])), (584, (.invokevirtual 83, 587, 0, 0, 0, 0, 0, 1160, [])), (587, (.if_icmp .eq 179, 590, 766, 0, 0, 0, 0, 0, [])), (590, (.iconst 0, 591, 0, 0, 0, 0, 0, 0, [])), (591, (.ireturn, 592, 0, 0, 0, 0, 0, 0, []))],
  [(592, (.aload_n 1, 593, 0, 0, 0, 0, 0, 0, [])), (593, (.invokevirtual 84, 596, 0, 0, 0, 0, 0, 776, [])), (596, (.aload_n 2, 597, 0, 0, 0, 0, 0, 0, [])), (597, (.invokevirtual 87, 600, 0, 0, 0, 0, 0, 1172, [])), (600, (.if_icmp .eq 166, 603, 766, 0, 0, 0, 0, 0, [])), (603, (.iconst 0, 604, 0, 0, 0, 0, 0, 0, [])), (604, (.ireturn, 605, 0, 0, 0, 0, 0, 0, [])), (605, (.aload_n 1, 606, 0, 0, 0, 0, 0, 0, [])), (606, (.aload_n 0, 607, 0, 0, 0, 0, 0, 0, [])), (607, (.iload_n 3, 608, 0, 0, 0, 0, 0, 0, []))],
  [(608, (.iconst 1, 609, 0, 1, 0, 0, 0, 0, [])), (609, (.iadd, 610, 0, 0, 0, 0, 0, 0, [])), (610, (.iaload, 611, 0, 0, 0, 0, 0, 0, [])), (611, (.invokevirtual 88, 614, 0, 0, 0, 0, 0, 780, [])), (614, (.aload_n 2, 615, 0, 0, 0, 0, 0, 0, [])), (615, (.aload_n 0, 616, 0, 0, 0, 0, 0, 0, [])), (616, (.iload_n 3, 617, 0, 0, 0, 0, 0, 0, [])), (617, (.iconst 1, 618, 0, 1, 0, 0, 0, 0, [])), (618, (.iadd, 619, 0, 0, 0, 0, 0, 0, [])), (619, (.iaload, 620, 0, 0, 0, 0, 0, 0, [])), (620, (.invokevirtual 91, 623, 0, 0, 0, 0, 0, 1176, [])), (623, (.if_icmp .eq 143, 626, 766, 0, 0, 0, 0, 0, []))],
  [(626, (.iconst 0, 627, 0, 0, 0, 0, 0, 0, [])), (627, (.ireturn, 628, 0, 0, 0, 0, 0, 0, [])), (628, (.aload_n 1, 629, 0, 0, 0, 0, 0, 0, [])), (629, (.invokevirtual 92, 632, 0, 0, 0, 0, 0, 798, [])), (632, (.aload_n 2, 633, 0, 0, 0, 0, 0, 0, [])), (633, (.invokevirtual 95, 636, 0, 0, 0, 0, 0, 1183, [])), (636, (.if_icmp .eq 130, 639, 766, 0, 0, 0, 0, 0, [])), (639, (.iconst 0, 640, 0, 0, 0, 0, 0, 0, []))],
  [(640, (.ireturn, 641, 0, 0, 0, 0, 0, 0, [])), (641, (.aload_n 1, 642, 0, 0, 0, 0, 0, 0, [])), (642, (.aload_n 0, 643, 0, 0, 0, 0, 0, 0, [])), (643, (.iload_n 3, 644, 0, 0, 0, 0, 0, 0, [])), (644, (.iconst 1, 645, 0, 1, 0, 0, 0, 0, [])), (645, (.iadd, 646, 0, 0, 0, 0, 0, 0, [])), (646, (.iaload, 647, 0, 0, 0, 0, 0, 0, [])), (647, (.aload_n 0, 648, 0, 0, 0, 0, 0, 0, [])), (648, (.iload_n 3, 649, 0, 0, 0, 0, 0, 0, [])), (649, (.iconst 2, 650, 0, 2, 0, 0, 0, 0, [])), (650, (.iadd, 651, 0, 0, 0, 0, 0, 0, [])), (651, (.iaload, 652, 0, 0, 0, 0, 0, 0, [])), (652, (.invokevirtual 96, 655, 0, 0, 0, 0, 0, 802, [])), (655, (.aload_n 2, 656, 0, 0, 0, 0, 0, 0, []))],
  [(656, (.aload_n 0, 657, 0, 0, 0, 0, 0, 0, [])), (657, (.iload_n 3, 658, 0, 0, 0, 0, 0, 0, [])), (658, (.iconst 1, 659, 0, 1, 0, 0, 0, 0, [])), (659, (.iadd, 660, 0, 0, 0, 0, 0, 0, [])), (660, (.iaload, 661, 0, 0, 0, 0, 0, 0, [])), (661, (.aload_n 0, 662, 0, 0, 0, 0, 0, 0, [])), (662, (.iload_n 3, 663, 0, 0, 0, 0, 0, 0, [])), (663, (.iconst 2, 664, 0, 2, 0, 0, 0, 0, [])), (664, (.iadd, 665, 0, 0, 0, 0, 0, 0, [])), (665, (.iaload, 666, 0, 0, 0, 0, 0, 0, [])), (666, (.invokevirtual 99, 669, 0, 0, 0, 0, 0, 1187, [])), (669, (.if_icmp .eq 97, 672, 766, 0, 0, 0, 0, 0, []))],
  [(672, (.iconst 0, 673, 0, 0, 0, 0, 0, 0, [])), (673, (.ireturn, 674, 0, 0, 0, 0, 0, 0, [])), (674, (.aload_n 1, 675, 0, 0, 0, 0, 0, 0, [])), (675, (.invokevirtual 100, 678, 0, 0, 0, 0, 0, 810, [])), (678, (.aload_n 2, 679, 0, 0, 0, 0, 0, 0, [])), (679, (.invokevirtual 103, 682, 0, 0, 0, 0, 0, 1191, [])), (682, (.if_icmp .eq 84, 685, 766, 0, 0, 0, 0, 0, [])), (685, (.iconst 0, 686, 0, 0, 0, 0, 0, 0, [])), (686, (.ireturn, 687, 0, 0, 0, 0, 0, 0, [])), (687, (.aload_n 1, 688, 0, 0, 0, 0, 0, 0, []))],
  [(688, (.aload_n 0, 689, 0, 0, 0, 0, 0, 0, [])), (689, (.iload_n 3, 690, 0, 0, 0, 0, 0, 0, [])), (690, (.iconst 1, 691, 0, 1, 0, 0, 0, 0, [])), (691, (.iadd, 692, 0, 0, 0, 0, 0, 0, [])), (692, (.iaload, 693, 0, 0, 0, 0, 0, 0, [])), (693, (.invokevirtual 104, 696, 0, 0, 0, 0, 0, 814, [])), (696, (.aload_n 2, 697, 0, 0, 0, 0, 0, 0, [])), (697, (.aload_n 0, 698, 0, 0, 0, 0, 0, 0, [])), (698, (.iload_n 3, 699, 0, 0, 0, 0, 0, 0, [])), (699, (.iconst 1, 700, 0, 1, 0, 0, 0, 0, [])), (700, (.iadd, 701, 0, 0, 0, 0, 0, 0, [])), (701, (.iaload, 702, 0, 0, 0, 0, 0, 0, [])), (702, (.invokevirtual 107, 705, 0, 0, 0, 0, 0, 1195, []))],
  [(705, (.if_icmp .eq 61, 708, 766, 0, 0, 0, 0, 0, [])), (708, (.iconst 0, 709, 0, 0, 0, 0, 0, 0, [])), (709, (.ireturn, 710, 0, 0, 0, 0, 0, 0, [])), (710, (.aload_n 1, 711, 0, 0, 0, 0, 0, 0, [])), (711, (.aload_n 0, 712, 0, 0, 0, 0, 0, 0, [])), (712, (.iload_n 3, 713, 0, 0, 0, 0, 0, 0, [])), (713, (.iconst 1, 714, 0, 1, 0, 0, 0, 0, [])), (714, (.iadd, 715, 0, 0, 0, 0, 0, 0, [])), (715, (.iaload, 716, 0, 0, 0, 0, 0, 0, [])), (716, (.aload_n 0, 717, 0, 0, 0, 0, 0, 0, [])), (717, (.iload_n 3, 718, 0, 0, 0, 0, 0, 0, [])), (718, (.iconst 2, 719, 0, 2, 0, 0, 0, 0, [])), (719, (.iadd, 720, 0, 0, 0, 0, 0, 0, []))],
  [(720, (.iaload, 721, 0, 0, 0, 0, 0, 0, [])), (721, (.invokevirtual 108, 724, 0, 0, 0, 0, 0, 844, [])), (724, (.aload_n 2, 725, 0, 0, 0, 0, 0, 0, [])), (725, (.aload_n 0, 726, 0, 0, 0, 0, 0, 0, [])), (726, (.iload_n 3, 727, 0, 0, 0, 0, 0, 0, [])), (727, (.iconst 1, 728, 0, 1, 0, 0, 0, 0, [])), (728, (.iadd, 729, 0, 0, 0, 0, 0, 0, [])), (729, (.iaload, 730, 0, 0, 0, 0, 0, 0, [])), (730, (.aload_n 0, 731, 0, 0, 0, 0, 0, 0, [])), (731, (.iload_n 3, 732, 0, 0, 0, 0, 0, 0, [])), (732, (.iconst 2, 733, 0, 2, 0, 0, 0, 0, [])), (733, (.iadd, 734, 0, 0, 0, 0, 0, 0, [])), (734, (.iaload, 735, 0, 0, 0, 0, 0, 0, [])), (735, (.invokevirtual 111, 738, 0, 0, 0, 0, 0, 1207, []))],
  [(738, (.if_icmp .eq 28, 741, 766, 0, 0, 0, 0, 0, [])), (741, (.iconst 0, 742, 0, 0, 0, 0, 0, 0, [])), (742, (.ireturn, 743, 0, 0, 0, 0, 0, 0, [])), (743, (.aload_n 1, 744, 0, 0, 0, 0, 0, 0, [])), (744, (.aload_n 0, 745, 0, 0, 0, 0, 0, 0, [])), (745, (.iload_n 3, 746, 0, 0, 0, 0, 0, 0, [])), (746, (.iconst 1, 747, 0, 1, 0, 0, 0, 0, [])), (747, (.iadd, 748, 0, 0, 0, 0, 0, 0, [])), (748, (.iaload, 749, 0, 0, 0, 0, 0, 0, [])), (749, (.invokevirtual 112, 752, 0, 0, 0, 0, 0, 848, []))],
  [(752, (.aload_n 2, 753, 0, 0, 0, 0, 0, 0, [])), (753, (.aload_n 0, 754, 0, 0, 0, 0, 0, 0, [])), (754, (.iload_n 3, 755, 0, 0, 0, 0, 0, 0, [])), (755, (.iconst 1, 756, 0, 1, 0, 0, 0, 0, [])), (756, (.iadd, 757, 0, 0, 0, 0, 0, 0, [])), (757, (.iaload, 758, 0, 0, 0, 0, 0, 0, [])), (758, (.invokevirtual 115, 761, 0, 0, 0, 0, 0, 1211, [])), (761, (.if_icmp .eq 5, 764, 766, 0, 0, 0, 0, 0, [])), (764, (.iconst 0, 765, 0, 0, 0, 0, 0, 0, [])), (765, (.ireturn, 766, 0, 0, 0, 0, 0, 0, [])), (766, (.iinc 3 4, 769, 0, 4, 0, 0, 0, 0, []))],
  [(769, (.goto (-751), 772, 18, 0, 0, 0, 0, 0, [])), (772, (.iconst 1, 773, 0, 1, 0, 0, 0, 0, [])), (773, (.ireturn, 774, 0, 0, 0, 0, 0, 0, []))]])
set_option maxRecDepth 100000 in
theorem kL_law : xMk mL_law = true := by decide +kernel
end
section
/-! ===== one step, as what must hold before it ===== -/
abbrev xK : Type := (Nat × Nat) → Nat → List (Option Value) → List Value → List xE → Prop
def h_l (ls : List (Option Value)) (k : Nat) (f : Value → Prop) : Prop := match ls[k]? with
  | some (some v) => f v
  | _ => False
theorem h_l_i {ls : List (Option Value)} {k : Nat} {f : Value → Prop} (h : h_l ls k f) : ∃ v, ls[k]? = some (some v) ∧ f v := by
  unfold h_l at h; split at h
  · next v hv => exact ⟨v, hv, h⟩
  · exact h.elim
def h_vi (v : Value) (f : Int32 → Prop) : Prop := match v with
  | .int x => f x
  | _ => False
theorem h_vi_i {v : Value} {f : Int32 → Prop} (h : h_vi v f) : ∃ x, v = .int x ∧ f x := by
  unfold h_vi at h; split at h
  · exact ⟨_, rfl, h⟩
  · exact h.elim
def h_vj (v : Value) (f : Int64 → Prop) : Prop := match v with
  | .long x => f x
  | _ => False
theorem h_vj_i {v : Value} {f : Int64 → Prop} (h : h_vj v f) : ∃ x, v = .long x ∧ f x := by
  unfold h_vj at h; split at h
  · exact ⟨_, rfl, h⟩
  · exact h.elim
def h_vr (v : Value) (f : Nat → Prop) : Prop := match v with
  | .ref x => f x
  | _ => False
theorem h_vr_i {v : Value} {f : Nat → Prop} (h : h_vr v f) : ∃ x, v = .ref x ∧ f x := by
  unfold h_vr at h; split at h
  · exact ⟨_, rfl, h⟩
  · exact h.elim
def h_i (st : List Value) (f : Int32 → List Value → Prop) : Prop := match st with
  | .int x :: r => f x r
  | _ => False
theorem h_i_i {st : List Value} {f : Int32 → List Value → Prop} (h : h_i st f) : ∃ x r, st = .int x :: r ∧ f x r := by
  unfold h_i at h; split at h
  · exact ⟨_, _, rfl, h⟩
  · exact h.elim
def h_j (st : List Value) (f : Int64 → List Value → Prop) : Prop := match st with
  | .long x :: r => f x r
  | _ => False
theorem h_j_i {st : List Value} {f : Int64 → List Value → Prop} (h : h_j st f) : ∃ x r, st = .long x :: r ∧ f x r := by
  unfold h_j at h; split at h
  · exact ⟨_, _, rfl, h⟩
  · exact h.elim
def h_r (st : List Value) (f : Nat → List Value → Prop) : Prop := match st with
  | .ref x :: r => f x r
  | _ => False
theorem h_r_i {st : List Value} {f : Nat → List Value → Prop} (h : h_r st f) : ∃ x r, st = .ref x :: r ∧ f x r := by
  unfold h_r at h; split at h
  · exact ⟨_, _, rfl, h⟩
  · exact h.elim
/-- two ints: the lower one first -/
def h_ii (st : List Value) (f : Int32 → Int32 → List Value → Prop) : Prop := match st with
  | .int y :: .int x :: r => f x y r
  | _ => False
theorem h_ii_i {st : List Value} {f : Int32 → Int32 → List Value → Prop} (h : h_ii st f) : ∃ x y r, st = .int y :: .int x :: r ∧ f x y r := by
  unfold h_ii at h; split at h
  · exact ⟨_, _, _, rfl, h⟩
  · exact h.elim
def h_jj (st : List Value) (f : Int64 → Int64 → List Value → Prop) : Prop := match st with
  | .long y :: .long x :: r => f x y r
  | _ => False
theorem h_jj_i {st : List Value} {f : Int64 → Int64 → List Value → Prop} (h : h_jj st f) : ∃ x y r, st = .long y :: .long x :: r ∧ f x y r := by
  unfold h_jj at h; split at h
  · exact ⟨_, _, _, rfl, h⟩
  · exact h.elim
def h_ji (st : List Value) (f : Int64 → Int32 → List Value → Prop) : Prop := match st with
  | .int y :: .long x :: r => f x y r
  | _ => False
theorem h_ji_i {st : List Value} {f : Int64 → Int32 → List Value → Prop} (h : h_ji st f) : ∃ x y r, st = .int y :: .long x :: r ∧ f x y r := by
  unfold h_ji at h; split at h
  · exact ⟨_, _, _, rfl, h⟩
  · exact h.elim
def h_ri (st : List Value) (f : Nat → Int32 → List Value → Prop) : Prop := match st with
  | .int y :: .ref x :: r => f x y r
  | _ => False
theorem h_ri_i {st : List Value} {f : Nat → Int32 → List Value → Prop} (h : h_ri st f) : ∃ x y r, st = .int y :: .ref x :: r ∧ f x y r := by
  unfold h_ri at h; split at h
  · exact ⟨_, _, _, rfl, h⟩
  · exact h.elim
def h_rii (st : List Value) (f : Nat → Int32 → Int32 → List Value → Prop) : Prop := match st with
  | .int v :: .int y :: .ref x :: r => f x y v r
  | _ => False
theorem h_rii_i {st : List Value} {f : Nat → Int32 → Int32 → List Value → Prop} (h : h_rii st f) : ∃ x y v r, st = .int v :: .int y :: .ref x :: r ∧ f x y v r := by
  unfold h_rii at h; split at h
  · exact ⟨_, _, _, _, rfl, h⟩
  · exact h.elim
def h_rir (st : List Value) (f : Nat → Int32 → Nat → List Value → Prop) : Prop := match st with
  | .ref v :: .int y :: .ref x :: r => f x y v r
  | _ => False
theorem h_rir_i {st : List Value} {f : Nat → Int32 → Nat → List Value → Prop} (h : h_rir st f) : ∃ x y v r, st = .ref v :: .int y :: .ref x :: r ∧ f x y v r := by
  unfold h_rir at h; split at h
  · exact ⟨_, _, _, _, rfl, h⟩
  · exact h.elim
def h_rv (st : List Value) (f : Nat → Value → List Value → Prop) : Prop := match st with
  | v :: .ref x :: r => f x v r
  | _ => False
theorem h_rv_i {st : List Value} {f : Nat → Value → List Value → Prop} (h : h_rv st f) : ∃ x v r, st = v :: .ref x :: r ∧ f x v r := by
  unfold h_rv at h; split at h
  · exact ⟨_, _, _, rfl, h⟩
  · exact h.elim
def h_cp (st : List Value) (f : Nat → Int32 → Nat → Int32 → Int32 → List Value → Prop) : Prop := match st with
  | .int n :: .int dp :: .ref d :: .int sp :: .ref a :: r => f a sp d dp n r
  | _ => False
theorem h_cp_i {st : List Value} {f : Nat → Int32 → Nat → Int32 → Int32 → List Value → Prop} (h : h_cp st f) : ∃ a sp d dp n r, st = .int n :: .int dp :: .ref d :: .int sp :: .ref a :: r ∧ f a sp d dp n r := by
  unfold h_cp at h; split at h
  · exact ⟨_, _, _, _, _, _, rfl, h⟩
  · exact h.elim
/-- a value of one slot on top -/
def h_1 (st : List Value) (f : Value → List Value → Prop) : Prop := match st with
  | .int x :: r => f (.int x) r
  | .ref x :: r => f (.ref x) r
  | _ => False
theorem h_1_i {st : List Value} {f : Value → List Value → Prop} (h : h_1 st f) : ∃ v r, st = v :: r ∧ v.category = 1 ∧ f v r := by
  unfold h_1 at h; split at h
  · exact ⟨_, _, rfl, rfl, h⟩
  · exact ⟨_, _, rfl, rfl, h⟩
  · exact h.elim
/-- a row of ints (0) or of booleans (1) -/
def h_a (X : List xE) (k t : Nat) (f : Nat → (Nat → Int32) → Prop) : Prop := match X[k]? with
  | some (.inl (t', n, g)) => bif Nat.beq t' t then f n g else False
  | _ => False
theorem h_a_i {X : List xE} {k t : Nat} {f : Nat → (Nat → Int32) → Prop} (h : h_a X k t f) : ∃ n g, X[k]? = some (.inl (t, n, g)) ∧ f n g := by
  unfold h_a at h; split at h
  · next t' n g hX =>
    cases hb : Nat.beq t' t with
    | false => rw [hb] at h; exact h.elim
    | true => rw [hb] at h; rw [Nat.eq_of_beq_eq_true hb] at hX; exact ⟨n, g, hX, h⟩
  · exact h.elim
def h_q (X : List xE) (k : Nat) (f : List (Option Nat) → Prop) : Prop := match X[k]? with
  | some (.inr (.inl l)) => f l
  | _ => False
theorem h_q_i {X : List xE} {k : Nat} {f : List (Option Nat) → Prop} (h : h_q X k f) : ∃ l, X[k]? = some (.inr (.inl l)) ∧ f l := by
  unfold h_q at h; split at h
  · next l hX => exact ⟨l, hX, h⟩
  · exact h.elim
/-- an object of class number ci -/
def h_o (X : List xE) (k ci : Nat) (f : List Value → Prop) : Prop := match X[k]? with
  | some (.inr (.inr (c, fs))) => bif Nat.beq c ci then f fs else False
  | _ => False
theorem h_o_i {X : List xE} {k ci : Nat} {f : List Value → Prop} (h : h_o X k ci f) : ∃ fs, X[k]? = some (.inr (.inr (ci, fs))) ∧ f fs := by
  unfold h_o at h; split at h
  · next c fs hX =>
    cases hb : Nat.beq c ci with
    | false => rw [hb] at h; exact h.elim
    | true => rw [hb] at h; rw [Nat.eq_of_beq_eq_true hb] at hX; exact ⟨fs, hX, h⟩
  · exact h.elim
def h_s {α : Type} (o : Option α) (f : α → Prop) : Prop := match o with
  | some v => f v
  | none => False
theorem h_s_i {α : Type} {o : Option α} {f : α → Prop} (h : h_s o f) : ∃ v, o = some v ∧ f v := by
  cases o with
  | none => exact h.elim
  | some v => exact ⟨v, rfl, h⟩
def h_b (b : Bool) (P : Prop) : Prop := bif b then P else False
theorem h_b_i {b : Bool} {P : Prop} (h : h_b b P) : b = true ∧ P := by
  cases b with
  | false => exact h.elim
  | true => exact ⟨rfl, h⟩
/-- may a value be written into a field of this kind (0 int, 1 boolean, 2 reference) -/
def h_f (t : Nat) (v : Value) (P : Prop) : Prop := match t with
  | 0 => match v with
    | .int _ => P
    | _ => False
  | 1 => match v with
    | .int x => (x = 0 ∨ x = 1) ∧ P
    | _ => False
  | 2 => match v with
    | .ref _ => P
    | _ => False
  | _ => match v with
    | .long _ => P
    | _ => False
def xswk (x : Int32) (dn : Nat) (f : Nat → Prop) : List (Int32 × Nat) → Prop
  | [] => f dn
  | (v, t) :: r => (x = v → f t) ∧ (¬ x = v → xswk x dn f r)
def xal (z : Nat × Nat) (mc ms N : Nat) (ls : List (Option Value)) (st : List Value) (X : List xE) : Bool :=
  Nat.blt z.1 mc && Nat.ble (z.2 + N) ms && Nat.blt X.length xB && X.all (xoke X.length) && ls.all (fun o => match o with | none => true | some v => xokv X.length v) && st.all (xokv X.length)
def xrr (M : xM) (Q : Option Value → List xE → Prop) (st : List Value) (X : List xE) : Prop := match st with
  | [.int x] => match xret M with
    | some .int => Q (some (.int x)) X
    | some .boolean => (x = 0 ∨ x = 1) ∧ Q (some (.int x)) X
    | some .char => narrow .char (.int x) = .int x ∧ Q (some (.int x)) X
    | some .byte => narrow .byte (.int x) = .int x ∧ Q (some (.int x)) X
    | _ => False
  | _ => False
/-- what must hold ahead of a row, if k is what must hold behind it, and stop here -/
def xs1 (L : xLn) (M : xM) (d mc ms : Nat) (Q : Option Value → List xE → Prop) (o : xO) (z : Nat × Nat) (ls : List (Option Value)) (st : List Value) (X : List xE) (k : xK) (stop : Prop) : Prop := match o with
  | (i, nx, tg, v, w, a, b, _, sw) => match i with
    | .iconst _ => k z nx ls (.int v :: st) X
    | .bipush _ => k z nx ls (.int v :: st) X
    | .sipush _ => k z nx ls (.int v :: st) X
    | .ldc _ => match a with
      | 0 => k z nx ls (.int v :: st) X
      | _ => h_b (Nat.blt b 10) (k z nx ls (.ref (xB + 1 + b) :: st) X)
    | .ldc_w _ => k z nx ls (.int v :: st) X
    | .ldc2_w _ => k z nx ls (.long w :: st) X
    | .lconst _ => k z nx ls (.long w :: st) X
    | .iload_n n => h_l ls n.val fun u => h_vi u fun x => k z nx ls (.int x :: st) X
    | .iload n => h_l ls n fun u => h_vi u fun x => k z nx ls (.int x :: st) X
    | .lload_n n => h_l ls n.val fun u => h_vj u fun x => k z nx ls (.long x :: st) X
    | .aload_n n => h_l ls n.val fun u => h_vr u fun x => k z nx ls (.ref x :: st) X
    | .aload n => h_l ls n fun u => h_vr u fun x => k z nx ls (.ref x :: st) X
    | .istore_n n => h_i st fun x r => h_b (xlok ls n.val) (k z nx (ls.set n.val (some (.int x))) r X)
    | .istore n => h_i st fun x r => h_b (xlok ls n) (k z nx (ls.set n (some (.int x))) r X)
    | .astore_n n => h_r st fun x r => h_b (xlok ls n.val) (k z nx (ls.set n.val (some (.ref x))) r X)
    | .iinc n _ => h_l ls n fun u => h_vi u fun x => h_b (xlok ls n) (k z nx (ls.set n (some (.int (x + v)))) st X)
    | .iadd => h_ii st fun x y r => k z nx ls (.int (x + y) :: r) X
    | .isub => h_ii st fun x y r => k z nx ls (.int (x - y) :: r) X
    | .imul => h_ii st fun x y r => k z nx ls (.int (x * y) :: r) X
    | .iand => h_ii st fun x y r => k z nx ls (.int (x &&& y) :: r) X
    | .ior => h_ii st fun x y r => k z nx ls (.int (x ||| y) :: r) X
    | .ixor => h_ii st fun x y r => k z nx ls (.int (x ^^^ y) :: r) X
    | .ishl => h_ii st fun x y r => k z nx ls (.int (x <<< (y &&& 31)) :: r) X
    | .ishr => h_ii st fun x y r => k z nx ls (.int (x >>> (y &&& 31)) :: r) X
    | .iushr => h_ii st fun x y r => k z nx ls (.int (x.toUInt32 >>> (y.toUInt32 &&& Int32.toUInt32 31)).toInt32 :: r) X
    | .idiv => h_ii st fun x y r => ¬ y = 0 ∧ k z nx ls (.int (x / y) :: r) X
    | .irem => h_ii st fun x y r => ¬ y = 0 ∧ k z nx ls (.int (x - x / y * y) :: r) X
    | .ladd => h_jj st fun x y r => k z nx ls (.long (x + y) :: r) X
    | .lsub => h_jj st fun x y r => k z nx ls (.long (x - y) :: r) X
    | .lmul => h_jj st fun x y r => k z nx ls (.long (x * y) :: r) X
    | .land => h_jj st fun x y r => k z nx ls (.long (x &&& y) :: r) X
    | .lor => h_jj st fun x y r => k z nx ls (.long (x ||| y) :: r) X
    | .lshl => h_ji st fun x y r => k z nx ls (.long (x <<< (y.toInt64 &&& 63)) :: r) X
    | .lshr => h_ji st fun x y r => k z nx ls (.long (x >>> (y.toInt64 &&& 63)) :: r) X
    | .lcmp => h_jj st fun x y r => k z nx ls (.int (lg_cmp x y) :: r) X
    | .i2l => h_i st fun x r => k z nx ls (.long x.toInt64 :: r) X
    | .l2i => h_j st fun x r => k z nx ls (.int x.toInt32 :: r) X
    | .i2c => h_i st fun x r => k z nx ls (.int (x.toUInt32 % 65536).toInt32 :: r) X
    | .dup => h_1 st fun u r => k z nx ls (u :: u :: r) X
    | .dup2 => h_1 st fun u r => h_1 r fun u2 r2 => k z nx ls (u :: u2 :: u :: u2 :: r2) X
    | .pop => h_1 st fun _ r => k z nx ls r X
    | .goto _ => k z tg ls st X
    | .ifCond .eq _ => h_i st fun x r => (x = 0 → k z tg ls r X) ∧ (¬ x = 0 → k z nx ls r X)
    | .ifCond .ne _ => h_i st fun x r => (¬ x = 0 → k z tg ls r X) ∧ (x = 0 → k z nx ls r X)
    | .ifCond .lt _ => h_i st fun x r => (x < 0 → k z tg ls r X) ∧ (¬ x < 0 → k z nx ls r X)
    | .ifCond .ge _ => h_i st fun x r => (0 ≤ x → k z tg ls r X) ∧ (¬ 0 ≤ x → k z nx ls r X)
    | .ifCond .gt _ => h_i st fun x r => (0 < x → k z tg ls r X) ∧ (¬ 0 < x → k z nx ls r X)
    | .ifCond .le _ => h_i st fun x r => (x ≤ 0 → k z tg ls r X) ∧ (¬ x ≤ 0 → k z nx ls r X)
    | .if_icmp .eq _ => h_ii st fun x y r => (x = y → k z tg ls r X) ∧ (¬ x = y → k z nx ls r X)
    | .if_icmp .ne _ => h_ii st fun x y r => (¬ x = y → k z tg ls r X) ∧ (x = y → k z nx ls r X)
    | .if_icmp .lt _ => h_ii st fun x y r => (x < y → k z tg ls r X) ∧ (¬ x < y → k z nx ls r X)
    | .if_icmp .ge _ => h_ii st fun x y r => (y ≤ x → k z tg ls r X) ∧ (¬ y ≤ x → k z nx ls r X)
    | .if_icmp .gt _ => h_ii st fun x y r => (y < x → k z tg ls r X) ∧ (¬ y < x → k z nx ls r X)
    | .if_icmp .le _ => h_ii st fun x y r => (x ≤ y → k z tg ls r X) ∧ (¬ x ≤ y → k z nx ls r X)
    | .tableswitch _ _ _ _ => h_i st fun x r => xswk x tg (fun t => k z t ls r X) sw
    | .lookupswitch _ _ => h_i st fun x r => xswk x tg (fun t => k z t ls r X) sw
    | .getfield _ => h_r st fun q r => match a with
      | 100 => h_b (Nat.ble (xB + 1) q && Nat.blt q (xB + 11)) (match b with
        | 0 => k z nx ls (.ref (q + 10) :: r) X
        | _ => k z nx ls (.int 0 :: r) X)
      | _ => h_o X q a fun fs => h_s fs[b]? fun u => k z nx ls (u :: r) X
    | .putfield _ => h_rv st fun q u r => h_o X q a fun fs => h_b (Nat.blt b fs.length) (h_f tg u (k z nx ls r (X.set q (.inr (.inr (a, fs.set b u))))))
    | .getstatic _ => match a with
      | 1 => k z nx ls (.ref xB :: st) X
      | 2 => k z nx ls (.int 1 :: st) X
      | _ => stop
    | .iaload => h_ri st fun q i r => bif Nat.beq q xB then ∃ y : Nat, i = nI y ∧ y < 10 ∧ k z nx ls (.int (xnum.getD y 0) :: r) X else bif Nat.beq q (xB + 40) then ∃ y : Nat, i = nI y ∧ y < L.2.1 ∧ L.2.1 ≤ 1000000 ∧ k z nx ls (.int (L.2.2 y) :: r) X else h_a X q 0 fun n f => h_b (Nat.ble n 1000000) (∃ y : Nat, i = nI y ∧ y < n ∧ k z nx ls (.int (f y) :: r) X)
    | .baload => h_ri st fun q i r => bif Nat.ble (xB + 11) q && Nat.blt q (xB + 21) then ∃ y : Nat, i = nI y ∧ y < xsl.getD (q - (xB + 11)) 0 ∧ y < 1000000 ∧ xsl.getD (q - (xB + 11)) 0 ≤ 1000000 ∧ k z nx ls (.int ((xsb.getD (q - (xB + 11)) []).getD y 0) :: r) X else h_a X q 1 fun n f => h_b (Nat.ble n 1000000) (∃ y : Nat, i = nI y ∧ y < n ∧ k z nx ls (.int (f y) :: r) X)
    | .iastore => h_rii st fun q i x r => h_a X q 0 fun n f => h_b (Nat.ble n 1000000) (∃ y : Nat, i = nI y ∧ y < n ∧ k z nx ls r (X.set q (.inl (0, n, upd f y x))))
    | .bastore => h_rii st fun q i x r => h_a X q 1 fun n f => h_b (Nat.ble n 1000000) (∃ y : Nat, i = nI y ∧ y < n ∧ (x = 0 ∨ x = 1) ∧ k z nx ls r (X.set q (.inl (1, n, upd f y x))))
    | .aaload => h_ri st fun q i r => h_q X q fun c => h_b (Nat.ble c.length 1000000) (∃ y : Nat, i = nI y ∧ y < c.length ∧ h_s (c[y]?.join) fun u => k z nx ls (.ref u :: r) X)
    | .aastore => h_rir st fun q i u r => h_q X q fun c => h_o X u 0 fun _ => h_b (Nat.ble c.length 1000000) (∃ y : Nat, i = nI y ∧ y < c.length ∧ k z nx ls r (X.set q (.inr (.inl (c.set y (some u))))))
    | .arraylength => h_r st fun q r => bif Nat.beq q (xB + 40) then k z nx ls (.int (nI L.2.1) :: r) X else bif Nat.ble (xB + 11) q && Nat.blt q (xB + 21) then k z nx ls (.int (nI (xsl.getD (q - (xB + 11)) 0)) :: r) X else h_a X q 0 fun n _ => k z nx ls (.int (nI n) :: r) X
    | .new _ => h_b (xal z mc ms (xdf.getD a []).length ls st X) (k (z.1 + 1, z.2 + (xdf.getD a []).length) nx ls (.ref X.length :: st) (X ++ [.inr (.inr (a, xdf.getD a []))]))
    | .newarray _ => h_i st fun x r => h_b (decide (x = nI b) && xal z mc ms b ls r X) (k (z.1 + 1, z.2 + b) nx ls (.ref X.length :: r) (X ++ [.inl (a, b, fun _ => 0)]))
    | .anewarray _ => h_i st fun x r => h_b (decide (x = nI b) && xal z mc ms b ls r X) (k (z.1 + 1, z.2 + b) nx ls (.ref X.length :: r) (X ++ [.inr (.inl (List.replicate b none))]))
    | .invokestatic _ => match a with
      | 1 => h_ii st fun x y r => h_b (Nat.blt 0 d && Nat.ble (r.map fun v => v.category).sum 8 && Nat.ble z.1 mc && Nat.ble z.2 ms) (k z nx ls (.int (if x < y then y else x) :: r) X)
      | 2 => h_ii st fun x y r => h_b (Nat.blt 0 d && Nat.ble (r.map fun v => v.category).sum 8 && Nat.ble z.1 mc && Nat.ble z.2 ms) (k z nx ls (.int (if y < x then y else x) :: r) X)
      | 3 => h_cp st fun s0 sp d0 dp n r => h_a X s0 0 fun n0 f => h_a X d0 0 fun n1 _ => h_b (Nat.blt 0 d && Nat.ble (r.map fun v => v.category).sum 8 && decide (sp = 0) && decide (dp = 0) && Nat.beq n0 n1 && decide (n = nI n1) && Nat.blt n1 65536) (k z nx ls r (X.set d0 (.inl (0, n1, f))))
      | _ => stop
    | .invokespecial _ => match a with
      | 1 => h_r st fun _ r => h_b (Nat.blt 0 d && Nat.ble (r.map fun v => v.category).sum 8) (k z nx ls r X)
      | _ => stop
    | .ireturn => h_b (Nat.ble z.1 mc && Nat.ble z.2 ms && X.all (xoke X.length)) (xrr M Q st X)
    | .return_ => h_b (Nat.ble z.1 mc && Nat.ble z.2 ms && X.all (xoke X.length)) (match st, xret M with
      | [], none => Q none X
      | _, _ => False)
    | _ => stop
end
section
/-! ===== one step is sound ===== -/
theorem xmt_in {t : Nat} {w : Cond} (h : xmt t w = true) (hg : goodWord w = true) : w ∈ xtb := xtb_at t (of_decide_eq_true h) hg
theorem xmm_in {w : Cond} (h : xmm w = true) (hg : goodWord w = true) : w ∈ xtb := xtb_in (of_decide_eq_true h) hg
theorem xcls_in : ∀ r ∈ vwCl, ∀ w ∈ u_ws r.1 r.2.1 r.2.2, w ∈ tables_1 := by decide +kernel
theorem xcls_gd : ∀ r ∈ vwCl, ∀ w ∈ u_ws r.1 r.2.1 r.2.2, goodWord w = true := by decide +kernel
theorem xcls {a : Nat} {r : vw_C} (h : vwCl[a]? = some r) : ∀ w ∈ u_ws r.1 r.2.1 r.2.2, w ∈ xtb := fun w hw => xtb_in (xcls_in r (List.mem_of_getElem? h) w hw) (xcls_gd r (List.mem_of_getElem? h) w hw)
def xtyF (r : vw_C) (k : Nat) : FieldType := (parseFieldDescriptor (r.2.1 k).2.2.1).getD .int
theorem xty_ok : ∀ r ∈ vwCl, ∀ k, k < r.2.2 → parseFieldDescriptor (r.2.1 k).2.2.1 = some (xtyF r k) := by decide +kernel
theorem xnm_ok : ∀ r ∈ vwCl, ∀ a, a < r.2.2 → ∀ b, b < r.2.2 → a ≠ b → (r.2.1 a).2.1 ≠ (r.2.1 b).2.1 := by decide +kernel
theorem xnx {nx pc j : Nat} (h : Nat.beq nx (pc + j) = true) : nx = pc + j := Nat.eq_of_beq_eq_true h
section XS
variable {p : Program} {l : Launch} {e : Env} {R : Room} {s : State} {m : MethodId} {args : Array Value} {below : List Frame} {meth : Method} {c : Code} {H : Heap} {locs : List Loc} {cells slots : Nat} {Q : State → Prop} {cc : ByteArray} {pc : Nat} {la la' : Array Slot} {rest : List Value}
theorem x_istore_n (hexec : p.tables.exec = Jvm.exec) (hb : c.code = cc) {k : Fin 4} {x : Int32} (hdg : decode cc pc = .ok (.istore_n k, 1)) (e' : storeLocals la k.val (.int x) = some la') (kk : W p l e R s m args below meth c H locs cells slots Q (F0 m (pc + 1) la' rest)) : W p l e R s m args below meth c H locs cells slots Q (F0 m pc la (.int x :: rest)) := by
  intro T hT X
  obtain ⟨t, a, b⟩ := kk T hT X
  refine ⟨t, ?_, b⟩
  jvm_step X.here [X.here.top, ↓top_set X.here.top, hexec, hb, hdg, e']
  exact a
theorem x_istore (hexec : p.tables.exec = Jvm.exec) (hb : c.code = cc) {k : Nat} {x : Int32} (hdg : decode cc pc = .ok (.istore k, 2)) (e' : storeLocals la k (.int x) = some la') (kk : W p l e R s m args below meth c H locs cells slots Q (F0 m (pc + 2) la' rest)) : W p l e R s m args below meth c H locs cells slots Q (F0 m pc la (.int x :: rest)) := by
  intro T hT X
  obtain ⟨t, a, b⟩ := kk T hT X
  refine ⟨t, ?_, b⟩
  jvm_step X.here [X.here.top, ↓top_set X.here.top, hexec, hb, hdg, e']
  exact a
theorem x_astore_n (hexec : p.tables.exec = Jvm.exec) (hb : c.code = cc) {k : Fin 4} {x : Nat} (hdg : decode cc pc = .ok (.astore_n k, 1)) (e' : storeLocals la k.val (.ref x) = some la') (kk : W p l e R s m args below meth c H locs cells slots Q (F0 m (pc + 1) la' rest)) : W p l e R s m args below meth c H locs cells slots Q (F0 m pc la (.ref x :: rest)) := by
  intro T hT X
  obtain ⟨t, a, b⟩ := kk T hT X
  refine ⟨t, ?_, b⟩
  jvm_step X.here [X.here.top, ↓top_set X.here.top, hexec, hb, hdg, e', Value.isRef]
  exact a
theorem x_iinc (hexec : p.tables.exec = Jvm.exec) (hb : c.code = cc) {k : Nat} {n : Int} {x v : Int32} (hdg : decode cc pc = .ok (.iinc k n, 3)) (hg : la[k]? = some (.val (.int x))) (hv : Int32.ofInt n = v) (e' : storeLocals la k (.int (x + v)) = some la') (kk : W p l e R s m args below meth c H locs cells slots Q (F0 m (pc + 3) la' rest)) : W p l e R s m args below meth c H locs cells slots Q (F0 m pc la rest) := by
  subst hv
  intro T hT X
  obtain ⟨t, a, b⟩ := kk T hT X
  refine ⟨t, ?_, b⟩
  jvm_step X.here [X.here.top, ↓top_set X.here.top, hexec, hb, hdg, hg, e']
  exact a
end XS
theorem xcell_cp {cA : ClassId} {n : Nat} {f g : Nat → Int32} : vp_cell cA (n, .inl (va_cpy f g 0 0 n)) = vp_cell cA (n, .inl f) := by
  rw [vp_cell_i, vp_cell_i]
  unfold arrV
  congr 1
  apply Array.ext
  · simp
  · intro i h1 h2
    simp only [Array.getElem_ofFn]
    have : i < n := by simpa using h1
    simp [va_cpy, this]
theorem xfits_ref {ty : FieldType} (h : (∃ n, ty = .object n) ∨ ∃ t, ty = .array t) (k : Nat) : narrow ty (.ref k) = .ref k ∧ fits ty (.ref k) = true := by
  rcases h with ⟨n, rfl⟩ | ⟨t, rfl⟩ <;> exact ⟨rfl, rfl⟩
theorem xup_list {l : List (Option Nat)} {i u : Nat} (ad : Nat → Nat) (hi : i < l.length) : (fun j : Nat => ((l.set i (some u))[j]?.join).map ad) = va_up (fun j : Nat => (l[j]?.join).map ad) i (some (ad u)) := by
  funext j
  unfold va_up
  by_cases h : j = i
  · subst h
    rw [if_pos rfl, List.getElem?_set_self hi]; rfl
  · rw [if_neg h, List.getElem?_set_ne (Ne.symm h)]
theorem vp_in_lt {i : Int32} {n : Nat} (h : vp_in i n) : i.toNatClampNeg < n := Nat.not_le.mp fun q => h (Or.inr q)
/-- a cell written -/
theorem xH.put {I : xI} {A : Nat → Prop} {s : State} {n0 : Nat} {ad0 ad : Nat → Nat} {X : List xE} {H H1 : Heap} {locs locs1 : List Loc} (h : xH I A s n0 ad0 ad X H locs) {k : Nat} {c : xE} (hP : va_P I.1 vwCl ((xw I ad X).set k (ad k, xe I ad c)) H1) (hD : va_D A ((xw I ad X).set k (ad k, xe I ad c))) (hS : va_S A s.heap H1 locs1) : xH I A s n0 ad0 ad (X.set k c) H1 locs1 := by
  rw [xw_set] at hP hD
  exact ⟨h.1, by rw [List.length_set]; exact h.2.1, by rw [List.length_set]; exact h.2.2.1, hP, hD, hS⟩
/-- a cell made: the address map grows -/
theorem xH.push {I : xI} {A : Nat → Prop} {s : State} {n0 : Nat} {ad0 ad : Nat → Nat} {X : List xE} {H H1 : Heap} {locs locs1 : List Loc} (h : xH I A s n0 ad0 ad X H locs) {q : Nat} {c : xE} (hB : X.length < xB) (hok : X.all (xoke X.length) = true) (hc : xe I ad c = xe I (va_up ad X.length q) c)
    (hP : va_P I.1 vwCl (xw I ad X ++ [(q, xe I ad c)]) H1) (hD : va_D A (xw I ad X ++ [(q, xe I ad c)])) (hS : va_S A s.heap H1 locs1) : xH I A s n0 ad0 (va_up ad X.length q) (X ++ [c]) H1 locs1 ∧ ∀ k, k < X.length ∨ xB ≤ k → ad k = va_up ad X.length q k := by
  have ha : ∀ k, k < X.length ∨ xB ≤ k → ad k = va_up ad X.length q k := fun k hk => by
    unfold va_up
    rw [if_neg (by omega)]
  have e1 : xw I ad X = xw I (va_up ad X.length q) X := xw_congr ha (fun k hk => Or.inl hk) (fun c hc => xoke_sp (List.all_eq_true.mp hok c hc))
  have e2 : xw I ad X ++ [(q, xe I ad c)] = xw I (va_up ad X.length q) (X ++ [c]) := by
    rw [e1, hc, ← xw_push]
    congr 3
    unfold va_up
    rw [if_pos rfl]
  rw [e2] at hP hD
  refine ⟨⟨fun i hi => ?_, ?_, ?_, hP, hD, hS⟩, ha⟩
  · have := h.2.1
    rw [← ha i (by omega)]
    exact h.1 i hi
  · rw [List.length_append]; have := h.2.1; simp; omega
  · rw [List.length_append]; simp; omega
end
section
/-! ===== every row is sound ===== -/
theorem xsw_sound {x : Int32} {dn : Nat} {f : Nat → Prop} : ∀ {sw : List (Int32 × Nat)}, xswk x dn f sw → (∃ (j t : Nat), sw[j]? = some (x, t) ∧ f t ∧ ∀ (i : Nat) (q : Int32 × Nat), i < j → sw[i]? = some q → q.1 ≠ x) ∨ ((∀ q ∈ sw, q.1 ≠ x) ∧ f dn)
  | [], h => Or.inr ⟨fun _ hq => (by cases hq), h⟩
  | (v, t) :: r, h => by
    by_cases hv : x = v
    · subst hv
      exact Or.inl ⟨0, t, rfl, h.1 rfl, fun i q hi => absurd hi (Nat.not_lt_zero i)⟩
    · rcases xsw_sound (h.2 hv) with ⟨j, t', h1, h2, h3⟩ | ⟨h1, h2⟩
      · refine Or.inl ⟨j + 1, t', by simpa using h1, h2, fun i q hi hq => ?_⟩
        cases i with
        | zero => simp at hq; subst hq; exact fun z => hv z.symm
        | succ i => exact h3 i q (by omega) (by simpa using hq)
      · refine Or.inr ⟨fun q hq => ?_, h2⟩
        rcases List.mem_cons.mp hq with rfl | hq
        · exact fun z => hv z.symm
        · exact h1 q hq
theorem xswT_at (pc : Nat) : ∀ (os : List Int) (lo : Int) (j : Nat), (xswT pc lo os)[j]? = (os[j]?).map (fun o => (Int32.ofInt (lo + j), (pc : Int) + o))
  | [], lo, j => by simp [xswT]
  | o :: r, lo, 0 => by simp [xswT]
  | o :: r, lo, j + 1 => by
    rw [xswT, List.getElem?_cons_succ, List.getElem?_cons_succ, xswT_at pc r (lo + 1) j]
    congr 1
    funext o'
    congr 2
    push_cast
    omega

theorem xlk {x : Int32} {pc tg : Nat} {df : Int} {f : Nat → Prop} (hdf : (pc : Int) + df = (tg : Int)) : ∀ (ps : List (Int × Int)) (sw : List (Int32 × Nat)), sw.map (fun q => (q.1.toInt, (q.2 : Int))) = ps.map (fun q => (q.1, (pc : Int) + q.2)) → xswk x tg f sw → ∃ (off : Int) (tgt : Nat), Op.lookupswitch.offset ps df x.toInt = off ∧ (pc : Int) + off = (tgt : Int) ∧ f tgt
  | [], [], _, h => ⟨df, tg, rfl, hdf, h⟩
  | [], _ :: _, e, _ => by simp at e
  | _ :: _, [], e, _ => by simp at e
  | (a, o) :: r, (v, t) :: sw, e, h => by
    simp only [List.map_cons, List.cons.injEq, Prod.mk.injEq] at e
    obtain ⟨⟨e1, e2⟩, e3⟩ := e
    by_cases hv : x = v
    · subst hv
      exact ⟨o, t, by rw [Op.lookupswitch.offset_cons, if_pos e1.symm], e2.symm, h.1 rfl⟩
    · obtain ⟨off, tgt, h1, h2, h3⟩ := xlk hdf r sw e3 (h.2 hv)
      exact ⟨off, tgt, by rw [lv_osw hv e1]; exact h1, h2, h3⟩
theorem xofI {j : Nat} (h : j < 100) : (Int32.ofInt (0 + (j : Int))).toInt = (j : Int) := by
  rw [Int.zero_add]
  have : Int32.ofInt (j : Int) = nI j := by unfold nI; rfl
  rw [this, nI_toInt (by omega)]

theorem xdf_nr : ∀ l ∈ xdf, (l.all fun v => match v with | .ref _ => false | _ => true) = true := by decide +kernel
theorem xdf_xv (ad : Nat → Nat) (a : Nat) : (xdf.getD a []).map (xv ad) = xdf.getD a [] := by
  have h : ∀ v ∈ xdf.getD a [], xv ad v = v := by
    rw [List.getD_eq_getElem?_getD]
    cases ha : xdf[a]? with
    | none => intro v hv; cases hv
    | some l =>
      intro v hv
      have := List.all_eq_true.mp (xdf_nr l (List.mem_of_getElem? ha)) v hv
      cases v <;> first | rfl | (simp at this)
  conv => rhs; rw [← List.map_id (xdf.getD a [])]
  exact List.map_congr_left h

set_option maxHeartbeats 4000000 in
set_option maxRecDepth 10000 in
/-- ONE ROW IS SOUND: if what xs1 asks holds, and what it hands on leads to the end, so does this place -/
theorem xs_sound {L : xLn} {M : xM} {d mc ms : Nat} {Q : Option Value → List xE → Prop} {n0 : Nat} {o : xO} {pc : Nat} {z : Nat × Nat} {ls : List (Option Value)} {st : List Value} {X : List xE} {k : xK} {stop : Prop} (hc : xck (xown M) (decide (M.1.name = "<init>")) (xcc M) pc o = true) (h : xs1 L M d mc ms Q o z ls st X k stop)
    (hk : ∀ z' pc' ls' st' X', k z' pc' ls' st' X' → AJ L M d mc ms Q n0 z' pc' ls' st' X') (hs : stop → AJ L M d mc ms Q n0 z pc ls st X) : AJ L M d mc ms Q n0 z pc ls st X := by
  obtain ⟨i, nx, tg, v, w, a, b, t, sw⟩ := o
  intro p e R s m args below meth c I A QF ad0 G ad H locs la HH hl
  have hst := fun (h : stop) => hs h p e R s m args below meth c I A QF ad0 G ad H locs la HH hl
  have go : ∀ {pc' : Nat} {st' : List Value}, k z pc' ls st' X → W p L.1 e R s m args below meth c H locs z.1 z.2 QF (F0 m pc' la (st'.map (xv ad))) := fun h => hk _ _ _ _ _ h p e R s m args below meth c I A QF ad0 G ad H locs la HH hl
  have goL : ∀ {pc' : Nat} {ls' : List (Option Value)} {st' : List Value} {la' : Array Slot}, xL la' (xml M) ad ls' → k z pc' ls' st' X → W p L.1 e R s m args below meth c H locs z.1 z.2 QF (F0 m pc' la' (st'.map (xv ad))) := fun hl h => hk _ _ _ _ _ h p e R s m args below meth c I A QF ad0 G ad H locs _ HH hl
  have goX : ∀ {pc' : Nat} {st' : List Value} {X' : List xE} {H' : Heap} {locs' : List Loc}, xH I A s n0 ad0 ad X' H' locs' → k z pc' ls st' X' → W p L.1 e R s m args below meth c H' locs' z.1 z.2 QF (F0 m pc' la (st'.map (xv ad))) := fun HH h => hk _ _ _ _ _ h p e R s m args below meth c I A QF ad0 G ad _ _ la HH hl
  obtain ⟨⟨hx, hb, hr, hml, hown, hts, hK, hlk, hini, hA, hfr, hlo⟩, hmc, hms, hF, hret⟩ := id G
  obtain ⟨hag, hn0, hB, hP, hD, hS⟩ := id HH
  have hmla : c.maxLocals = la.size := hml.trans hl.1.1.symm
  simp only [xck, Bool.and_eq_true] at hc
  obtain ⟨hd, hc⟩ := hc
  replace hd := of_decide_eq_true hd
  cases i <;> dsimp only [xs1] at h <;> first | exact hst h | skip
  case iconst n =>
    simp only [Bool.and_eq_true] at hc; obtain ⟨hn, hc⟩ := hc; obtain rfl := xnx hn; rw [Nat.add_sub_cancel_left] at hd
    exact lv_iconst hx hb hd (of_decide_eq_true hc) (go h)
  case bipush n =>
    simp only [Bool.and_eq_true] at hc; obtain ⟨hn, hc⟩ := hc; obtain rfl := xnx hn; rw [Nat.add_sub_cancel_left] at hd
    exact lv_bipush hx hb hd (of_decide_eq_true hc) (go h)
  case sipush n =>
    simp only [Bool.and_eq_true] at hc; obtain ⟨hn, hc⟩ := hc; obtain rfl := xnx hn; rw [Nat.add_sub_cancel_left] at hd
    exact lv_sipush hx hb hd (of_decide_eq_true hc) (go h)
  case ldc n =>
    simp only [Bool.and_eq_true] at hc; obtain ⟨hn, hc⟩ := hc; obtain rfl := xnx hn; rw [Nat.add_sub_cancel_left] at hd
    cases a with
    | zero => exact lv_ldc hx hb hown (hts _ (xmt_in hc rfl)) hd (go h)
    | succ a =>
      simp only [Bool.and_eq_true] at hc
      obtain ⟨h1, h2⟩ := h_b_i h
      have h3 : b < 10 := Nat.blt_eq.mp h1
      have h4 := hF.2.2.2.2.1 b h3
      rw [← hag _ (Or.inr (by omega)), Nat.eq_of_beq_eq_true hc.2, ← of_decide_eq_true hc.1] at h4
      exact va_ldcS hx hb hown h4 hd (go h2)
  case ldc_w n =>
    simp only [Bool.and_eq_true] at hc; obtain ⟨hn, hc⟩ := hc; obtain rfl := xnx hn; rw [Nat.add_sub_cancel_left] at hd
    exact lv_ldcw hx hb hown (hts _ (xmt_in hc rfl)) hd (go h)
  case ldc2_w n =>
    simp only [Bool.and_eq_true] at hc; obtain ⟨hn, hc⟩ := hc; obtain rfl := xnx hn; rw [Nat.add_sub_cancel_left] at hd
    exact lv_ldc2 hx hb hown (hts _ (xmt_in hc rfl)) hd (go h)
  case lconst n =>
    simp only [Bool.and_eq_true] at hc; obtain ⟨hn, hc⟩ := hc; obtain rfl := xnx hn; rw [Nat.add_sub_cancel_left] at hd
    exact lv_lconst hx hb hd (of_decide_eq_true hc) (go h)
  case iload_n n =>
    obtain rfl := xnx hc; rw [Nat.add_sub_cancel_left] at hd
    obtain ⟨u, h1, h2⟩ := h_l_i h
    obtain ⟨x, rfl, h3⟩ := h_vi_i h2
    exact lv_iload_n hx hb hd rfl (xL_at hl h1) (go h3)
  case lload_n n =>
    obtain rfl := xnx hc; rw [Nat.add_sub_cancel_left] at hd
    obtain ⟨u, h1, h2⟩ := h_l_i h
    obtain ⟨x, rfl, h3⟩ := h_vj_i h2
    exact lv_lload_n hx hb hd rfl (xL_at hl h1) (go h3)
  case aload_n n =>
    obtain rfl := xnx hc; rw [Nat.add_sub_cancel_left] at hd
    obtain ⟨u, h1, h2⟩ := h_l_i h
    obtain ⟨x, rfl, h3⟩ := h_vr_i h2
    exact lv_aload_n hx hb hd rfl (xL_at hl h1) (go h3)
  case iload n =>
    obtain rfl := xnx hc; rw [Nat.add_sub_cancel_left] at hd
    obtain ⟨u, h1, h2⟩ := h_l_i h
    obtain ⟨x, rfl, h3⟩ := h_vi_i h2
    exact lv_iload hx hb hd (xL_at hl h1) (go h3)
  case aload n =>
    obtain rfl := xnx hc; rw [Nat.add_sub_cancel_left] at hd
    obtain ⟨u, h1, h2⟩ := h_l_i h
    obtain ⟨x, rfl, h3⟩ := h_vr_i h2
    exact lv_aload hx hb hd (xL_at hl h1) (go h3)
  case istore_n n =>
    obtain rfl := xnx hc; rw [Nat.add_sub_cancel_left] at hd
    obtain ⟨x, r, rfl, h1⟩ := h_i_i h
    obtain ⟨h2, h3⟩ := h_b_i h1
    obtain ⟨la2, e2, hl2⟩ := xL_store hl (v := .int x) h2 rfl
    exact x_istore_n hx hb hd e2 (goL hl2 h3)
  case istore n =>
    obtain rfl := xnx hc; rw [Nat.add_sub_cancel_left] at hd
    obtain ⟨x, r, rfl, h1⟩ := h_i_i h
    obtain ⟨h2, h3⟩ := h_b_i h1
    obtain ⟨la2, e2, hl2⟩ := xL_store hl (v := .int x) h2 rfl
    exact x_istore hx hb hd e2 (goL hl2 h3)
  case astore_n n =>
    obtain rfl := xnx hc; rw [Nat.add_sub_cancel_left] at hd
    obtain ⟨x, r, rfl, h1⟩ := h_r_i h
    obtain ⟨h2, h3⟩ := h_b_i h1
    obtain ⟨la2, e2, hl2⟩ := xL_store hl (v := .ref x) h2 rfl
    exact x_astore_n hx hb hd e2 (goL hl2 h3)
  case iinc n y =>
    simp only [Bool.and_eq_true] at hc; obtain ⟨hn, hc⟩ := hc; obtain rfl := xnx hn; rw [Nat.add_sub_cancel_left] at hd
    obtain ⟨u, h1, h2⟩ := h_l_i h
    obtain ⟨x, rfl, h3⟩ := h_vi_i h2
    obtain ⟨h4, h5⟩ := h_b_i h3
    obtain ⟨la2, e2, hl2⟩ := xL_store hl (v := .int (x + v)) h4 rfl
    exact x_iinc hx hb hd (xL_at hl h1) (of_decide_eq_true hc) e2 (goL hl2 h5)
  case iadd =>
    obtain rfl := xnx hc; rw [Nat.add_sub_cancel_left] at hd
    obtain ⟨x, y, r, rfl, h1⟩ := h_ii_i h
    exact lv_iadd hx hb hd (go h1)
  case isub =>
    obtain rfl := xnx hc; rw [Nat.add_sub_cancel_left] at hd
    obtain ⟨x, y, r, rfl, h1⟩ := h_ii_i h
    exact lv_isub hx hb hd (go h1)
  case imul =>
    obtain rfl := xnx hc; rw [Nat.add_sub_cancel_left] at hd
    obtain ⟨x, y, r, rfl, h1⟩ := h_ii_i h
    exact lv_imul hx hb hd (go h1)
  case iand =>
    obtain rfl := xnx hc; rw [Nat.add_sub_cancel_left] at hd
    obtain ⟨x, y, r, rfl, h1⟩ := h_ii_i h
    exact lv_iand hx hb hd (go h1)
  case ior =>
    obtain rfl := xnx hc; rw [Nat.add_sub_cancel_left] at hd
    obtain ⟨x, y, r, rfl, h1⟩ := h_ii_i h
    exact lv_ior hx hb hd (go h1)
  case ixor =>
    obtain rfl := xnx hc; rw [Nat.add_sub_cancel_left] at hd
    obtain ⟨x, y, r, rfl, h1⟩ := h_ii_i h
    exact lv_ixor hx hb hd (go h1)
  case ishl =>
    obtain rfl := xnx hc; rw [Nat.add_sub_cancel_left] at hd
    obtain ⟨x, y, r, rfl, h1⟩ := h_ii_i h
    exact lv_ishl hx hb hd (go h1)
  case ishr =>
    obtain rfl := xnx hc; rw [Nat.add_sub_cancel_left] at hd
    obtain ⟨x, y, r, rfl, h1⟩ := h_ii_i h
    exact lv_ishr hx hb hd (go h1)
  case iushr =>
    obtain rfl := xnx hc; rw [Nat.add_sub_cancel_left] at hd
    obtain ⟨x, y, r, rfl, h1⟩ := h_ii_i h
    exact lv_iushr hx hb hd rfl (go h1)
  case idiv =>
    obtain rfl := xnx hc; rw [Nat.add_sub_cancel_left] at hd
    obtain ⟨x, y, r, rfl, h1, h2⟩ := h_ii_i h
    exact lv_idiv hx hb hd h1 (go h2)
  case irem =>
    obtain rfl := xnx hc; rw [Nat.add_sub_cancel_left] at hd
    obtain ⟨x, y, r, rfl, h1, h2⟩ := h_ii_i h
    exact lv_irem hx hb hd h1 (go h2)
  case ladd =>
    obtain rfl := xnx hc; rw [Nat.add_sub_cancel_left] at hd
    obtain ⟨x, y, r, rfl, h1⟩ := h_jj_i h
    exact lv_ladd hx hb hd (go h1)
  case lsub =>
    obtain rfl := xnx hc; rw [Nat.add_sub_cancel_left] at hd
    obtain ⟨x, y, r, rfl, h1⟩ := h_jj_i h
    exact lv_lsub hx hb hd (go h1)
  case lmul =>
    obtain rfl := xnx hc; rw [Nat.add_sub_cancel_left] at hd
    obtain ⟨x, y, r, rfl, h1⟩ := h_jj_i h
    exact lv_lmul hx hb hd (go h1)
  case land =>
    obtain rfl := xnx hc; rw [Nat.add_sub_cancel_left] at hd
    obtain ⟨x, y, r, rfl, h1⟩ := h_jj_i h
    exact lv_land hx hb hd (go h1)
  case lor =>
    obtain rfl := xnx hc; rw [Nat.add_sub_cancel_left] at hd
    obtain ⟨x, y, r, rfl, h1⟩ := h_jj_i h
    exact lv_lor hx hb hd (go h1)
  case lshl =>
    obtain rfl := xnx hc; rw [Nat.add_sub_cancel_left] at hd
    obtain ⟨x, y, r, rfl, h1⟩ := h_ji_i h
    exact lv_lshl hx hb hd rfl (go h1)
  case lshr =>
    obtain rfl := xnx hc; rw [Nat.add_sub_cancel_left] at hd
    obtain ⟨x, y, r, rfl, h1⟩ := h_ji_i h
    exact lv_lshr hx hb hd rfl (go h1)
  case lcmp =>
    obtain rfl := xnx hc; rw [Nat.add_sub_cancel_left] at hd
    obtain ⟨x, y, r, rfl, h1⟩ := h_jj_i h
    exact W.lcmp hx hb hd (go h1)
  case i2l =>
    obtain rfl := xnx hc; rw [Nat.add_sub_cancel_left] at hd
    obtain ⟨x, r, rfl, h1⟩ := h_i_i h
    exact lv_i2l hx hb hd rfl (go h1)
  case l2i =>
    obtain rfl := xnx hc; rw [Nat.add_sub_cancel_left] at hd
    obtain ⟨x, r, rfl, h1⟩ := h_j_i h
    exact lv_l2i hx hb hd rfl (go h1)
  case i2c =>
    obtain rfl := xnx hc; rw [Nat.add_sub_cancel_left] at hd
    obtain ⟨x, r, rfl, h1⟩ := h_i_i h
    exact lv_i2c hx hb hd rfl (go h1)
  case dup =>
    obtain rfl := xnx hc; rw [Nat.add_sub_cancel_left] at hd
    obtain ⟨u, r, rfl, hu, h1⟩ := h_1_i h
    exact lv_dup hx hb hd (by rw [xv_cat]; exact hu) (go h1)
  case dup2 =>
    obtain rfl := xnx hc; rw [Nat.add_sub_cancel_left] at hd
    obtain ⟨u, r, rfl, hu, h1⟩ := h_1_i h
    obtain ⟨u2, r2, rfl, hu2, h2⟩ := h_1_i h1
    exact lv_dup2_11 hx hb hd (by rw [xv_cat]; exact hu) (by rw [xv_cat]; exact hu2) (go h2)
  case pop =>
    obtain rfl := xnx hc; rw [Nat.add_sub_cancel_left] at hd
    obtain ⟨u, r, rfl, hu, h1⟩ := h_1_i h
    exact lv_pop hx hb hd (by rw [xv_cat]; exact hu) (go h1)
  case goto off =>
    simp only [Bool.and_eq_true] at hc; obtain ⟨hn, hc⟩ := hc; obtain rfl := xnx hn; rw [Nat.add_sub_cancel_left] at hd
    exact lv_goto hx hb hd (of_decide_eq_true hc) (go h)
  case ifCond cd off =>
    simp only [Bool.and_eq_true] at hc; obtain ⟨hn, hc⟩ := hc; obtain rfl := xnx hn; rw [Nat.add_sub_cancel_left] at hd
    have ht := of_decide_eq_true hc
    cases cd with
    | eq => obtain ⟨x, r, rfl, h1, h2⟩ := h_i_i h; exact lv_if_eq hx hb hd ht (fun q => go (h1 q)) (fun q => go (h2 q))
    | ne => obtain ⟨x, r, rfl, h1, h2⟩ := h_i_i h; exact lv_if_ne hx hb hd ht (fun q => go (h1 q)) (fun q => go (h2 q))
    | lt => obtain ⟨x, r, rfl, h1, h2⟩ := h_i_i h; exact lv_if_lt hx hb hd ht (fun q => go (h1 q)) (fun q => go (h2 q))
    | ge => obtain ⟨x, r, rfl, h1, h2⟩ := h_i_i h; exact lv_if_ge hx hb hd ht (fun q => go (h1 q)) (fun q => go (h2 q))
    | gt => obtain ⟨x, r, rfl, h1, h2⟩ := h_i_i h; exact lv_if_gt hx hb hd ht (fun q => go (h1 q)) (fun q => go (h2 q))
    | le => obtain ⟨x, r, rfl, h1, h2⟩ := h_i_i h; exact lv_if_le hx hb hd ht (fun q => go (h1 q)) (fun q => go (h2 q))
  case if_icmp cd off =>
    simp only [Bool.and_eq_true] at hc; obtain ⟨hn, hc⟩ := hc; obtain rfl := xnx hn; rw [Nat.add_sub_cancel_left] at hd
    have ht := of_decide_eq_true hc
    cases cd with
    | eq => obtain ⟨x, y, r, rfl, h1, h2⟩ := h_ii_i h; exact lv_icmp_eq hx hb hd ht (fun q => go (h1 q)) (fun q => go (h2 q))
    | ne => obtain ⟨x, y, r, rfl, h1, h2⟩ := h_ii_i h; exact lv_icmp_ne hx hb hd ht (fun q => go (h1 q)) (fun q => go (h2 q))
    | lt => obtain ⟨x, y, r, rfl, h1, h2⟩ := h_ii_i h; exact lv_icmp_lt hx hb hd ht (fun q => go (h1 q)) (fun q => go (h2 q))
    | ge => obtain ⟨x, y, r, rfl, h1, h2⟩ := h_ii_i h; exact lv_icmp_ge hx hb hd ht (fun q => go (h1 q)) (fun q => go (h2 q))
    | gt => obtain ⟨x, y, r, rfl, h1, h2⟩ := h_ii_i h; exact lv_icmp_gt hx hb hd ht (fun q => go (h1 q)) (fun q => go (h2 q))
    | le => obtain ⟨x, y, r, rfl, h1, h2⟩ := h_ii_i h; exact lv_icmp_le hx hb hd ht (fun q => go (h1 q)) (fun q => go (h2 q))
  case tableswitch df lo hi offs =>
    simp only [Bool.and_eq_true] at hc
    obtain ⟨⟨⟨⟨c1, c2⟩, c3⟩, c4⟩, c5⟩ := hc
    have c1 := of_decide_eq_true c1
    have c2 := of_decide_eq_true c2
    have c3 := of_decide_eq_true c3
    have c4 : offs.size < 100 := Nat.blt_eq.mp c4
    have c5 := of_decide_eq_true c5
    subst c2
    obtain ⟨x, r, rfl, h1⟩ := h_i_i h
    rcases xsw_sound h1 with ⟨j, t2, hj, ht, -⟩ | ⟨hall, hdn⟩
    · have e1 := congrArg (fun l => l[j]?) c5
      rw [List.getElem?_map, hj, xswT_at] at e1
      cases ho : offs.toList[j]? with
      | none => rw [ho] at e1; simp at e1
      | some off =>
        rw [ho] at e1
        simp only [Option.map_some, Option.some.injEq, Prod.mk.injEq] at e1
        have hjl : j < offs.size := by
          have := (List.getElem?_eq_some_iff.mp ho).1
          simpa using this
        have ex : x.toInt = (j : Int) := by rw [e1.1]; exact xofI (by omega)
        exact lv_tableIn hx hb hd (by omega) (by omega) (off := off) (by rw [ex, show ((j : Int) - 0).toNat = j by omega, ← Array.getElem?_toList]; exact ho) e1.2.symm (go ht)
    · have hout : x.toInt < 0 ∨ hi < x.toInt := by
        by_cases hq : x.toInt < 0 ∨ hi < x.toInt
        · exact hq
        · exfalso
          have hj : x.toInt.toNat < offs.toList.length := by rw [Array.length_toList]; omega
          have e1 := congrArg (fun l => l[x.toInt.toNat]?) c5
          rw [List.getElem?_map, xswT_at, List.getElem?_eq_getElem hj] at e1
          cases hs : sw[x.toInt.toNat]? with
          | none => rw [hs] at e1; simp at e1
          | some q =>
            rw [hs] at e1
            simp only [Option.map_some, Option.some.injEq, Prod.mk.injEq] at e1
            refine hall q (List.mem_of_getElem? hs) ?_
            rw [e1.1]
            apply Int32.toInt_inj.mp
            rw [Array.length_toList] at hj
            rw [xofI (by omega)]
            omega
      exact lv_tableOut hx hb hd hout c1 (go hdn)
  case lookupswitch df ps =>
    simp only [Bool.and_eq_true] at hc
    obtain ⟨⟨c1, c2⟩, c3⟩ := hc
    obtain ⟨x, r, rfl, h1⟩ := h_i_i h
    obtain ⟨off, tgt, q1, q2, q3⟩ := xlk (of_decide_eq_true c1) _ _ (of_decide_eq_true c3) h1
    exact lv_lookup hx hb hd (of_decide_eq_true c2) q1 q2 (go q3)
  case getfield n =>
    simp only [Bool.and_eq_true] at hc; obtain ⟨hn, hc⟩ := hc; obtain rfl := xnx hn; rw [Nat.add_sub_cancel_left] at hd
    obtain ⟨q, r, rfl, h1⟩ := h_r_i h
    split at h1
    · obtain ⟨h2, h3⟩ := h_b_i h1
      simp only [Bool.and_eq_true, Nat.ble_eq, Nat.blt_eq] at h2
      obtain ⟨j, rfl⟩ := Nat.exists_eq_add_of_le h2.1
      have hj : j < 10 := by omega
      have hv := hF.2.2.2.1.1 j hj
      cases b with
      | zero =>
        have h4 := hv.2.2.1
        dsimp only at h4
        rw [← hag _ (Or.inr (by omega : xB ≤ xB + 11 + j)), ← hag _ (Or.inr (by omega : xB ≤ xB + 1 + j))] at h4
        rw [show xB + 1 + j + 10 = xB + 11 + j by omega] at h3
        exact vk_getf hx hb h4 hS hown (hts _ (xmt_in hc rfl)) (fun _ h => h) hd (go h3)
      | succ b =>
        have h4 := hv.2.1
        dsimp only at h4
        rw [← hag _ (Or.inr (by omega : xB ≤ xB + 1 + j))] at h4
        exact vk_getf hx hb h4 hS hown (hts _ (xmt_in hc rfl)) (fun _ h => h) hd (go h3)
    · obtain ⟨fs, h2, h3⟩ := h_o_i h1
      obtain ⟨u, h4, h5⟩ := h_s_i h3
      have hc : xfk (xown M) n a b t = true := by
        revert hc
        split
        · contradiction
        · exact id
      unfold xfk at hc
      split at hc
      · next rr hrr =>
        simp only [Bool.and_eq_true] at hc
        exact va_get hx hb hts (xcls hrr) hown hK hP q (xw_get h2) hrr b (Nat.blt_eq.mp hc.1) (hts _ (xmt_in hc.2 rfl)) (fun _ h => h) (by rw [List.getElem?_map, h4]; rfl) hd (go h5)
      · cases hc
  case putfield n =>
    simp only [Bool.and_eq_true] at hc
    obtain ⟨⟨⟨hn, hc⟩, hw⟩, hi⟩ := hc
    obtain rfl := xnx hn
    rw [Nat.add_sub_cancel_left] at hd
    obtain ⟨q, u, r, rfl, h1⟩ := h_rv_i h
    obtain ⟨fs, h2, h3⟩ := h_o_i h1
    obtain ⟨h4, h5⟩ := h_b_i h3
    have hbl : b < fs.length := Nat.blt_eq.mp h4
    unfold xfk at hc
    unfold xfw at hw
    cases hrr : vwCl[a]? with
    | none => rw [hrr] at hc; cases hc
    | some rr =>
      rw [hrr] at hc hw
      simp only [Bool.and_eq_true] at hc hw
      obtain ⟨⟨w1, w2⟩, w3⟩ := hw
      have w1 := of_decide_eq_true w1
      have hu : ∃ ty, parseFieldDescriptor (rr.2.1 b).2.2.1 = some ty ∧ narrow ty (xv ad u) = xv ad u ∧ fits ty (xv ad u) = true ∧ k z (pc + 3) ls r (X.set q (.inr (.inr (a, fs.set b u)))) := by
        match tg, w3, h5 with
        | 0, w3, h5 =>
          cases u <;> first | exact h5.elim | exact ⟨.int, of_decide_eq_true w3, rfl, rfl, h5⟩
        | 1, w3, h5 =>
          cases u <;> first | exact h5.elim | skip
          rcases h5 with ⟨rfl | rfl, h5⟩ <;> exact ⟨.boolean, of_decide_eq_true w3, rfl, rfl, h5⟩
        | 2, w3, h5 =>
          cases u <;> first | exact h5.elim | skip
          obtain ⟨ty, t1, t2⟩ := xisr_i w3
          exact ⟨ty, t1, (xfits_ref t2 _).1, (xfits_ref t2 _).2, h5⟩
        | tg + 3, w3, h5 =>
          cases u <;> first | exact h5.elim | exact ⟨.long, of_decide_eq_true w3, rfl, rfl, h5⟩
      obtain ⟨ty, u1, u2, u3, u4⟩ := hu
      have hlk : (Cond.fieldLink M.1.cls n (rr.2.1 b).1 (rr.2.1 b).2.1 (rr.2.1 b).2.2.1).before args s = true := hts _ (xmt_in hc.2 rfl)
      have fin : ∀ (H1 : Heap) (locs1 : List Loc), va_P I.1 vwCl ((xw I ad X).set q (ad q, .inr (a, (fs.map (xv ad)).set b (xv ad u)))) H1 → va_D A ((xw I ad X).set q (ad q, .inr (a, (fs.map (xv ad)).set b (xv ad u)))) → va_S A s.heap H1 locs1 → W p L.1 e R s m args below meth c H1 locs1 z.1 z.2 QF (F0 m (pc + 3) la (r.map (xv ad))) := by
        intro H1 locs1 q1 q2 q3
        refine goX (X' := X.set q (.inr (.inr (a, fs.set b u)))) (xH.put HH ?_ ?_ q3) u4
        · show va_P I.1 vwCl ((xw I ad X).set q (ad q, .inr (a, (fs.set b u).map (xv ad)))) H1
          rw [List.map_set]; exact q1
        · show va_D A ((xw I ad X).set q (ad q, .inr (a, (fs.set b u).map (xv ad))))
          rw [List.map_set]; exact q2
      cases hf : (rr.2.1 b).2.2.2 with
      | false => exact va_put hx hb hts (xcls hrr) (xtyF rr) (xty_ok rr (List.mem_of_getElem? hrr)) (xnm_ok rr (List.mem_of_getElem? hrr)) hown hK hP hD hS q (xw_get h2) hrr b (Nat.blt_eq.mp hc.1) hlk (fun _ h => h) hf u1 u2 u3 (by rw [List.length_map]; exact hbl) hd fin
      | true =>
        have hv1 : v = 1 := by rw [hf] at w1; exact of_decide_eq_true w1.symm
        have ho : (rr.2.1 b).1 = M.1.cls := by
          rw [hv1] at w2
          simp at w2
          exact w2
        have hnm : M.1.name = "<init>" := by
          rw [hv1] at hi
          simpa using hi
        exact va_putF hx hb hts (xcls hrr) (xtyF rr) (xty_ok rr (List.mem_of_getElem? hrr)) (xnm_ok rr (List.mem_of_getElem? hrr)) hown hK hP hD hS q (xw_get h2) hrr b (Nat.blt_eq.mp hc.1) hlk (fun _ h => h) hf (hini hnm) ho u1 u2 u3 (by rw [List.length_map]; exact hbl) hd fin
  case getstatic n =>
    simp only [Bool.and_eq_true] at hc; obtain ⟨hn, hc⟩ := hc; obtain rfl := xnx hn; rw [Nat.add_sub_cancel_left] at hd
    split at h
    · have h4 := hF.1
      rw [← hag _ (Or.inr (Nat.le_refl xB))] at h4
      exact va_gets hx hb h4 hS hown (hts _ (xmt_in hc rfl)) (fun _ h => h) hd (go h)
    · exact va_gets hx hb hF.2.2.1 hS hown (hts _ (xmt_in hc rfl)) (fun _ h => h) hd (go h)
    · exact hst h
  case iaload =>
    obtain rfl := xnx hc; rw [Nat.add_sub_cancel_left] at hd
    obtain ⟨q, i, r, rfl, h1⟩ := h_ri_i h
    cases e1 : Nat.beq q xB with
    | true =>
      rw [e1] at h1
      obtain ⟨y, rfl, hy, h1⟩ := h1
      obtain rfl := Nat.eq_of_beq_eq_true e1
      have h4 := hF.2.1
      rw [← hag _ (Or.inr (Nat.le_refl xB))] at h4
      exact va_ti hx hb h4 hS (vp_in_nI hy (by omega)) (by rw [nI_clamp (by omega)]; rfl) hd (go h1)
    | false =>
      rw [e1] at h1
      cases e2 : Nat.beq q (xB + 40) with
      | true =>
        rw [e2] at h1
        obtain ⟨y, rfl, hy, hL, h1⟩ := h1
        obtain rfl := Nat.eq_of_beq_eq_true e2
        have h4 := hF.2.2.2.2.2.1
        rw [← hag _ (Or.inr (by omega))] at h4
        exact va_ti hx hb h4 hS (vp_in_nI hy (by omega)) (by rw [nI_clamp (by omega)]; rfl) hd (go h1)
      | false =>
        rw [e2] at h1
        obtain ⟨n, f, h2, h3⟩ := h_a_i h1
        obtain ⟨hn, y, rfl, hy, h4⟩ := h_b_i h3
        have hn := Nat.le_of_ble_eq_true hn
        refine va_iald hx hb hK hP q 0 (xw_get h2) rfl (vp_in_nI hy (by omega)) hd ?_
        rw [nI_clamp (by omega)]
        exact go h4
  case baload =>
    obtain rfl := xnx hc; rw [Nat.add_sub_cancel_left] at hd
    obtain ⟨q, i, r, rfl, h1⟩ := h_ri_i h
    cases e1 : Nat.ble (xB + 11) q && Nat.blt q (xB + 21) with
    | true =>
      rw [e1] at h1
      simp only [Bool.and_eq_true, Nat.ble_eq, Nat.blt_eq] at e1
      obtain ⟨j, rfl⟩ := Nat.exists_eq_add_of_le e1.1
      rw [Nat.add_sub_cancel_left] at h1
      obtain ⟨y, rfl, hy, hy2, hy3, h1⟩ := h1
      have h4 := (hF.2.2.2.1.1 j (by omega)).2.2.2
      dsimp only at h4
      rw [← hag _ (Or.inr (by omega : xB ≤ xB + 11 + j))] at h4
      exact va_tb hx hb h4 hS (vp_in_nI hy (by omega)) (by rw [nI_clamp (by omega)]; rfl) hd (go h1)
    | false =>
      rw [e1] at h1
      obtain ⟨n, f, h2, h3⟩ := h_a_i h1
      obtain ⟨hn, y, rfl, hy, h4⟩ := h_b_i h3
      have hn := Nat.le_of_ble_eq_true hn
      refine va_zald hx hb hK hP q 1 (xw_get h2) rfl (vp_in_nI hy (by omega)) hd ?_
      rw [nI_clamp (by omega)]
      exact go h4
  case iastore =>
    obtain rfl := xnx hc; rw [Nat.add_sub_cancel_left] at hd
    obtain ⟨q, i, x, r, rfl, h1⟩ := h_rii_i h
    obtain ⟨n, f, h2, h3⟩ := h_a_i h1
    obtain ⟨hn, y, rfl, hy, h4⟩ := h_b_i h3
    have hn := Nat.le_of_ble_eq_true hn
    exact va_iast hx hb hK hP hD hS q 0 (xw_get h2) rfl (vp_in_nI hy (by omega)) hd (fun H1 locs1 q1 q2 q3 => by rw [nI_clamp (by omega)] at q1 q2; exact goX (HH.put (c := .inl (0, n, upd f y x)) q1 q2 q3) h4)
  case bastore =>
    obtain rfl := xnx hc; rw [Nat.add_sub_cancel_left] at hd
    obtain ⟨q, i, x, r, rfl, h1⟩ := h_rii_i h
    obtain ⟨n, f, h2, h3⟩ := h_a_i h1
    obtain ⟨hn, y, rfl, hy, h5, h4⟩ := h_b_i h3
    have hn := Nat.le_of_ble_eq_true hn
    have hv : vp_nar .boolean x = x := by rcases h5 with rfl | rfl <;> rfl
    exact va_zast hx hb hK hP hD hS q 1 (xw_get h2) rfl (vp_in_nI hy (by omega)) hd (fun H1 locs1 q1 q2 q3 => by rw [hv, nI_clamp (by omega)] at q1 q2; exact goX (HH.put (c := .inl (1, n, upd f y x)) q1 q2 q3) h4)
  case aaload =>
    obtain rfl := xnx hc; rw [Nat.add_sub_cancel_left] at hd
    obtain ⟨q, i, r, rfl, h1⟩ := h_ri_i h
    obtain ⟨l, h2, h3⟩ := h_q_i h1
    obtain ⟨hn, y, rfl, hy, h4⟩ := h_b_i h3
    have hn := Nat.le_of_ble_eq_true hn
    obtain ⟨u, h5, h6⟩ := h_s_i h4
    refine va_aldq hx hb hK hP q 2 (xw_get h2) rfl (vp_in_nI hy (by omega)) hd ?_
    show W p L.1 e R s m args below meth c H locs z.1 z.2 QF (F0 m (pc + 1) la (va_rf ((l[(nI y).toNatClampNeg]?.join).map ad) :: r.map (xv ad)))
    rw [nI_clamp (by omega), h5]
    exact go h6
  case aastore =>
    obtain rfl := xnx hc; rw [Nat.add_sub_cancel_left] at hd
    obtain ⟨q, i, u, r, rfl, h1⟩ := h_rir_i h
    obtain ⟨l, h2, h1⟩ := h_q_i h1
    obtain ⟨fs, h3, h1⟩ := h_o_i h1
    obtain ⟨hn, y, rfl, hy, h5⟩ := h_b_i h1
    have hn := Nat.le_of_ble_eq_true hn
    refine va_astq hx hb hK hP hD hS q 2 u 0 (xw_get h2) (r := (RX0, TX0, 15)) rfl (xw_get h3) rfl (vp_in_nI hy (by omega)) hd (fun H1 locs1 q1 q2 q3 => ?_)
    rw [nI_clamp (by omega)] at q1 q2
    refine goX (HH.put (c := .inr (.inl (l.set y (some u)))) ?_ ?_ q3) h5
    · show va_P I.1 vwCl ((xw I ad X).set q (ad q, .inl (I.2.2.2, (l.set y (some u)).length, .inr (.inr (.inr (.inr (fun j => ((l.set y (some u))[j]?.join).map ad))))))) H1
      rw [xup_list ad hy, List.length_set]; exact q1
    · show va_D A ((xw I ad X).set q (ad q, .inl (I.2.2.2, (l.set y (some u)).length, .inr (.inr (.inr (.inr (fun j => ((l.set y (some u))[j]?.join).map ad)))))))
      rw [xup_list ad hy, List.length_set]; exact q2
  case arraylength =>
    obtain rfl := xnx hc; rw [Nat.add_sub_cancel_left] at hd
    obtain ⟨q, r, rfl, h1⟩ := h_r_i h
    cases e1 : Nat.beq q (xB + 40) with
    | true =>
      rw [e1] at h1
      obtain rfl := Nat.eq_of_beq_eq_true e1
      have h4 := hF.2.2.2.2.2.1
      rw [← hag _ (Or.inr (by omega))] at h4
      exact va_tlen hx hb h4 hS rfl hd (go h1)
    | false =>
      rw [e1] at h1
      cases e2 : Nat.ble (xB + 11) q && Nat.blt q (xB + 21) with
      | true =>
        rw [e2] at h1
        simp only [Bool.and_eq_true, Nat.ble_eq, Nat.blt_eq] at e2
        obtain ⟨j, rfl⟩ := Nat.exists_eq_add_of_le e2.1
        rw [Nat.add_sub_cancel_left] at h1
        have h4 := (hF.2.2.2.1.1 j (by omega)).2.2.2
        dsimp only at h4
        rw [← hag _ (Or.inr (by omega : xB ≤ xB + 11 + j))] at h4
        exact va_tlen hx hb h4 hS rfl hd (go h1)
      | false =>
        rw [e2] at h1
        obtain ⟨n, f, h2, h3⟩ := h_a_i h1
        exact va_alen hx hb hK hP q 0 (xw_get h2) rfl rfl hd (go h3)
  case return_ =>
    obtain rfl := xnx hc; rw [Nat.add_sub_cancel_left] at hd
    obtain ⟨h1, h2⟩ := h_b_i h
    simp only [Bool.and_eq_true, Nat.ble_eq] at h1
    split at h2
    · next e1 => exact W.widen h1.1.1 h1.1.2 (hret none X ad H locs pc la h2 h1.2 HH ⟨e1, hd⟩)
    · exact h2.elim
  case ireturn =>
    obtain rfl := xnx hc; rw [Nat.add_sub_cancel_left] at hd
    obtain ⟨h1, h2⟩ := h_b_i h
    simp only [Bool.and_eq_true, Nat.ble_eq] at h1
    unfold xrr at h2
    split at h2
    · next x =>
      split at h2
      · next e1 => exact W.widen h1.1.1 h1.1.2 (hret (some (.int x)) X ad H locs pc la h2 h1.2 HH ⟨hd, _, e1, rfl⟩)
      · next e1 => exact W.widen h1.1.1 h1.1.2 (hret (some (.int x)) X ad H locs pc la h2.2 h1.2 HH ⟨hd, _, e1, by rcases h2.1 with rfl | rfl <;> rfl⟩)
      · next e1 => exact W.widen h1.1.1 h1.1.2 (hret (some (.int x)) X ad H locs pc la h2.2 h1.2 HH ⟨hd, _, e1, h2.1⟩)
      · next e1 => exact W.widen h1.1.1 h1.1.2 (hret (some (.int x)) X ad H locs pc la h2.2 h1.2 HH ⟨hd, _, e1, h2.1⟩)
      · exact h2.elim
    · exact h2.elim
  case invokespecial n =>
    simp only [Bool.and_eq_true] at hc; obtain ⟨hn, hc⟩ := hc; obtain rfl := xnx hn; rw [Nat.add_sub_cancel_left] at hd
    split at h
    · obtain ⟨q, r, rfl, h1⟩ := h_r_i h
      obtain ⟨h2, h3⟩ := h_b_i h1
      simp only [Bool.and_eq_true, Nat.ble_eq, Nat.blt_eq] at h2 hc
      refine W.objInit hx hb hown (hts _ (xmt_in hc.1.1 rfl)) (hts _ (xmm_in hc.1.2 rfl)) (hts _ (xmm_in hc.2 rfl)) rfl hmla.symm rfl hd (by omega) ?_ (go h3)
      have e1 : ((r.map (xv ad)).map fun v => v.category) = r.map fun v => v.category := by rw [List.map_map]; exact List.map_congr_left (fun v _ => xv_cat ad v)
      rw [e1]
      have e2 : JFrame.monitorRoom (F0 m pc la (.ref (ad q) :: r.map (xv ad))) = 0 := rfl
      show 2 * JFrame.monitorRoom (F0 m pc la (.ref (ad q) :: r.map (xv ad))) + _ + 12 ≤ _
      rw [e2]
      omega
    · exact hst h
  case invokestatic n =>
    simp only [Bool.and_eq_true] at hc; obtain ⟨hn, hc⟩ := hc; obtain rfl := xnx hn; rw [Nat.add_sub_cancel_left] at hd
    have e1 : ∀ r : List Value, ((r.map (xv ad)).map fun v => v.category) = r.map fun v => v.category := fun r => by rw [List.map_map]; exact List.map_congr_left (fun v _ => xv_cat ad v)
    split at h
    · obtain ⟨x, y, r, rfl, h1⟩ := h_ii_i h
      obtain ⟨h2, h3⟩ := h_b_i h1
      simp only [Bool.and_eq_true, Nat.ble_eq, Nat.blt_eq] at h2 hc
      exact va_mmax hx hb hmla hown (hts _ (xmt_in hc.1.1.1 rfl)) (hts _ (xmm_in hc.1.1.2 rfl)) (hts _ (xmm_in hc.1.2 rfl)) (hts _ (xmm_in hc.2 rfl)) (by omega) (by rw [e1]; omega) (by omega) (by omega) hd (go h3)
    · obtain ⟨x, y, r, rfl, h1⟩ := h_ii_i h
      obtain ⟨h2, h3⟩ := h_b_i h1
      simp only [Bool.and_eq_true, Nat.ble_eq, Nat.blt_eq] at h2 hc
      exact va_mmin hx hb hmla hown (hts _ (xmt_in hc.1.1.1 rfl)) (hts _ (xmm_in hc.1.1.2 rfl)) (hts _ (xmm_in hc.1.2 rfl)) (hts _ (xmm_in hc.2 rfl)) (by omega) (by rw [e1]; omega) (by omega) (by omega) hd (go h3)
    · obtain ⟨a1, sp, d1, dp, n1, r, rfl, h1⟩ := h_cp_i h
      obtain ⟨na, f, h2, h3⟩ := h_a_i h1
      obtain ⟨nd, g, h4, h5⟩ := h_a_i h3
      obtain ⟨h6, h7⟩ := h_b_i h5
      simp only [Bool.and_eq_true, Nat.ble_eq, Nat.blt_eq, decide_eq_true_eq] at h6 hc
      obtain ⟨⟨⟨⟨⟨⟨q1, q2⟩, rfl⟩, rfl⟩, q3⟩, rfl⟩, q4⟩ := h6
      obtain rfl := Nat.eq_of_beq_eq_true q3
      have qn : (nI na).toNatClampNeg = na := nI_clamp (by omega)
      refine va_copyi hx hb hmla hown (hts _ (xmt_in hc.1.1.1 rfl)) (hts _ (xmm_in hc.1.1.2 rfl)) (hts _ (xmm_in hc.1.2 rfl)) (hts _ (xmm_in hc.2 rfl)) hK hP hD hS a1 d1 0 0 (ty := .int) (xw_get h2) (xw_get h4) rfl rfl rfl (by decide) (by decide) (nI_pos (by omega)) (by rw [qn]; show 0 + na ≤ na; omega) (by rw [qn]; show 0 + na ≤ na; omega) (fun _ _ => rfl) (by omega) ?_ hd (fun H1 locs1 p1 p2 p3 => ?_)
      · rw [e1]
        show _ + (5 + 2 + 11) ≤ _
        omega
      · rw [qn] at p1 p2
        have p1' : va_P I.1 vwCl ((xw I ad X).set d1 (ad d1, .inl (I.2.1, na, .inl f))) H1 := by
          intro kk qq hq
          by_cases hkd : kk = d1
          · subst hkd
            have hlt : kk < (xw I ad X).length := (List.getElem?_eq_some_iff.mp (xw_get (I := I) (ad := ad) h4)).1
            rw [List.getElem?_set_self hlt] at hq
            cases hq
            have := p1 kk _ (List.getElem?_set_self hlt)
            show H1[ad kk]? = some (vp_cell _ _)
            rw [← xcell_cp (g := g)]
            exact this
          · rw [List.getElem?_set_ne (Ne.symm hkd)] at hq
            exact p1 kk qq (by rw [List.getElem?_set_ne (Ne.symm hkd)]; exact hq)
        exact goX (HH.put (c := .inl (0, na, f)) p1' (hD.set (xw_get h4)) p3) h7
    · exact hst h
  all_goals
    have goA : ∀ {pc' : Nat} {r : List Value} {N : Nat} {cc' : xE} {q : Nat} {H1 : Heap}, xal z mc ms N ls r X = true → (∀ ad', xe I ad cc' = xe I ad' cc') → va_P I.1 vwCl (xw I ad X ++ [(q, xe I ad cc')]) H1 → va_D A (xw I ad X ++ [(q, xe I ad cc')]) → va_S A s.heap H1 locs → k (z.1 + 1, z.2 + N) pc' ls (.ref X.length :: r) (X ++ [cc']) → W p L.1 e R s m args below meth c H1 locs (z.1 + 1) (z.2 + N) QF (F0 m pc' la (.ref q :: r.map (xv ad))) := by
      intro pc' r N cc' q H1 hal hcc p1 p2 p3 p4
      simp only [xal, Bool.and_eq_true, Nat.blt_eq, Nat.ble_eq] at hal
      obtain ⟨⟨⟨⟨⟨a1, a2⟩, a3⟩, a4⟩, a5⟩, a6⟩ := hal
      obtain ⟨H2, ha2⟩ := HH.push a3 a4 (hcc _) p1 p2 p3
      have w := hk _ _ _ _ _ p4 p e R s m args below meth c I A QF ad0 G (va_up ad X.length q) H1 locs la H2 (xL_ad hl ha2 a5)
      rw [List.map_cons, ← xmap_ad ha2 a6] at w
      have eq1 : xv (va_up ad X.length q) (.ref X.length) = .ref q := by
        show Value.ref (va_up ad X.length q X.length) = _
        unfold va_up
        rw [if_pos rfl]
      rw [eq1] at w
      exact w
  case new n =>
    simp only [Bool.and_eq_true] at hc; obtain ⟨hn, hc⟩ := hc; obtain rfl := xnx hn; rw [Nat.add_sub_cancel_left] at hd
    obtain ⟨h1, h2⟩ := h_b_i h
    have hal := h1
    simp only [xal, Bool.and_eq_true, Nat.blt_eq, Nat.ble_eq] at hal
    cases hrr : vwCl[a]? with
    | none => rw [hrr] at hc; cases hc
    | some rr =>
      rw [hrr] at hc
      simp only [Bool.and_eq_true] at hc
      obtain ⟨⟨⟨⟨c1, c2⟩, c3⟩, c4⟩, c5⟩ := hc
      have c4 := Nat.eq_of_beq_eq_true c4
      have hfs : ∀ j, j < rr.2.2 → defaultValue (xtyF rr j) = vp_V (xdf.getD a []) j := by
        intro j hj
        have q1 := List.all_eq_true.mp c5 j (List.mem_range.mpr hj)
        have q2 := xty_ok rr (List.mem_of_getElem? hrr) j hj
        rw [q2] at q1
        exact of_decide_eq_true q1
      refine va_new hx hb hts (xcls hrr) (xtyF rr) (xty_ok rr (List.mem_of_getElem? hrr)) hown (hts _ (xmt_in c1 rfl)) (hts _ (xmm_in c2 rfl)) (hts _ (xmm_in c3 rfl)) hK hP hD hS hA hrr hfs (by omega) (by omega) hd (fun q H1 q1 q2 q3 => ?_)
      rw [← c4]
      refine goA (cc' := .inr (.inr (a, xdf.getD a []))) h1 (fun ad' => ?_) ?_ ?_ q3 h2
      · show (Sum.inr (a, (xdf.getD a []).map (xv ad)) : va_E) = .inr (a, (xdf.getD a []).map (xv ad'))
        rw [xdf_xv, xdf_xv]
      · show va_P I.1 vwCl (xw I ad X ++ [(q, .inr (a, (xdf.getD a []).map (xv ad)))]) H1
        rw [xdf_xv]; exact q1
      · show va_D A (xw I ad X ++ [(q, .inr (a, (xdf.getD a []).map (xv ad)))])
        rw [xdf_xv]; exact q2
  case newarray ty =>
    simp only [Bool.and_eq_true] at hc
    obtain ⟨⟨⟨hn, hb2⟩, hta⟩, harr⟩ := hc
    obtain rfl := xnx hn; rw [Nat.add_sub_cancel_left] at hd
    obtain ⟨x, r, rfl, h1⟩ := h_i_i h
    obtain ⟨h2, h3⟩ := h_b_i h1
    simp only [Bool.and_eq_true, decide_eq_true_eq] at h2
    obtain ⟨rfl, hal0⟩ := h2
    have hal := hal0
    simp only [xal, Bool.and_eq_true, Nat.blt_eq, Nat.ble_eq] at hal
    have hb3 : b < 65536 := Nat.blt_eq.mp hb2
    have key : ∃ ft : FieldType, newarray.typeOf ty = ft ∧ ((ft = .int ∧ a = 0) ∨ (ft = .boolean ∧ a = 1)) := by
      cases ty <;> first | exact ⟨.int, rfl, Or.inl ⟨rfl, Nat.eq_of_beq_eq_true hta⟩⟩ | exact ⟨.boolean, rfl, Or.inr ⟨rfl, Nat.eq_of_beq_eq_true hta⟩⟩ | cases hta
    obtain ⟨ft, hft, hor⟩ := key
    have hbyt : b * componentBytes ft ≤ 536870912 := by
      rcases hor with ⟨rfl, -⟩ | ⟨rfl, -⟩
      · show b * 4 ≤ _; omega
      · show b * 1 ≤ _; omega
    refine va_newa hx hb (hts _ (xmm_in harr rfl)) hft hK hP hD hS hA (a0 := (b, .inl (fun _ => 0))) (fun cA => by rcases hor with ⟨rfl, -⟩ | ⟨rfl, -⟩ <;> rfl) (nI_pos (by omega)) (nI_clamp (by omega)) hbyt (by omega) (by omega) hd (fun q cA H1 k1 q1 q2 q3 => ?_)
    have hcA : cA = (if a = 0 then I.2.1 else I.2.2.1) := by
      have r1 := (k1.2 3 (cA, ft) rfl).2
      rcases hor with ⟨rfl, rfl⟩ | ⟨rfl, rfl⟩
      · have r2 := (hK.2 0 _ rfl).2
        exact Option.some.inj (r1.symm.trans r2)
      · have r2 := (hK.2 1 _ rfl).2
        exact Option.some.inj (r1.symm.trans r2)
    subst hcA
    exact goA (cc' := .inl (a, b, fun _ => 0)) hal0 (fun _ => rfl) q1 q2 q3 h3
  case anewarray n =>
    simp only [Bool.and_eq_true] at hc
    obtain ⟨⟨hn, hb2⟩, hcl⟩ := hc
    obtain rfl := xnx hn; rw [Nat.add_sub_cancel_left] at hd
    obtain ⟨x, r, rfl, h1⟩ := h_i_i h
    obtain ⟨h2, h3⟩ := h_b_i h1
    simp only [Bool.and_eq_true, decide_eq_true_eq] at h2
    obtain ⟨rfl, hal0⟩ := h2
    have hal := hal0
    simp only [xal, Bool.and_eq_true, Nat.blt_eq, Nat.ble_eq] at hal
    have hb3 : b < 65536 := Nat.blt_eq.mp hb2
    refine va_newq hx hb hown (hts _ (xmt_in hcl rfl)) hF.2.2.2.2.2.2.1 hK hP hD hS hA (nI_pos (by omega)) (nI_clamp (by omega)) (by omega) (by omega) (by omega) hd (fun q cA H1 k1 q1 q2 q3 => ?_)
    have hcA : cA = I.2.2.2 := by
      obtain ⟨_, _, _, _, _, r1⟩ := (k1.2 3 (cA, _) rfl).2
      obtain ⟨_, _, _, _, _, r2⟩ := (hK.2 2 _ rfl).2
      exact Option.some.inj (r1.symm.trans r2)
    subst hcA
    have hnone : ∀ ad' : Nat → Nat, (fun j : Nat => ((List.replicate b (none : Option Nat))[j]?.join).map ad') = fun _ => none := by
      intro ad'
      funext j
      by_cases hj : j < b
      · simp [hj]
      · simp [hj]
    have hxe : ∀ ad' : Nat → Nat, xe I ad' (.inr (.inl (List.replicate b none))) = .inl (I.2.2.2, b, .inr (.inr (.inr (.inr (fun _ => none))))) := by
      intro ad'
      show (Sum.inl (I.2.2.2, (List.replicate b (none : Option Nat)).length, .inr (.inr (.inr (.inr (fun j : Nat => ((List.replicate b (none : Option Nat))[j]?.join).map ad'))))) : va_E) = _
      rw [hnone ad', List.length_replicate]
    refine goA (cc' := .inr (.inl (List.replicate b none))) hal0 (fun ad' => by rw [hxe, hxe]) ?_ ?_ q3 h3
    · rw [hxe]; exact q1
    · rw [hxe]; exact q2
end
section
/-! ===== many rows; calls ===== -/
theorem xlk_mem {pc : Nat} {o : xO} : ∀ {l : List (Nat × xO)}, l.lookup pc = some o → (pc, o) ∈ l
  | [], h => by cases h
  | (a, q) :: r, h => by
    rw [List.lookup_cons] at h
    cases hb : pc == a with
    | false => rw [hb] at h; exact List.mem_cons_of_mem _ (xlk_mem h)
    | true =>
      rw [hb] at h
      have e1 : pc = a := by simpa using hb
      have e2 : q = o := Option.some.inj h
      subst e1; subst e2
      exact List.mem_cons_self
theorem xat_ck {M : xM} (hM : xMk M = true) {pc : Nat} {o : xO} (h : xat M pc = some o) : xck (xown M) (decide (M.1.name = "<init>")) (xcc M) pc o = true := by
  unfold xat at h
  split at h
  · next l hl => exact List.all_eq_true.mp (List.all_eq_true.mp hM l (List.mem_of_getElem? hl)) (pc, o) (xlk_mem h)
  · cases h
/-- n rows on, but no further than a place of 'stops', a call, or the end -/
def xg (L : xLn) (M : xM) (d mc ms : Nat) (Q : Option Value → List xE → Prop) (stops : List Nat) (K : xK) : Nat → xK
  | 0 => K
  | n + 1 => fun z pc ls st X => bif stops.elem pc then K z pc ls st X else match xat M pc with
    | some o => xs1 L M d mc ms Q o z ls st X (xg L M d mc ms Q stops K n) (K z pc ls st X)
    | none => False
theorem xg_sound {L : xLn} {M : xM} {d mc ms : Nat} {Q : Option Value → List xE → Prop} {n0 : Nat} {stops : List Nat} (hM : xMk M = true) : ∀ (n : Nat) (z : Nat × Nat) (pc : Nat) (ls : List (Option Value)) (st : List Value) (X : List xE), xg L M d mc ms Q stops (AJ L M d mc ms Q n0) n z pc ls st X → AJ L M d mc ms Q n0 z pc ls st X
  | 0, _, _, _, _, _, h => h
  | n + 1, z, pc, ls, st, X, h => by
    unfold xg at h
    cases hs : stops.elem pc with
    | true => rw [hs] at h; exact h
    | false =>
      rw [hs] at h
      dsimp only [cond] at h
      split at h
      · next o ho => exact xs_sound (xat_ck hM ho) h (fun z' pc' ls' st' X' h' => xg_sound hM n z' pc' ls' st' X' h') id
      · exact h.elim
/-- from here on n rows: the first is taken also at a place of 'stops' -/
theorem AJ.run {L : xLn} {M : xM} {d mc ms : Nat} {Q : Option Value → List xE → Prop} {n0 : Nat} {z : Nat × Nat} {pc : Nat} {ls : List (Option Value)} {st : List Value} {X : List xE} (hM : xMk M = true) (stops : List Nat) (n : Nat)
    (h : match xat M pc with
      | some o => xs1 L M d mc ms Q o z ls st X (xg L M d mc ms Q stops (AJ L M d mc ms Q n0) n) (AJ L M d mc ms Q n0 z pc ls st X)
      | none => False) : AJ L M d mc ms Q n0 z pc ls st X := by
  split at h
  · next o ho => exact xs_sound (xat_ck hM ho) h (fun z' pc' ls' st' X' h' => xg_sound hM n z' pc' ls' st' X' h') id
  · exact h.elim
/-- cells that agree where they count -/
def xq : xE → xE → Prop
  | .inl (t, n, f), .inl (t', n', f') => t = t' ∧ n = n' ∧ ∀ j, j < n → f j = f' j
  | a, b => a = b
theorem xq_cell {I : xI} {ad : Nat → Nat} {D : va_G} {cl : List vw_C} {a : Nat} {c c' : xE} {H : Heap} (h : xq c c') (hv : va_at D cl (a, xe I ad c) H) : va_at D cl (a, xe I ad c') H := by
  rcases c with ⟨t, n, f⟩ | l | ⟨ci, fs⟩ <;> rcases c' with ⟨t', n', f'⟩ | l' | ⟨ci', fs'⟩ <;> first | (cases h; done) | (cases h; exact hv) | skip
  obtain ⟨rfl, rfl, hf⟩ := h
  have e1 : vp_cell (if t = 0 then I.2.1 else I.2.2.1) (n, .inl f) = vp_cell (if t = 0 then I.2.1 else I.2.2.1) (n, .inl f') := by
    rw [vp_cell_i, vp_cell_i]
    unfold arrV
    congr 1
    apply Array.ext
    · simp
    · intro i h1 h2
      simp only [Array.getElem_ofFn]
      rw [hf i (by simpa using h1)]
  show H[a]? = some (vp_cell (if t = 0 then I.2.1 else I.2.2.1) (n, .inl f'))
  rw [← e1]
  exact hv
def xqs : List xE → List xE → Prop
  | [], [] => True
  | a :: r, b :: r' => xq a b ∧ xqs r r'
  | _, _ => False
theorem xqs_at : ∀ {X Y : List xE}, xqs X Y → X.length = Y.length ∧ ∀ (k : Nat) (c' : xE), Y[k]? = some c' → ∃ c, X[k]? = some c ∧ xq c c'
  | [], [], _ => ⟨rfl, fun k c' h => by simp at h⟩
  | [], _ :: _, h => h.elim
  | _ :: _, [], h => h.elim
  | a :: r, b :: r', h => by
    obtain ⟨h1, h2⟩ := xqs_at h.2
    refine ⟨by simp [h1], fun k c' hk => ?_⟩
    cases k with
    | zero => simp at hk; subst hk; exact ⟨a, rfl, h.1⟩
    | succ k => simpa using h2 k c' (by simpa using hk)
/-- the world may be told otherwise, where it is the same -/
theorem AJ.re {L : xLn} {M : xM} {d mc ms : Nat} {Q : Option Value → List xE → Prop} {n0 : Nat} {z : Nat × Nat} {pc : Nat} {ls : List (Option Value)} {st : List Value} {X Y : List xE} (h : xqs X Y) (k : AJ L M d mc ms Q n0 z pc ls st Y) : AJ L M d mc ms Q n0 z pc ls st X := by
  intro p e R s m args below meth c I A QF ad0 G ad H locs la HH hl
  obtain ⟨h1, h2⟩ := xqs_at h
  refine k p e R s m args below meth c I A QF ad0 G ad H locs la ⟨HH.1, by rw [← h1]; exact HH.2.1, by rw [← h1]; exact HH.2.2.1, ?_, ?_, HH.2.2.2.2.2⟩ hl
  · intro i q hq
    obtain ⟨c', e1, rfl⟩ := xw_inv hq
    obtain ⟨c, e2, e3⟩ := h2 i c' e1
    exact xq_cell e3 (HH.2.2.2.1 i _ (xw_get e2))
  · refine ⟨fun i j x y hi hj hxy => ?_, fun i q hq => ?_⟩
    · obtain ⟨c1, a1, rfl⟩ := xw_inv hi
      obtain ⟨c2, a2, rfl⟩ := xw_inv hj
      obtain ⟨d1, b1, -⟩ := h2 i c1 a1
      obtain ⟨d2, b2, -⟩ := h2 j c2 a2
      exact HH.2.2.2.2.1.1 i j _ _ (xw_get b1) (xw_get b2) hxy
    · obtain ⟨c1, a1, rfl⟩ := xw_inv hq
      obtain ⟨d1, b1, -⟩ := h2 i c1 a1
      exact HH.2.2.2.2.1.2 i (ad i, xe I ad d1) (xw_get b1)
/-- the cells' numbers told anew: the callee's numbers in the caller's words -/
def xsg (σ : List Nat) (N : Nat) (k : Nat) : Nat := if k < σ.length then σ.getD k 0 else if k < xB then N + (k - σ.length) else k
def xrE (f : Nat → Nat) : xE → xE
  | .inl a => .inl a
  | .inr (.inl l) => .inr (.inl (l.map (Option.map f)))
  | .inr (.inr (ci, fs)) => .inr (.inr (ci, fs.map (xv f)))
theorem xv_comp (ad f : Nat → Nat) (v : Value) : xv ad (xv f v) = xv (fun k => ad (f k)) v := by cases v <;> rfl
theorem xe_comp (I : xI) (ad f : Nat → Nat) (c : xE) : xe I ad (xrE f c) = xe I (fun k => ad (f k)) c := by
  rcases c with ⟨t, n, g⟩ | l | ⟨ci, fs⟩
  · rfl
  · show (Sum.inl (I.2.2.2, (l.map (Option.map f)).length, .inr (.inr (.inr (.inr (fun j : Nat => ((l.map (Option.map f))[j]?.join).map ad))))) : va_E) = .inl (I.2.2.2, l.length, .inr (.inr (.inr (.inr (fun j : Nat => (l[j]?.join).map (fun k => ad (f k)))))))
    have e1 : (fun j : Nat => ((l.map (Option.map f))[j]?.join).map ad) = (fun j : Nat => (l[j]?.join).map (fun k => ad (f k))) := by
      funext j
      rw [List.getElem?_map]
      cases l[j]? with
      | none => rfl
      | some o => cases o <;> rfl
    rw [e1, List.length_map]
  · show (Sum.inr (ci, (fs.map (xv f)).map (xv ad)) : va_E) = .inr (ci, fs.map (xv fun k => ad (f k)))
    rw [List.map_map]
    congr 2
    exact List.map_congr_left (fun v _ => xv_comp ad f v)
def xputs (f : Nat → Nat) : List xE → List Nat → List xE → List xE
  | X, i :: σ, c :: Y => xputs f (X.set i (xrE f c)) σ Y
  | X, _, _ => X
/-- the caller's world behind the call -/
def xput (σ : List Nat) (X Y : List xE) : List xE := xputs (xsg σ X.length) X σ Y ++ (Y.drop σ.length).map (xrE (xsg σ X.length))
theorem xputs_len (f : Nat → Nat) : ∀ (σ : List Nat) (X Y : List xE), (xputs f X σ Y).length = X.length
  | [], X, Y => by cases Y <;> rfl
  | i :: σ, X, [] => rfl
  | i :: σ, X, c :: Y => by rw [xputs, xputs_len f σ, List.length_set]
theorem xputs_out (f : Nat → Nat) : ∀ (σ : List Nat) (X Y : List xE) (k : Nat), k ∉ σ → (xputs f X σ Y)[k]? = X[k]?
  | [], X, Y, k, _ => by cases Y <;> rfl
  | i :: σ, X, [], k, _ => rfl
  | i :: σ, X, c :: Y, k, h => by
    rw [xputs, xputs_out f σ _ _ k (fun q => h (List.mem_cons_of_mem _ q)), List.getElem?_set_ne]
    exact fun q => h (by rw [← q]; exact List.mem_cons_self)
theorem xputs_in (f : Nat → Nat) : ∀ (σ : List Nat) (X Y : List xE), va_nd σ = true → (∀ i ∈ σ, i < X.length) → σ.length ≤ Y.length → ∀ (j i : Nat) (c : xE), σ[j]? = some i → Y[j]? = some c → (xputs f X σ Y)[i]? = some (xrE f c)
  | [], X, Y, _, _, _, j, i, c, h, _ => by simp at h
  | a :: σ, X, [], _, _, h, _, _, _, _, _ => by simp at h
  | a :: σ, X, b :: Y, hn, hl, hs, j, i, c, h1, h2 => by
    simp only [va_nd, Bool.and_eq_true, decide_eq_true_eq] at hn
    rw [xputs]
    cases j with
    | zero =>
      simp at h1 h2
      subst h1; subst h2
      rw [xputs_out f σ _ _ a hn.1, List.getElem?_set_self (hl a List.mem_cons_self)]
    | succ j =>
      refine xputs_in f σ (X.set a (xrE f b)) Y hn.2 (fun q hq => by rw [List.length_set]; exact hl q (List.mem_cons_of_mem _ hq)) (by simpa using hs) j i c (by simpa using h1) (by simpa using h2)

set_option maxHeartbeats 1000000 in
/-- BEHIND A CALL: what came back, beside the rest, which is unchanged -/
theorem xjoin {I : xI} {A : Nat → Prop} {s : State} {n0 : Nat} {ad0 ad : Nat → Nat} {X : List xE} {H : Heap} {locs : List Loc} (HH : xH I A s n0 ad0 ad X H locs) (hA : ∀ q, s.heap.size ≤ q → A q) (hwX : X.all (xoke X.length) = true) {σ : List Nat} (hnd : va_nd σ = true) {Xc : List xE}
    (hX : σ.map (fun i => X[i]?) = Xc.map (fun c => some (xrE (xsg σ X.length) c))) {Y : List xE} {ac : Nat → Nat} {H1 : Heap} {locs1 : List Loc} (ha : ∀ i, i < Xc.length ∨ xB ≤ i → ac i = ad (xsg σ X.length i)) (hl1 : Xc.length ≤ Y.length) (hB1 : X.length + Y.length ≤ xB) (hwY : Y.all (xoke Y.length) = true)
    (hP1 : va_P I.1 vwCl (xw I ac Y) H1) (hD1 : va_D (va_A (xw I (fun k => ad (xsg σ X.length k)) Xc) H.size) (xw I ac Y)) (hk1 : ∀ q : Nat, q < H.size → ¬ va_A (xw I (fun k => ad (xsg σ X.length k)) Xc) H.size q → H1[q]? = H[q]?) (hF : ∀ q, va_A (xw I (fun k => ad (xsg σ X.length k)) Xc) H.size q → A q) (hS1 : va_S A s.heap H1 locs1) :
    ∃ ad', xH I A s n0 ad0 ad' (xput σ X Y) H1 locs1 ∧ ∀ k, k < X.length ∨ xB ≤ k → ad k = ad' k := by
  obtain ⟨hag, hn0, hB, hP, hD, hS⟩ := HH
  have hsl : σ.length = Xc.length := by
    have := congrArg List.length hX
    simpa using this
  have hat : ∀ (j i : Nat), σ[j]? = some i → ∃ c, Xc[j]? = some c ∧ X[i]? = some (xrE (xsg σ X.length) c) := by
    intro j i hj
    have e1 := congrArg (fun l => l[j]?) hX
    simp only [List.getElem?_map, hj, Option.map_some] at e1
    cases hc : Xc[j]? with
    | none => rw [hc] at e1; cases e1
    | some c => rw [hc] at e1; exact ⟨c, rfl, Option.some.inj e1⟩
  have hlt : ∀ i ∈ σ, i < X.length := by
    intro i hi
    obtain ⟨j, hj⟩ := List.getElem?_of_mem hi
    obtain ⟨c, -, h2⟩ := hat j i hj
    exact (List.getElem?_eq_some_iff.mp h2).1
  have hsg1 : ∀ (j i : Nat), σ[j]? = some i → xsg σ X.length j = i := by
    intro j i hj
    have hjl := (List.getElem?_eq_some_iff.mp hj).1
    unfold xsg
    rw [if_pos hjl, List.getD_eq_getElem?_getD, hj]; rfl
  -- the new address map
  obtain ⟨ad', had'⟩ : ∃ ad' : Nat → Nat, ad' = fun k => if X.length ≤ k ∧ k < X.length + (Y.length - σ.length) then ac (σ.length + (k - X.length)) else ad k := ⟨_, rfl⟩
  have hold : ∀ k, k < X.length ∨ xB ≤ k → ad k = ad' k := by
    intro k hk
    rw [had']
    show ad k = if _ then _ else ad k
    rw [if_neg (by omega)]
  have hcomp : ∀ k, k < Y.length ∨ xB ≤ k → ad' (xsg σ X.length k) = ac k := by
    intro k hk
    by_cases h1 : k < σ.length
    · have hj : σ[k]? = some σ[k] := List.getElem?_eq_getElem h1
      rw [ha k (Or.inl (by omega)), hsg1 k _ hj, ← hold _ (Or.inl (hlt _ (List.mem_of_getElem? hj)))]
    · by_cases h2 : k < xB
      · have h3 : xsg σ X.length k = X.length + (k - σ.length) := by
          unfold xsg
          rw [if_neg h1, if_pos h2]
        rw [h3, had']
        show (if _ then _ else _) = ac k
        rw [if_pos (by omega)]
        congr 1
        omega
      · have h3 : xsg σ X.length k = k := by
          unfold xsg
          rw [if_neg h1, if_neg h2]
        rw [ha k (Or.inr (by omega)), h3, ← hold k (Or.inr (by omega))]
  have hcell : ∀ c ∈ Y, xe I ad' (xrE (xsg σ X.length) c) = xe I ac c := by
    intro c hc
    rw [xe_comp]
    exact xe_congr hcomp (xoke_sp (List.all_eq_true.mp hwY c hc))
  -- what stands where
  have hput : ∀ (k : Nat) (c : xE), (xput σ X Y)[k]? = some c → (k < X.length ∧ k ∉ σ ∧ X[k]? = some c) ∨ (∃ (j : Nat) (c0 : xE), Y[j]? = some c0 ∧ c = xrE (xsg σ X.length) c0 ∧ ad' k = ac j ∧ ((j < σ.length ∧ σ[j]? = some k) ∨ (σ.length ≤ j ∧ k = X.length + (j - σ.length)))) := by
    intro k c hk
    unfold xput at hk
    by_cases hkl : k < X.length
    · rw [List.getElem?_append_left (by rw [xputs_len]; exact hkl)] at hk
      by_cases hm : k ∈ σ
      · right
        obtain ⟨j, hj⟩ := List.getElem?_of_mem hm
        have hjl := (List.getElem?_eq_some_iff.mp hj).1
        have hjY : j < Y.length := by omega
        have h0 := xputs_in (xsg σ X.length) σ X Y hnd hlt (by omega) j k Y[j] hj (List.getElem?_eq_getElem hjY)
        rw [h0] at hk
        refine ⟨j, Y[j], List.getElem?_eq_getElem hjY, (Option.some.inj hk).symm, ?_, Or.inl ⟨hjl, hj⟩⟩
        rw [← hcomp j (Or.inl hjY), hsg1 j k hj]
      · left
        rw [xputs_out _ _ _ _ _ hm] at hk
        exact ⟨hkl, hm, hk⟩
    · right
      rw [List.getElem?_append_right (by rw [xputs_len]; omega), xputs_len, List.getElem?_map, List.getElem?_drop] at hk
      cases hy : Y[σ.length + (k - X.length)]? with
      | none => rw [hy] at hk; cases hk
      | some c0 =>
        rw [hy] at hk
        have hyl := (List.getElem?_eq_some_iff.mp hy).1
        refine ⟨σ.length + (k - X.length), c0, hy, (Option.some.inj hk).symm, ?_, Or.inr ⟨by omega, by omega⟩⟩
        rw [had']
        show (if _ then _ else _) = _
        rw [if_pos (by omega)]
  have hwc : ∀ (q : Nat), va_A (xw I (fun k => ad (xsg σ X.length k)) Xc) H.size q → (∃ (j i : Nat), σ[j]? = some i ∧ q = ad i) ∨ H.size ≤ q := by
    intro q hq
    rcases hq with ⟨j, e0, hj⟩ | hq
    · left
      obtain ⟨c0, h1, h2⟩ := xw_inv hj
      have hjl : j < σ.length := by rw [hsl]; exact (List.getElem?_eq_some_iff.mp h1).1
      refine ⟨j, σ[j], List.getElem?_eq_getElem hjl, ?_⟩
      have := congrArg Prod.fst h2
      dsimp only at this
      rw [this, hsg1 j _ (List.getElem?_eq_getElem hjl)]
    · exact Or.inr hq
  have hout : ∀ k c, k < X.length → k ∉ σ → X[k]? = some c → ad k < H.size ∧ ¬ va_A (xw I (fun k => ad (xsg σ X.length k)) Xc) H.size (ad k) := by
    intro k c hkl hm hk
    have hlt2 : ad k < H.size := (hP k _ (xw_get hk)).lt
    refine ⟨hlt2, fun hq => ?_⟩
    rcases hwc _ hq with ⟨j, i, hj, hi⟩ | hq
    · have him := List.mem_of_getElem? hj
      have hki := hD.1 k i _ _ (xw_get hk) (xw_get (List.getElem?_eq_getElem (hlt i him))) hi
      exact hm (hki ▸ him)
    · omega
  -- addresses of callee's cells
  have hcad : ∀ j i, σ[j]? = some i → ac j = ad i := by
    intro j i hj
    have hjl := (List.getElem?_eq_some_iff.mp hj).1
    rw [ha j (Or.inl (by omega)), hsg1 j i hj]
  have hD1' := hD1.2
  have hnew : ∀ (j : Nat) (c : xE), Y[j]? = some c → σ.length ≤ j → H.size ≤ ac j := by
    intro j c hj hjl
    rcases hwc _ (hD1' j _ (xw_get hj)) with ⟨j2, i2, h1, h2⟩ | h
    · exfalso
      have hj2 := (List.getElem?_eq_some_iff.mp h1).1
      have h3 := hD1.1 j j2 _ _ (xw_get hj) (xw_get (List.getElem?_eq_getElem (show j2 < Y.length by omega))) (show ac j = ac j2 by rw [hcad j2 i2 h1]; exact h2)
      omega
    · exact h
  refine ⟨ad', ⟨fun i hi => ?_, ?_, ?_, ?_, ?_, hS1⟩, hold⟩
  · rw [← hold i (by omega)]; exact hag i hi
  · unfold xput
    rw [List.length_append, xputs_len]; omega
  · unfold xput
    rw [List.length_append, xputs_len, List.length_map, List.length_drop]; omega
  · intro k q hq
    obtain ⟨c, hc, rfl⟩ := xw_inv hq
    rcases hput k c hc with ⟨h1, h2, h3⟩ | ⟨j, c0, h1, rfl, h3, -⟩
    · obtain ⟨h4, h5⟩ := hout k c h1 h2 h3
      have hv := (hP k _ (xw_get h3)).kept (H1 := H1) (hk1 _ h4 h5)
      rw [← hold k (Or.inl h1), ← xe_congr hold (xoke_sp (List.all_eq_true.mp hwX c (List.mem_of_getElem? h3)))]
      exact hv
    · have hv := hP1 j _ (xw_get h1)
      rw [h3, hcell c0 (List.mem_of_getElem? h1)]
      exact hv
  · refine ⟨fun i j x y hi hj hxy => ?_, fun k q hq => ?_⟩
    · obtain ⟨c1, a1, rfl⟩ := xw_inv hi
      obtain ⟨c2, a2, rfl⟩ := xw_inv hj
      dsimp only at hxy
      have low : ∀ (k : Nat) (c : xE), k < X.length → X[k]? = some c → ad k < H.size := fun k c _ h => (hP k _ (xw_get h)).lt
      have lowσ : ∀ (jj k : Nat), σ[jj]? = some k → ad k < H.size := by
        intro jj k h
        obtain ⟨c, -, h2⟩ := hat jj k h
        exact (hP k _ (xw_get h2)).lt
      have inj : ∀ (k1 k2 : Nat), k1 < X.length → k2 < X.length → ad k1 = ad k2 → k1 = k2 := fun k1 k2 h1 h2 h => hD.1 k1 k2 _ _ (xw_get (List.getElem?_eq_getElem h1)) (xw_get (List.getElem?_eq_getElem h2)) h
      rcases hput i c1 a1 with ⟨p1, p2, p3⟩ | ⟨j1, b1, p1, -, p3, p4⟩ <;> rcases hput j c2 a2 with ⟨r1, r2, r3⟩ | ⟨j2, b2, r1, -, r3, r4⟩
      · rw [← hold i (Or.inl p1), ← hold j (Or.inl r1)] at hxy
        exact inj i j p1 r1 hxy
      · rw [← hold i (Or.inl p1), r3] at hxy
        rcases r4 with ⟨r4, r5⟩ | ⟨r4, r5⟩
        · rw [hcad j2 j r5] at hxy
          exact inj i j p1 (hlt j (List.mem_of_getElem? r5)) hxy
        · have := hnew j2 b2 r1 r4
          have := low i c1 p1 p3
          omega
      · rw [p3, ← hold j (Or.inl r1)] at hxy
        rcases p4 with ⟨p4, p5⟩ | ⟨p4, p5⟩
        · rw [hcad j1 i p5] at hxy
          exact inj i j (hlt i (List.mem_of_getElem? p5)) r1 hxy
        · have := hnew j1 b1 p1 p4
          have := low j c2 r1 r3
          omega
      · rw [p3, r3] at hxy
        have hj12 := hD1.1 j1 j2 _ _ (xw_get p1) (xw_get r1) hxy
        subst hj12
        rcases p4 with ⟨p4, p5⟩ | ⟨p4, p5⟩ <;> rcases r4 with ⟨r4, r5⟩ | ⟨r4, r5⟩
        · exact Option.some.inj (p5.symm.trans r5)
        · omega
        · omega
        · omega
    · obtain ⟨c1, a1, rfl⟩ := xw_inv hq
      rcases hput k c1 a1 with ⟨p1, p2, p3⟩ | ⟨j1, b1, p1, -, p3, -⟩
      · rw [← hold k (Or.inl p1)]
        exact hD.2 k (ad k, xe I ad c1) (xw_get p3)
      · rw [p3]
        exact hF _ (hD1.2 j1 (ac j1, xe I ac b1) (xw_get p1))
end
section
/-! ===== calls ===== -/
def xwf (X : List xE) (ls : List (Option Value)) (rest : List Value) : Bool := X.all (xoke X.length) && ls.all (fun o => match o with | none => true | some v => xokv X.length v) && rest.all (xokv X.length) && Nat.ble (rest.map fun v => v.category).sum 8
set_option maxHeartbeats 1000000 in
theorem x_after {L : xLn} {M : xM} {d mc ms : Nat} {Q : Option Value → List xE → Prop} {n0 : Nat} {z : Nat × Nat} {pc : Nat} {ls : List (Option Value)} {X : List xE} {p : Program} {e : Env} {R : Room} {s : State} {m : MethodId} {args : Array Value} {below : List Frame} {meth : Method} {c : Code} {I : xI} {A : Nat → Prop} {QF : State → Prop} {ad0 ad : Nat → Nat} {H : Heap} {locs : List Loc} {la : Array Slot} {mc' ms' : Nat} {rest st0 : List Value} {σ : List Nat} {Xc : List xE} {Qc : Option Value → List xE → Prop} {a : Array Value}
    (G : xG L M d mc ms Q n0 p e R s m args below meth c I A QF ad0) (HH : xH I A s n0 ad0 ad X H locs) (hl : xL la (xml M) ad ls) (hwf : xwf X ls rest = true) (hnd : va_nd σ = true) (hX : σ.map (fun i => X[i]?) = Xc.map (fun c => some (xrE (xsg σ X.length) c)))
    (hF : ∀ q, va_A (xw I (fun k => ad (xsg σ X.length k)) Xc) H.size q → A q)
    (hr : va_Run p L.1 e R s m args below meth c H locs z.1 z.2 mc' ms' (F0 m pc la st0) (rest.map (xv ad)) (xQc I (fun k => ad (xsg σ X.length k)) Xc.length (va_A (xw I (fun k => ad (xsg σ X.length k)) Xc) H.size) Qc a) (va_A (xw I (fun k => ad (xsg σ X.length k)) Xc) H.size))
    (kk : ∀ (r : Option Value) (Y : List xE), Qc r Y → Nat.ble (X.length + Y.length) xB = true ∧ AJ L M d mc ms Q n0 (z.1 + mc', z.2 + ms') (pc + 3) ls (r.toList ++ rest) (xput σ X Y)) : W p L.1 e R s m args below meth c H locs z.1 z.2 QF (F0 m pc la st0) := by
  intro T hT XX
  obtain ⟨v, st₀, t, T', L', h0, X', hL, e1, e2, hq, st⟩ := hr T hT XX
  obtain ⟨⟨r, Y, ac, hv, ha, hn, hB, hw, hrr, hQ, hP1, hK1, hD1⟩, hz, hk⟩ := hq
  have hv : v = r.map (xv ac) := Outcome.returned.inj hv
  subst hv
  rw [h0] at hz hk
  simp only [xwf, Bool.and_eq_true, Nat.ble_eq] at hwf
  obtain ⟨⟨⟨w1, w2⟩, w3⟩, w4⟩ := hwf
  obtain ⟨k1, k2⟩ := kk r Y hQ
  have hS := HH.2.2.2.2.2
  have hA := G.1.2.2.2.2.2.2.2.2.2.1
  have hS' : va_S A s.heap T'.heap (locs ++ L') := ⟨Nat.le_trans hS.1 (by rw [e1]; exact hz), fun q h1 h2 => by rw [e1, hk q (Nat.lt_of_lt_of_le h1 hS.1) (fun z => h2 (hF q z))]; exact hS.2.1 q h1 h2, fun q hq => by
      rcases List.mem_append.mp hq with h | h
      · exact hS.2.2 q h
      · exact hF _ (hL q h)⟩
  obtain ⟨ad', H2, hold⟩ := xjoin HH hA w1 hnd hX (fun i hi => ha i hi) hn (Nat.ble_eq.mp k1) hw (by rw [e1]; exact hP1) hD1 (fun q h1 h2 => by rw [e1]; exact hk q h1 h2) hF hS'
  have hW := k2 p e R s m args below meth c I A QF ad0 G ad' T'.heap (locs ++ L') la H2 (xL_ad hl hold w2)
  have es : ((r.toList ++ rest).map (xv ad')) = (r.map (xv ac)).toList ++ rest.map (xv ad) := by
    rw [List.map_append, xmap_ad hold w3]
    congr 1
    cases r with
    | none => rfl
    | some u =>
      have hu := hrr u rfl
      have : xv ad' u = xv ac u := by
        refine (xv_congr (P := fun k => k < 0 ∨ xB ≤ k) (fun k hk => ?_) (xokv_sp hu)).symm
        have hk2 : xB ≤ k := by omega
        rw [ha k (Or.inr hk2), ← hold k (Or.inr hk2)]
        show ad (xsg σ X.length k) = ad k
        unfold xsg
        have hsl : σ.length ≤ xB := by
          have := congrArg List.length hX
          simp at this
          omega
        rw [if_neg (by omega), if_neg (by omega)]
      show [xv ad' u] = [xv ac u]
      rw [this]
  rw [es] at hW
  obtain ⟨t2, a1, b1⟩ := hW T' rfl X'
  exact ⟨t2, st t2 a1, b1⟩
/-- what the callee's start asks, in the caller's world -/
theorem x_before {L : xLn} {n0 : Nat} {X : List xE} {s : State} {I : xI} {A : Nat → Prop} {ad0 ad : Nat → Nat} {H : Heap} {locs : List Loc} {σ : List Nat} {Xc : List xE} {av : List Value} (hK : va_K I.1 vwCl (xT I) s) (hFF : xFF L ad0 A s s.heap) (hA : ∀ q, s.heap.size ≤ q → A q) (HH : xH I A s n0 ad0 ad X H locs) (hXB : Xc.length ≤ xB) (hnd : va_nd σ = true) (hX : σ.map (fun i => X[i]?) = Xc.map (fun c => some (xrE (xsg σ X.length) c))) :
    (va_P I.1 vwCl (xw I (fun k => ad (xsg σ X.length k)) Xc) H ∧ (∀ q, va_A (xw I (fun k => ad (xsg σ X.length k)) Xc) H.size q → A q)) ∧ ∀ U : State, U.heap = H → s.WarmedH U.vm → xPc L I (fun k => ad (xsg σ X.length k)) Xc H.size av (av.map (xv fun k => ad (xsg σ X.length k))).toArray U := by
  obtain ⟨hag, hn0, hB, hP, hD, hS⟩ := HH
  have hsl : σ.length = Xc.length := by
    have := congrArg List.length hX
    simpa using this
  have hC : σ.map (fun i => (xw I ad X)[i]?) = (xw I (fun k => ad (xsg σ X.length k)) Xc).map some := by
    apply List.ext_getElem?
    intro j
    rw [List.getElem?_map, List.getElem?_map, xw_at]
    cases hj : σ[j]? with
    | none =>
      have : Xc[j]? = none := by
        rw [List.getElem?_eq_none_iff] at hj ⊢
        omega
      rw [this]; rfl
    | some i =>
      have e1 := congrArg (fun l => l[j]?) hX
      simp only [List.getElem?_map, hj, Option.map_some] at e1
      cases hc : Xc[j]? with
      | none => rw [hc] at e1; cases e1
      | some c =>
        rw [hc] at e1
        have e2 : X[i]? = some (xrE (xsg σ X.length) c) := Option.some.inj e1
        have e3 : xsg σ X.length j = i := by
          unfold xsg
          rw [if_pos (List.getElem?_eq_some_iff.mp hj).1, List.getD_eq_getElem?_getD, hj]; rfl
        simp only [Option.map_some]
        rw [xw_get e2, xe_comp, e3]
  have hPc : va_P I.1 vwCl (xw I (fun k => ad (xsg σ X.length k)) Xc) H := by
    refine hP.sub σ ?_
    have : ∀ (σ : List Nat) (w1 w2 : va_W), σ.map (fun i => w1[i]?) = w2.map some → σ.filterMap (fun i => w1[i]?) = w2 := by
      intro σ w1
      induction σ with
      | nil => intro w2 h; cases w2 with
        | nil => rfl
        | cons a b => cases h
      | cons i r ih =>
        intro w2 h
        cases w2 with
        | nil => cases h
        | cons a b =>
          simp only [List.map_cons, List.cons.injEq] at h
          rw [List.filterMap_cons, h.1]
          simp only
          rw [ih b h.2]
    exact this _ _ _ hC
  have hDc : va_D A (xw I (fun k => ad (xsg σ X.length k)) Xc) := hD.sub σ hnd hC
  have hFr := va_free hD hS hA σ hC
  refine ⟨⟨hPc, hFr⟩, fun U hU hW => ⟨rfl, by rw [hU], by rw [hU]; exact hPc, va_K.moved hW.alike hK, hDc.weaken (fun _ _ _ _ => trivial), ?_⟩⟩
  have f1 : xFF L ad0 (va_A (xw I (fun k => ad (xsg σ X.length k)) Xc) H.size) s H := (hFF.kept (H1 := H) (fun q h1 h2 => hS.2.1 q h1 h2)).narrow hFr
  rw [hU]
  refine (f1.warm hW).ad (fun i hi => ?_)
  show ad (xsg σ X.length i) = ad0 i
  unfold xsg
  rw [if_neg (by omega), if_neg (by omega)]
  exact hag i (Or.inr hi)

theorem xwd_in {w : Cond} (h : xwd w = true) : w ∈ xtb := by
  simp only [xwd, Bool.and_eq_true, decide_eq_true_eq] at h
  exact List.mem_filter.mpr h
theorem xgoodW {M : xM} (h : xwd (.code M.1 (xcc M) (xml M) (xret M)) = true) : GoodIn xtb (xW M) := fun w hw => by
  rcases List.mem_cons.mp hw with rfl | hw
  · exact ⟨xwd_in h, good_of_word (List.mem_filter.mp (xwd_in h)).2⟩
  · exact ⟨hw, good_of_word (List.mem_filter.mp hw).2⟩
theorem xgoodL {ws : List Cond} {M : xM} (h : xwd (.code M.1 (xcc M) (xml M) (xret M)) = true) (hw : ∀ w ∈ ws, w ∈ xtb) : GoodIn xtb (ws ++ xW M) := fun w h2 => by
  rcases List.mem_append.mp h2 with h2 | h2
  · exact ⟨hw w h2, good_of_word (List.mem_filter.mp (hw w h2)).2⟩
  · exact xgoodW h w h2
set_option maxHeartbeats 1000000 in
/-- a call of an instance's method -/
theorem AJ.callV {L : xLn} {M : xM} {d mc ms : Nat} {Q : Option Value → List xE → Prop} {n0 : Nat} {z : Nat × Nat} {pc : Nat} {ls : List (Option Value)} {st : List Value} {X : List xE} (hM : xMk M = true) {M' : xM} {d' mc' ms' q0 n : Nat} {as : List Value} {Xc : List xE} {Qc : Option Value → List xE → Prop}
    (hC : CT L M' d' mc' ms' (.ref q0 :: as) Xc Qc) (hcv : xcB M' 0 n = true) {idx nx tg : Nat} {v : Int32} {w : Int64} {a b t : Nat} {sw : List (Int32 × Nat)} (ho : xat M pc = some (.invokevirtual idx, nx, tg, v, w, a, b, t, sw)) (hlk : xmt t (.methodLink (xown M) idx M'.1) = true)
    (σ : List Nat) (rest : List Value) (hst : st = (as.map (xv (xsg σ X.length))).reverse ++ .ref (xsg σ X.length q0) :: rest) (hn : as.length = n) (hX : σ.map (fun i => X[i]?) = Xc.map (fun c => some (xrE (xsg σ X.length) c))) {ci : Nat} {fs : List Value} (hq : Xc[q0]? = some (.inr (.inr (ci, fs)))) {r : vw_C} (hci : vwCl[ci]? = some r) (hr1 : r.1 = M'.1.cls)
    (hnd : va_nd σ = true) (hwf : xwf X ls rest = true) (hd : Nat.blt d' d = true) (hmm : (Nat.ble (z.1 + mc') mc && Nat.ble (z.2 + ms') ms) = true)
    (kk : ∀ (r : Option Value) (Y : List xE), Qc r Y → Nat.ble (X.length + Y.length) xB = true ∧ AJ L M d mc ms Q n0 (z.1 + mc', z.2 + ms') nx ls (r.toList ++ rest) (xput σ X Y)) : AJ L M d mc ms Q n0 z pc ls st X := by
  subst hst
  intro p e R s m args below meth c I A QF ad0 G ad H locs la HH hl
  obtain ⟨⟨hx, hb, hr, hml, hown, hts, hK, hlk2, hini, hA, hfr, hlo⟩, hmc, hms, hF, hret⟩ := id G
  have hck := xat_ck hM ho
  simp only [xck, Bool.and_eq_true] at hck
  obtain ⟨hdg, hnx⟩ := hck
  obtain rfl := xnx hnx
  have hdg := of_decide_eq_true hdg
  rw [Nat.add_sub_cancel_left] at hdg
  simp only [xcB, Bool.and_eq_true, Nat.ble_eq] at hcv
  obtain ⟨⟨⟨⟨⟨c1, c2⟩, c3⟩, c4⟩, c5⟩, c6, c7⟩ := hcv
  simp only [Bool.and_eq_true, Nat.ble_eq] at hmm
  have hd : d' < d := Nat.blt_eq.mp hd
  obtain ⟨⟨hPc, hFr⟩, hpre⟩ := x_before (av := .ref q0 :: as) hK hF hA HH hC.1 hnd hX
  have hwf2 := hwf
  simp only [xwf, Bool.and_eq_true, Nat.ble_eq] at hwf2
  have hG : GoodIn xtb (wsV M.1.cls idx M'.1.cls M'.1 (xW M')) := xgoodL (ws := [.methodLink M.1.cls idx M'.1, .instanceMethod M'.1, .selects M'.1.cls M'.1 M'.1, .initialized M'.1.cls]) c2 (by
    intro w hw
    simp only [List.mem_cons, List.not_mem_nil, or_false] at hw
    rcases hw with rfl | rfl | rfl | rfl
    · exact xmt_in hlk rfl
    · exact xwd_in c6
    · exact xwd_in c7
    · exact xwd_in c1)
  have hmap : ∀ u : Value, xv ad (xv (xsg σ X.length) u) = xv (fun k => ad (xsg σ X.length k)) u := fun u => xv_comp ad (xsg σ X.length) u
  refine x_after (a := (Value.ref (ad (xsg σ X.length q0)) :: as.map (xv fun k => ad (xsg σ X.length k))).toArray) G HH hl hwf hnd hX hFr ?_ kk
  refine va_runV (C := M'.1.cls) (b := ad (xsg σ X.length q0)) (As := as.map (xv fun k => ad (xsg σ X.length k))) ⟨hx, hb, hml, hown, hts⟩ (hC.2 I (fun k => ad (xsg σ X.length k)) H.size) (cwV n hts hG rfl rfl rfl ⟨rfl, (of_decide_eq_true c3).1, (of_decide_eq_true c3).2, of_decide_eq_true c4⟩ ⟨?_, ?_⟩) ⟨xPc_blind _ _ _ _ _ _, ?_, hpre⟩ rfl (by rw [List.length_map]; exact hn) hl.1.1 ?_ (lv_room ?_) hdg ⟨by omega, by omega⟩
  · show d' + 1 ≤ R.frames; omega
  · show 8 + (xml M' + 11) + 50 * d' ≤ R.locals; omega
  · obtain ⟨cell, q1, q2, q3⟩ := va_recv hK hPc hci (xw_get hq)
    exact ⟨cell, q1, q2, by rw [← hr1]; exact q3⟩
  · show ((as.map (xv (xsg σ X.length))).reverse ++ .ref (xsg σ X.length q0) :: rest).map (xv ad) = _
    rw [List.map_append, List.map_reverse, List.map_map, List.map_cons]
    have em : as.map (xv ad ∘ xv (xsg σ X.length)) = as.map (xv fun k => ad (xsg σ X.length k)) := List.map_congr_left (fun u _ => hmap u)
    rw [em]
    try rfl
  · rw [List.map_map]
    have : (rest.map ((fun v => v.category) ∘ xv ad)) = rest.map (fun v => v.category) := List.map_congr_left (fun u _ => xv_cat ad u)
    rw [this]; exact hwf2.2
set_option maxHeartbeats 1000000 in
/-- a call of a static method -/
theorem AJ.callS {L : xLn} {M : xM} {d mc ms : Nat} {Q : Option Value → List xE → Prop} {n0 : Nat} {z : Nat × Nat} {pc : Nat} {ls : List (Option Value)} {st : List Value} {X : List xE} (hM : xMk M = true) {M' : xM} {d' mc' ms' n : Nat} {as : List Value} {Xc : List xE} {Qc : Option Value → List xE → Prop}
    (hC : CT L M' d' mc' ms' as Xc Qc) (hcv : xcB M' 1 n = true) {idx nx tg : Nat} {v : Int32} {w : Int64} {a b t : Nat} {sw : List (Int32 × Nat)} (ho : xat M pc = some (.invokestatic idx, nx, tg, v, w, a, b, t, sw)) (hlk : xmt t (.methodLink (xown M) idx M'.1) = true)
    (σ : List Nat) (rest : List Value) (hst : st = (as.map (xv (xsg σ X.length))).reverse ++ rest) (hn : as.length = n) (hX : σ.map (fun i => X[i]?) = Xc.map (fun c => some (xrE (xsg σ X.length) c)))
    (hnd : va_nd σ = true) (hwf : xwf X ls rest = true) (hd : Nat.blt d' d = true) (hmm : (Nat.ble (z.1 + mc') mc && Nat.ble (z.2 + ms') ms) = true)
    (kk : ∀ (r : Option Value) (Y : List xE), Qc r Y → Nat.ble (X.length + Y.length) xB = true ∧ AJ L M d mc ms Q n0 (z.1 + mc', z.2 + ms') nx ls (r.toList ++ rest) (xput σ X Y)) : AJ L M d mc ms Q n0 z pc ls st X := by
  subst hst
  intro p e R s m args below meth c I A QF ad0 G ad H locs la HH hl
  obtain ⟨⟨hx, hb, hr, hml, hown, hts, hK, hlk2, hini, hA, hfr, hlo⟩, hmc, hms, hF, hret⟩ := id G
  have hck := xat_ck hM ho
  simp only [xck, Bool.and_eq_true] at hck
  obtain ⟨hdg, hnx, -⟩ := hck
  obtain rfl := xnx hnx
  have hdg := of_decide_eq_true hdg
  rw [Nat.add_sub_cancel_left] at hdg
  simp only [xcB, Bool.and_eq_true, Nat.ble_eq] at hcv
  obtain ⟨⟨⟨⟨⟨c1, c2⟩, c3⟩, c4⟩, c5⟩, c6⟩ := hcv
  simp only [Bool.and_eq_true, Nat.ble_eq] at hmm
  have hd : d' < d := Nat.blt_eq.mp hd
  obtain ⟨⟨hPc, hFr⟩, hpre⟩ := x_before (av := as) hK hF hA HH hC.1 hnd hX
  have hwf2 := hwf
  simp only [xwf, Bool.and_eq_true, Nat.ble_eq] at hwf2
  have hG : GoodIn xtb (va_wsS M.1.cls idx M'.1 (xW M')) := xgoodL (ws := [.methodLink M.1.cls idx M'.1, .static M'.1, .initialized M'.1.cls]) c2 (by
    intro w hw
    simp only [List.mem_cons, List.not_mem_nil, or_false] at hw
    rcases hw with rfl | rfl | rfl
    · exact xmt_in hlk rfl
    · exact xwd_in c6
    · exact xwd_in c1)
  have hmap : ∀ u : Value, xv ad (xv (xsg σ X.length) u) = xv (fun k => ad (xsg σ X.length k)) u := fun u => xv_comp ad (xsg σ X.length) u
  refine x_after (a := (as.map (xv fun k => ad (xsg σ X.length k))).toArray) G HH hl hwf hnd hX hFr ?_ kk
  refine va_runS (As := as.map (xv fun k => ad (xsg σ X.length k))) ⟨hx, hb, hml, hown, hts⟩ (hC.2 I (fun k => ad (xsg σ X.length k)) H.size) (va_cwS n hts hG rfl rfl rfl ⟨(of_decide_eq_true c3).1, (of_decide_eq_true c3).2, of_decide_eq_true c4⟩ ⟨?_, ?_⟩) ⟨xPc_blind _ _ _ _ _ _, hpre⟩ rfl (by rw [List.length_map]; exact hn) hl.1.1 ?_ (lv_room ?_) hdg ⟨by omega, by omega⟩
  · show d' + 1 ≤ R.frames; omega
  · show 8 + (xml M' + 11) + 50 * d' ≤ R.locals; omega
  · show ((as.map (xv (xsg σ X.length))).reverse ++ rest).map (xv ad) = _
    rw [List.map_append, List.map_reverse, List.map_map]
    have em : as.map (xv ad ∘ xv (xsg σ X.length)) = as.map (xv fun k => ad (xsg σ X.length k)) := List.map_congr_left (fun u _ => hmap u)
    rw [em]
    try rfl
  · rw [List.map_map]
    have : (rest.map ((fun v => v.category) ∘ xv ad)) = rest.map (fun v => v.category) := List.map_congr_left (fun u _ => xv_cat ad u)
    rw [this]; exact hwf2.2
set_option maxHeartbeats 1000000 in
/-- a call of a constructor -/
theorem AJ.callI {L : xLn} {M : xM} {d mc ms : Nat} {Q : Option Value → List xE → Prop} {n0 : Nat} {z : Nat × Nat} {pc : Nat} {ls : List (Option Value)} {st : List Value} {X : List xE} (hM : xMk M = true) {M' : xM} {d' mc' ms' q0 n : Nat} {as : List Value} {Xc : List xE} {Qc : Option Value → List xE → Prop}
    (hC : CT L M' d' mc' ms' (.ref q0 :: as) Xc Qc) (hcv : xcB M' 2 n = true) {idx nx tg : Nat} {v : Int32} {w : Int64} {a b t : Nat} {sw : List (Int32 × Nat)} (ho : xat M pc = some (.invokespecial idx, nx, tg, v, w, a, b, t, sw)) (hlk : xmt t (.methodLink (xown M) idx M'.1) = true)
    (σ : List Nat) (rest : List Value) (hst : st = (as.map (xv (xsg σ X.length))).reverse ++ .ref (xsg σ X.length q0) :: rest) (hn : as.length = n) (hX : σ.map (fun i => X[i]?) = Xc.map (fun c => some (xrE (xsg σ X.length) c)))
    (hnd : va_nd σ = true) (hwf : xwf X ls rest = true) (hd : Nat.blt d' d = true) (hmm : (Nat.ble (z.1 + mc') mc && Nat.ble (z.2 + ms') ms) = true)
    (kk : ∀ (r : Option Value) (Y : List xE), Qc r Y → Nat.ble (X.length + Y.length) xB = true ∧ AJ L M d mc ms Q n0 (z.1 + mc', z.2 + ms') nx ls (r.toList ++ rest) (xput σ X Y)) : AJ L M d mc ms Q n0 z pc ls st X := by
  subst hst
  intro p e R s m args below meth c I A QF ad0 G ad H locs la HH hl
  obtain ⟨⟨hx, hb, hr, hml, hown, hts, hK, hlk2, hini, hA, hfr, hlo⟩, hmc, hms, hF, hret⟩ := id G
  have hck := xat_ck hM ho
  simp only [xck, Bool.and_eq_true] at hck
  obtain ⟨hdg, hnx, -⟩ := hck
  obtain rfl := xnx hnx
  have hdg := of_decide_eq_true hdg
  rw [Nat.add_sub_cancel_left] at hdg
  simp only [xcB, Bool.and_eq_true, Nat.ble_eq] at hcv
  obtain ⟨⟨⟨⟨⟨c1, c2⟩, c3⟩, c4⟩, c5⟩, ⟨c6, c7⟩, c8⟩ := hcv
  have c8 := of_decide_eq_true c8
  simp only [Bool.and_eq_true, Nat.ble_eq] at hmm
  have hd : d' < d := Nat.blt_eq.mp hd
  obtain ⟨⟨hPc, hFr⟩, hpre⟩ := x_before (av := .ref q0 :: as) hK hF hA HH hC.1 hnd hX
  have hwf2 := hwf
  simp only [xwf, Bool.and_eq_true, Nat.ble_eq] at hwf2
  have hmap : ∀ u : Value, xv ad (xv (xsg σ X.length) u) = xv (fun k => ad (xsg σ X.length k)) u := fun u => xv_comp ad (xsg σ X.length) u
  have hwe : xW M' = Cond.code M'.1 (xcc M') (xml M') none :: xtb := by unfold xW; rw [c8]
  refine x_after (a := (Value.ref (ad (xsg σ X.length q0)) :: as.map (xv fun k => ad (xsg σ X.length k))).toArray) G HH hl hwf hnd hX hFr ?_ kk
  refine va_runI (b := ad (xsg σ X.length q0)) (As := as.map (xv fun k => ad (xsg σ X.length k))) ⟨hx, hb, hml, hown, hts⟩ (hC.2 I (fun k => ad (xsg σ X.length k)) H.size) (cwI n hts (xgoodW c2) hwe rfl rfl (hts _ (xwd_in c1)) (hts _ (xmt_in hlk rfl)) (hts _ (xwd_in c6)) (of_decide_eq_true c7) ⟨(of_decide_eq_true c3).1, (of_decide_eq_true c3).2, of_decide_eq_true c4⟩ ⟨?_, ?_⟩) ⟨xPc_blind _ _ _ _ _ _, hpre⟩ rfl (by rw [List.length_map]; exact hn) hl.1.1 ?_ (lv_room ?_) hdg ⟨by omega, by omega⟩
  · show d' + 1 ≤ R.frames; omega
  · show 8 + (xml M' + 11) + 50 * d' ≤ R.locals; omega
  · show ((as.map (xv (xsg σ X.length))).reverse ++ .ref (xsg σ X.length q0) :: rest).map (xv ad) = _
    rw [List.map_append, List.map_reverse, List.map_map, List.map_cons]
    have em : as.map (xv ad ∘ xv (xsg σ X.length)) = as.map (xv fun k => ad (xsg σ X.length k)) := List.map_congr_left (fun u _ => hmap u)
    rw [em]
    try rfl
  · rw [List.map_map]
    have : (rest.map ((fun v => v.category) ∘ xv ad)) = rest.map (fun v => v.category) := List.map_congr_left (fun u _ => xv_cat ad u)
    rw [this]; exact hwf2.2
set_option maxHeartbeats 1000000 in
/-- a call of a private constructor of the nest -/
theorem AJ.callN {L : xLn} {M : xM} {d mc ms : Nat} {Q : Option Value → List xE → Prop} {n0 : Nat} {z : Nat × Nat} {pc : Nat} {ls : List (Option Value)} {st : List Value} {X : List xE} (hM : xMk M = true) {M' : xM} {d' mc' ms' q0 n : Nat} {as : List Value} {Xc : List xE} {Qc : Option Value → List xE → Prop}
    (hC : CT L M' d' mc' ms' (.ref q0 :: as) Xc Qc) (hcv : xcB M' 2 n = true) {idx nx tg : Nat} {v : Int32} {w : Int64} {a b t : Nat} {sw : List (Int32 × Nat)} (ho : xat M pc = some (.invokespecial idx, nx, tg, v, w, a, b, t, sw)) (hlk : (xown M, idx, M'.1) ∈ xnl)
    (σ : List Nat) (rest : List Value) (hst : st = (as.map (xv (xsg σ X.length))).reverse ++ .ref (xsg σ X.length q0) :: rest) (hn : as.length = n) (hX : σ.map (fun i => X[i]?) = Xc.map (fun c => some (xrE (xsg σ X.length) c)))
    (hnd : va_nd σ = true) (hwf : xwf X ls rest = true) (hd : Nat.blt d' d = true) (hmm : (Nat.ble (z.1 + mc') mc && Nat.ble (z.2 + ms') ms) = true)
    (kk : ∀ (r : Option Value) (Y : List xE), Qc r Y → Nat.ble (X.length + Y.length) xB = true ∧ AJ L M d mc ms Q n0 (z.1 + mc', z.2 + ms') nx ls (r.toList ++ rest) (xput σ X Y)) : AJ L M d mc ms Q n0 z pc ls st X := by
  subst hst
  intro p e R s m args below meth c I A QF ad0 G ad H locs la HH hl
  obtain ⟨⟨hx, hb, hr, hml, hown, hts, hK, hlk2, hini, hA, hfr, hlo⟩, hmc, hms, hF, hret⟩ := id G
  have hck := xat_ck hM ho
  simp only [xck, Bool.and_eq_true] at hck
  obtain ⟨hdg, hnx, -⟩ := hck
  obtain rfl := xnx hnx
  have hdg := of_decide_eq_true hdg
  rw [Nat.add_sub_cancel_left] at hdg
  simp only [xcB, Bool.and_eq_true, Nat.ble_eq] at hcv
  obtain ⟨⟨⟨⟨⟨c1, c2⟩, c3⟩, c4⟩, c5⟩, ⟨c6, c7⟩, c8⟩ := hcv
  have c8 := of_decide_eq_true c8
  simp only [Bool.and_eq_true, Nat.ble_eq] at hmm
  have hd : d' < d := Nat.blt_eq.mp hd
  obtain ⟨⟨hPc, hFr⟩, hpre⟩ := x_before (av := .ref q0 :: as) hK hF hA HH hC.1 hnd hX
  have hwf2 := hwf
  simp only [xwf, Bool.and_eq_true, Nat.ble_eq] at hwf2
  have hmap : ∀ u : Value, xv ad (xv (xsg σ X.length) u) = xv (fun k => ad (xsg σ X.length k)) u := fun u => xv_comp ad (xsg σ X.length) u
  have hwe : xW M' = Cond.code M'.1 (xcc M') (xml M') none :: xtb := by unfold xW; rw [c8]
  refine x_after (a := (Value.ref (ad (xsg σ X.length q0)) :: as.map (xv fun k => ad (xsg σ X.length k))).toArray) G HH hl hwf hnd hX hFr ?_ kk
  refine va_runIN (host := "NeededStop") (b := ad (xsg σ X.length q0)) (As := as.map (xv fun k => ad (xsg σ X.length k))) ⟨hx, hb, hml, hown, hts⟩ (hC.2 I (fun k => ad (xsg σ X.length k)) H.size) ⟨va_cnB n hts (xgoodW c2) hwe rfl rfl (hF.2.2.2.2.2.2.2 _ hlk) (hts _ (xwd_in c1)) ⟨(of_decide_eq_true c3).1, (of_decide_eq_true c3).2, of_decide_eq_true c4⟩ ⟨?_, ?_⟩, of_decide_eq_true c7, hts _ (xwd_in c6)⟩ ⟨xPc_blind _ _ _ _ _ _, hpre⟩ rfl (by rw [List.length_map]; exact hn) hl.1.1 ?_ (lv_room ?_) hdg ⟨by omega, by omega⟩
  · show d' + 1 ≤ R.frames; omega
  · show 8 + (xml M' + 11) + 50 * d' ≤ R.locals; omega
  · show ((as.map (xv (xsg σ X.length))).reverse ++ .ref (xsg σ X.length q0) :: rest).map (xv ad) = _
    rw [List.map_append, List.map_reverse, List.map_map, List.map_cons]
    have em : as.map (xv ad ∘ xv (xsg σ X.length)) = as.map (xv fun k => ad (xsg σ X.length k)) := List.map_congr_left (fun u _ => hmap u)
    rw [em]
    try rfl
  · rw [List.map_map]
    have : (rest.map ((fun v => v.category) ∘ xv ad)) = rest.map (fun v => v.category) := List.map_congr_left (fun u _ => xv_cat ad u)
    rw [this]; exact hwf2.2
end
section
/-! ===== contracts, weakened ===== -/
theorem CT.mono {L : xLn} {M : xM} {d mc ms : Nat} {av : List Value} {X : List xE} {Q Q' : Option Value → List xE → Prop} (h : CT L M d mc ms av X Q) (hq : ∀ r Y, Q r Y → Q' r Y) : CT L M d mc ms av X Q' := by
  refine ⟨h.1, fun I ad sz => ?_⟩
  have hM := h.2 I ad sz
  intro p e ha hc hk s m args below hf happ hpre hcalls
  obtain ⟨k, o, h1, h2, h3, ⟨⟨r, X', ad', q1, q2, q3, q4, q5, q6, q7, q8⟩, hF⟩, hL⟩ := hM p e ha hc hk s m args below hf happ hpre hcalls
  exact ⟨k, o, h1, h2, h3, ⟨⟨r, X', ad', q1, q2, q3, q4, q5, q6, hq r X' q7, q8⟩, hF⟩, hL⟩
end
section
/-! ===== the worlds: scalars by their field numbers, rows by their field numbers ===== -/
/-- the reference: 37 fields (17 is the long token), 12 rows -/
def modW (s : Nat → Int32) (j : Int64) (a : Nat → Nat → Int32) : List xE := [.inr (.inr (8, [.int (s 0), .int (s 1), .int (s 2), .int (s 3), .int (s 4), .int (s 5), .ref 1, .int (s 7), .ref 2, .int (s 9), .ref 3, .int (s 11), .ref 4, .int (s 13), .ref 5, .int (s 15), .int (s 16), .long j, .int (s 18), .int (s 19), .int (s 20), .int (s 21), .int (s 22), .int (s 23), .int (s 24), .ref 6, .ref 7, .ref 8, .ref 9, .ref 10, .int (s 30), .int (s 31), .int (s 32), .ref 11, .int (s 34), .int (s 35), .ref 12])), .inl (0, 6, a 6), .inl (0, 16, a 8), .inl (0, 78, a 10), .inl (0, 16, a 12), .inl (0, 200, a 14), .inl (0, 50, a 25), .inl (0, 573, a 26), .inl (0, 573, a 27), .inl (0, 1146, a 28), .inl (1, 2, a 29), .inl (0, 4, a 33), .inl (0, 3, a 36)]
/-- Told, its cells from b on (10) -/
def tolW (b : Nat) (t : Nat → Int32) (ta : Nat → Nat → Int32) : List xE := [.inr (.inr (6, [.int (t 0), .int (t 1), .int (t 2), .int (t 3), .int (t 4), .int (t 5), .ref (b + 1), .ref (b + 2), .ref (b + 3), .int (t 9), .ref (b + 4), .ref (b + 5), .int (t 12), .ref (b + 6), .ref (b + 7), .ref (b + 8), .ref (b + 9)])), .inl (0, 2, ta 6), .inl (0, 2, ta 7), .inl (0, 2, ta 8), .inl (0, 8, ta 10), .inl (0, 8, ta 11), .inl (0, 26, ta 13), .inl (0, 26, ta 14), .inl (0, 26, ta 15), .inl (0, 60, ta 16)]
/-- Day, its cells from b on (13), its Told at tb; Halts: size d 20, rows da 20 .. 23 -/
def dayW (b tb : Nat) (d : Nat → Int32) (da : Nat → Nat → Int32) : List xE := [.inr (.inr (0, [.ref tb, .int (d 1), .int (d 2), .int (d 3), .ref (b + 1), .ref (b + 2), .ref (b + 3), .int (d 7), .ref (b + 4), .ref (b + 5), .ref (b + 6), .ref (b + 7), .int (d 12), .int (d 13), .ref (b + 8)])), .inl (0, 2, da 4), .inl (0, 2, da 5), .inl (0, 2, da 6), .inl (0, 8, da 8), .inl (0, 8, da 9), .inl (0, 26, da 10), .inl (0, 12, da 11), .inr (.inr (2, [.ref (b + 9), .ref (b + 10), .ref (b + 11), .ref (b + 12), .int (d 20)])), .inl (0, 26, da 20), .inl (0, 26, da 21), .inl (0, 26, da 22), .inl (0, 26, da 23)]
/-- a truth as the machine has it -/
def bI (b : Bool) : Int32 := if b then 1 else 0
theorem bI_or (b : Bool) : bI b = 0 ∨ bI b = 1 := by cases b <;> simp [bI]
theorem bI_eq0 (b : Bool) : bI b = 0 ↔ b = false := by cases b <;> simp [bI]
theorem bI_ne0 (b : Bool) : ¬ bI b = 0 ↔ b = true := by cases b <;> simp [bI]
/-- the bit k of a set -/
def hasP (s k : Int32) : Bool := decide (s >>> (k &&& 31) &&& 1 = 1)
def inP (v a b : Int32) : Bool := decide (a ≤ v ∧ v ≤ b)
theorem i32_lt {x y : Int32} : x < y ↔ x.toInt < y.toInt := Int32.lt_iff_toInt_lt
theorem i32_le {x y : Int32} : x ≤ y ↔ x.toInt ≤ y.toInt := Int32.le_iff_toInt_le
theorem i32_eq {x y : Int32} : x = y ↔ x.toInt = y.toInt := Int32.toInt_inj.symm
end
section
/-! ===== the reference, its small methods ===== -/
theorem c8_in (L : xLn) (v a b : Int32) : CT L mX8_in 0 0 0 [.int v, .int a, .int b] [] (fun r Y => r = some (.int (bI (inP v a b))) ∧ Y = []) := by
  refine CT.of rfl (Nat.le_of_ble_eq_true rfl) (Nat.le_of_ble_eq_true rfl) ?_
  refine AJ.run kX8_in [] 20 ?_
  refine ⟨fun h => ⟨Or.inl rfl, ?_, rfl⟩, fun h => ⟨fun h2 => ⟨Or.inl rfl, ?_, rfl⟩, fun h2 => ⟨Or.inr rfl, ?_, rfl⟩⟩⟩
  all_goals
    simp only [i32_lt, i32_le] at *
    simp only [inP, i32_le, bI]
    simp
    omega
theorem c8_has (L : xLn) (s k : Int32) : CT L mX8_has 0 0 0 [.int s, .int k] [] (fun r Y => r = some (.int (bI (hasP s k))) ∧ Y = []) := by
  refine CT.of rfl (Nat.le_of_ble_eq_true rfl) (Nat.le_of_ble_eq_true rfl) ?_
  refine AJ.run kX8_has [] 20 ?_
  refine ⟨fun h => ⟨Or.inl rfl, ?_, rfl⟩, fun h => ⟨Or.inr rfl, ?_, rfl⟩⟩
  · simp [hasP, h, bI]
  · simp [hasP, h, bI]
def isPersonP (s : Nat → Int32) (k : Int32) : Bool := inP k 0 7 && hasP (s 7) k
theorem c8_isPerson (L : xLn) (s : Nat → Int32) (j : Int64) (a : Nat → Nat → Int32) (k : Int32) : CT L mX8_isPerson 1 0 0 [.ref 0, .int k] (modW s j a) (fun r Y => r = some (.int (bI (isPersonP s k))) ∧ Y = modW s j a) := by
  refine CT.of rfl (Nat.le_of_ble_eq_true rfl) (Nat.le_of_ble_eq_true rfl) ?_
  refine AJ.run kX8_isPerson [] 30 ?_
  refine AJ.callS kX8_isPerson (c8_in L k 0 7) bX8_in rfl (by decide +kernel) [] [] rfl rfl rfl rfl rfl rfl rfl ?_
  rintro r Y ⟨rfl, rfl⟩
  refine ⟨rfl, ?_⟩
  refine AJ.run kX8_isPerson [] 30 ?_
  refine ⟨fun h => ⟨Or.inl rfl, ?_, rfl⟩, fun h => ?_⟩
  · rw [bI_eq0] at h
    simp [isPersonP, h, bI]
  rw [bI_ne0] at h
  refine AJ.callS kX8_isPerson (c8_has L (s 7) k) bX8_has rfl (by decide +kernel) [] [] rfl rfl rfl rfl rfl rfl rfl ?_
  rintro r Y ⟨rfl, rfl⟩
  refine ⟨rfl, ?_⟩
  refine AJ.run kX8_isPerson [] 30 ?_
  refine ⟨fun h2 => ⟨Or.inl rfl, ?_, rfl⟩, fun h2 => ⟨Or.inr rfl, ?_, rfl⟩⟩
  · rw [bI_eq0] at h2
    simp [isPersonP, h, h2, bI]
  · rw [bI_ne0] at h2
    simp [isPersonP, h, h2, bI]
def bitsP (s : Int32) : Nat → Int32
  | 0 => 0
  | k + 1 => bitsP s k + (s >>> (nI k &&& 31) &&& 1)
theorem c8_bits (L : xLn) (s : Int32) : CT L mX8_bits 0 0 0 [.int s] [] (fun r Y => r = some (.int (bitsP s 8)) ∧ Y = []) := by
  refine CT.of rfl (Nat.le_of_ble_eq_true rfl) (Nat.le_of_ble_eq_true rfl) ?_
  have loop : ∀ (n k : Nat), k + n = 8 → AJ L mX8_bits 0 0 0 (fun r Y => r = some (.int (bitsP s 8)) ∧ Y = []) 0 (0, 0) 4 [some (.int s), some (.int (bitsP s k)), some (.int (nI k))] [] [] := by
    intro n
    induction n with
    | zero =>
      intro k hk
      obtain rfl : k = 8 := by omega
      refine AJ.run kX8_bits [4] 30 ?_
      exact ⟨fun h => ⟨rfl, rfl⟩, fun h => absurd (by decide) h⟩
    | succ n ih =>
      intro k hk
      refine AJ.run kX8_bits [4] 30 ?_
      refine ⟨fun h => absurd h (nI_ge (b := 8) (by omega) (by omega)), fun h => ?_⟩
      have := ih (k + 1) (by omega)
      rw [nI_succ] at this
      exact this
  exact AJ.run kX8_bits [4] 30 (loop 8 0 rfl)
end
section
/-! ===== the reference: a day ===== -/
theorem fa_lit (n : Nat) : (OfNat.ofNat n : Int32) = nI n := rfl
abbrev xN : Type := Nat → Int32
def modN (s : xN) (j : Int64) (a : Nat → xN) (N : xN) : List xE := modW s j (va_up a 26 N)
theorem c8_isTram (L : xLn) (s : xN) (j : Int64) (a : Nat → xN) (k : Int32) : CT L mX8_isTram 1 0 0 [.ref 0, .int k] (modW s j a) (fun r Y => r = some (.int (bI (inP k 0 1 && hasP (s 5) k))) ∧ Y = modW s j a) := by
  refine CT.of rfl (Nat.le_of_ble_eq_true rfl) (Nat.le_of_ble_eq_true rfl) ?_
  refine AJ.run kX8_isTram [] 30 ?_
  refine AJ.callS kX8_isTram (c8_in L k 0 1) bX8_in rfl (by decide +kernel) [] [] rfl rfl rfl rfl rfl rfl rfl ?_
  rintro r Y ⟨rfl, rfl⟩
  refine ⟨rfl, AJ.run kX8_isTram [] 30 ⟨fun h => ⟨Or.inl rfl, ?_, rfl⟩, fun h => ?_⟩⟩
  · rw [bI_eq0] at h
    simp [h, bI]
  rw [bI_ne0] at h
  refine AJ.callS kX8_isTram (c8_has L (s 5) k) bX8_has rfl (by decide +kernel) [] [] rfl rfl rfl rfl rfl rfl rfl ?_
  rintro r Y ⟨rfl, rfl⟩
  refine ⟨rfl, AJ.run kX8_isTram [] 30 ⟨fun h2 => ⟨Or.inl rfl, ?_, rfl⟩, fun h2 => ⟨Or.inr rfl, ?_, rfl⟩⟩⟩
  · rw [bI_eq0] at h2
    simp [h, h2, bI]
  · rw [bI_ne0] at h2
    simp [h, h2, bI]
theorem c8_isPlace (L : xLn) (s : xN) (j : Int64) (a : Nat → xN) (k : Int32) : CT L mX8_isPlace 1 0 0 [.ref 0, .int k] (modW s j a) (fun r Y => r = some (.int (bI (inP k 0 (s 0 - 1)))) ∧ Y = modW s j a) := by
  refine CT.of rfl (Nat.le_of_ble_eq_true rfl) (Nat.le_of_ble_eq_true rfl) ?_
  refine AJ.run kX8_isPlace [] 30 ?_
  refine AJ.callS kX8_isPlace (c8_in L k 0 (s 0 - 1)) bX8_in rfl (by decide +kernel) [] [] rfl rfl rfl rfl rfl rfl rfl ?_
  rintro r Y ⟨rfl, rfl⟩
  exact ⟨rfl, AJ.run kX8_isPlace [] 30 ⟨bI_or _, rfl, rfl⟩⟩
theorem c8_erase (L : xLn) (s : xN) (j : Int64) (a : Nat → xN) : CT L mX8_erase 0 0 0 [.ref 0] (modW s j a) (fun r Y => r = some (.int (s 13)) ∧ Y = modW (upd s 13 0) j a) := by
  refine CT.of rfl (Nat.le_of_ble_eq_true rfl) (Nat.le_of_ble_eq_true rfl) ?_
  exact AJ.run kX8_erase [] 30 ⟨rfl, rfl⟩
theorem c8_forget (L : xLn) (s : xN) (j : Int64) (a : Nat → xN) : CT L mX8_forget 0 0 0 [.ref 0] (modW s j a) (fun r Y => r = some (.int (s 11)) ∧ Y = modW (upd s 11 0) j a) := by
  refine CT.of rfl (Nat.le_of_ble_eq_true rfl) (Nat.le_of_ble_eq_true rfl) ?_
  exact AJ.run kX8_forget [] 30 ⟨rfl, rfl⟩
theorem c8_fails (L : xLn) (s : xN) (j : Int64) (a : Nat → xN) : CT L mX8_fails 0 0 0 [.ref 0] (modW s j a) (fun r Y => r = some (.int 0) ∧ Y = modW (upd s 20 (s 16)) j a) := by
  refine CT.of rfl (Nat.le_of_ble_eq_true rfl) (Nat.le_of_ble_eq_true rfl) ?_
  exact AJ.run kX8_fails [] 30 ⟨Or.inl rfl, rfl, rfl⟩
def toldP (s : xN) : xN := upd (upd (upd s 30 (s 1)) 31 (s 2)) 32 (s 9)
theorem c8_asTold (L : xLn) (s : xN) (j : Int64) (a : Nat → xN) : CT L mX8_asTold 0 0 0 [.ref 0] (modW s j a) (fun r Y => r = none ∧ Y = modW (toldP s) j a) := by
  refine CT.of rfl (Nat.le_of_ble_eq_true rfl) (Nat.le_of_ble_eq_true rfl) ?_
  exact AJ.run kX8_asTold [] 30 ⟨rfl, rfl⟩
theorem c8_haltMany (L : xLn) (s : xN) (j : Int64) (a : Nat → xN) : CT L mX8_haltMany 0 0 0 [.ref 0] (modW s j a) (fun r Y => r = some (.int (a 26 7 + a 26 8)) ∧ Y = modW s j a) := by
  refine CT.of rfl (Nat.le_of_ble_eq_true rfl) (Nat.le_of_ble_eq_true rfl) ?_
  exact AJ.run kX8_haltMany [] 30 ⟨7, rfl, Nat.le_of_ble_eq_true rfl, 8, rfl, Nat.le_of_ble_eq_true rfl, rfl, rfl⟩
def addP (a : Nat → xN) (m : Nat) (w k t : Int32) : Nat → xN := va_up a 10 (upd (upd (upd (a 10) (3 * m) w) (3 * m + 1) k) (3 * m + 2) t)
theorem c8_addMood (L : xLn) (s : xN) (j : Int64) (a : Nat → xN) (w k t : Int32) (m : Nat) (hs : s 9 = nI m) (hm : m < 26) : CT L mX8_addMood 0 0 0 [.ref 0, .int w, .int k, .int t] (modW s j a) (fun r Y => r = none ∧ Y = modW (upd s 9 (s 9 + 1)) j (addP a m w k t)) := by
  refine CT.of rfl (Nat.le_of_ble_eq_true rfl) (Nat.le_of_ble_eq_true rfl) ?_
  refine AJ.run kX8_addMood [] 60 ⟨3 * m, ?_, ?_, 3 * m + 1, ?_, ?_, 3 * m + 2, ?_, ?_, rfl, rfl⟩
  all_goals first | omega | (rw [hs]; simp only [fa_lit, nI_add, pk_mul])
/-- where one is -/
def plP (N : xN) (p : Nat) : Int32 := if N (17 + p) = -1 then N (9 + p) else N (1 + (N (17 + p)).toNatClampNeg)
/-- nobody, or aboard of 0 or of 1 -/
def abO (N : xN) : Prop := ∀ p, p < 8 → N (17 + p) = -1 ∨ N (17 + p) = nI 0 ∨ N (17 + p) = nI 1
theorem c8_placeNow (L : xLn) (s : xN) (j : Int64) (a : Nat → xN) (N : xN) (p : Nat) (hp : p < 8) (hN : abO N) : CT L mX8_placeNow 0 0 0 [.ref 0, .int (nI p)] (modN s j a N) (fun r Y => r = some (.int (plP N p)) ∧ Y = modN s j a N) := by
  refine CT.of rfl (Nat.le_of_ble_eq_true rfl) (Nat.le_of_ble_eq_true rfl) ?_
  refine AJ.run kX8_placeNow [] 60 ⟨17 + p, nI_add 17 p, by omega, fun h => ?_, fun h => ?_⟩
  · have h : ¬ N (17 + p) = -1 := h
    have key : ∃ t, t < 2 ∧ N (17 + p) = nI t := by
      rcases hN p hp with h1 | h1 | h1
      · exact absurd h1 h
      · exact ⟨0, by omega, h1⟩
      · exact ⟨1, by omega, h1⟩
    obtain ⟨t, ht, et⟩ := key
    refine ⟨17 + p, nI_add 17 p, by omega, 1 + t, ?_, by omega, ?_, rfl⟩
    · show 1 + N (17 + p) = nI (1 + t)
      rw [et]; exact nI_add 1 t
    · show some (Value.int (N (1 + t))) = some (.int (plP N p))
      rw [plP, if_neg h, et, nI_clamp (by omega)]
  · have h : N (17 + p) = -1 := h
    refine ⟨9 + p, nI_add 9 p, by omega, ?_, rfl⟩
    show some (Value.int (N (9 + p))) = some (.int (plP N p))
    rw [plP, if_pos h]
theorem c8_late (L : xLn) (s : xN) (j : Int64) (a : Nat → xN) (N : xN) (p : Nat) (hp : p < 8) : CT L mX8_late 0 0 0 [.ref 0, .int (nI p)] (modN s j a N) (fun r Y => r = some (.int (if N (25 + p) = -1 then 60 else N (25 + p))) ∧ Y = modN s j a N) := by
  refine CT.of rfl (Nat.le_of_ble_eq_true rfl) (Nat.le_of_ble_eq_true rfl) ?_
  refine AJ.run kX8_late [] 60 ⟨25 + p, nI_add 25 p, by omega, fun h => ⟨25 + p, nI_add 25 p, by omega, ?_, rfl⟩, fun h => ⟨?_, rfl⟩⟩
  · have h : ¬ N (25 + p) = -1 := h
    rw [if_neg h]; rfl
  · have h : N (25 + p) = -1 := h
    rw [if_pos h]
/-- is mood k a cause at place q -/
def isC (ns sp : Int32) (mo N : xN) (q : Int32) (k : Nat) : Bool := decide (N (41 + k) = q) && decide (N (67 + k) = 0) && hasP ns (mo (3 * k + 1)) && decide (N 0 - mo (3 * k + 2) < sp)
/-- the eldest cause among the first k -/
def caP (ns sp : Int32) (mo N : xN) (q : Int32) : Nat → Int32
  | 0 => -1
  | k + 1 => if isC ns sp mo N q k = true ∧ (caP ns sp mo N q k = -1 ∨ mo (3 * k + 2) < mo (3 * (caP ns sp mo N q k).toNatClampNeg + 2)) then nI k else caP ns sp mo N q k
theorem caP_in (ns sp : Int32) (mo N : xN) (q : Int32) : ∀ k, caP ns sp mo N q k = -1 ∨ ∃ c, c < k ∧ caP ns sp mo N q k = nI c
  | 0 => Or.inl rfl
  | k + 1 => by
    rw [caP]
    split
    · exact Or.inr ⟨k, by omega, rfl⟩
    · rcases caP_in ns sp mo N q k with h | ⟨c, h1, h2⟩
      · exact Or.inl h
      · exact Or.inr ⟨c, by omega, h2⟩
set_option maxHeartbeats 2000000 in
theorem c8_causeOf (L : xLn) (s : xN) (j : Int64) (a : Nat → xN) (N : xN) (q : Int32) (m : Nat) (hs : s 32 = nI m) (hm : m ≤ 26) : CT L mX8_causeOf 1 0 0 [.ref 0, .int q] (modN s j a N) (fun r Y => r = some (.int (caP (s 30) (s 31) (a 10) N q m)) ∧ Y = modN s j a N) := by
  refine CT.of rfl (Nat.le_of_ble_eq_true rfl) (Nat.le_of_ble_eq_true rfl) ?_
  have loop : ∀ (n k : Nat) (x4 : Option Value), k + n = m → xokv 13 (x4.getD .null) = true → AJ L mX8_causeOf 1 0 0 (fun r Y => r = some (.int (caP (s 30) (s 31) (a 10) N q m)) ∧ Y = modN s j a N) (modN s j a N).length (0, 0) 4 [some (.ref 0), some (.int q), some (.int (caP (s 30) (s 31) (a 10) N q k)), some (.int (nI k)), x4] [] (modN s j a N) := by
    intro n
    induction n with
    | zero =>
      intro k x4 hk hx
      obtain rfl : k = m := by omega
      refine AJ.run kX8_causeOf [4] 60 ⟨fun h => ⟨rfl, rfl⟩, fun h => absurd ?_ h⟩
      show s 32 ≤ nI k
      rw [hs]; exact nI_le (by omega) (by omega)
    | succ n ih =>
      intro k x4 hk hx
      -- behind the test: x is 1 if k is a cause
      have tail : ∀ b : Bool, b = isC (s 30) (s 31) (a 10) N q k → AJ L mX8_causeOf 1 0 0 (fun r Y => r = some (.int (caP (s 30) (s 31) (a 10) N q m)) ∧ Y = modN s j a N) (modN s j a N).length (0, 0) 86 [some (.ref 0), some (.int q), some (.int (caP (s 30) (s 31) (a 10) N q k)), some (.int (nI k)), x4] [.int (bI b)] (modN s j a N) := by
        intro b hb
        have next : ∀ c : Int32, c = caP (s 30) (s 31) (a 10) N q (k + 1) → AJ L mX8_causeOf 1 0 0 (fun r Y => r = some (.int (caP (s 30) (s 31) (a 10) N q m)) ∧ Y = modN s j a N) (modN s j a N).length (0, 0) 126 [some (.ref 0), some (.int q), some (.int (caP (s 30) (s 31) (a 10) N q k)), some (.int (nI k)), some (.int (bI b))] [.int c] (modN s j a N) := by
          intro c hc
          subst hc
          have h2 := ih (k + 1) (some (.int (bI b))) (by omega) rfl
          rw [nI_succ] at h2
          exact AJ.run kX8_causeOf [4] 60 h2
        refine AJ.run kX8_causeOf [4, 126] 60 ⟨fun h => next _ ?_, fun h => ⟨fun h2 => next _ ?_, fun h2 => ?_⟩⟩
        · rw [bI_eq0] at h
          rw [caP, if_neg]
          rw [← hb, h]
          simp
        · have h2 : caP (s 30) (s 31) (a 10) N q k = -1 := h2
          rw [bI_ne0] at h
          rw [caP, if_pos ⟨by rw [← hb, h], Or.inl h2⟩]
        · have h2 : ¬ caP (s 30) (s 31) (a 10) N q k = -1 := h2
          rw [bI_ne0] at h
          rcases caP_in (s 30) (s 31) (a 10) N q k with h3 | ⟨c, hc1, hc2⟩
          · exact absurd h3 h2
          refine ⟨3 * k + 2, by simp only [fa_lit, nI_add, pk_mul], by omega, 3 * c + 2, ?_, by omega, fun h4 => next _ ?_, fun h4 => next _ ?_⟩
          · show 3 * caP (s 30) (s 31) (a 10) N q k + 2 = nI (3 * c + 2)
            rw [hc2]; simp only [fa_lit, nI_add, pk_mul]
          · have h4 : a 10 (3 * c + 2) ≤ a 10 (3 * k + 2) := h4
            show caP (s 30) (s 31) (a 10) N q k = _
            rw [caP, if_neg]
            rintro ⟨-, h5 | h5⟩
            · exact h2 h5
            · rw [hc2, nI_clamp (by omega)] at h5
              simp only [i32_lt, i32_le] at h4 h5
              omega
          · have h4 : ¬ a 10 (3 * c + 2) ≤ a 10 (3 * k + 2) := h4
            show nI k = _
            rw [caP, if_pos]
            refine ⟨by rw [← hb, h], Or.inr ?_⟩
            rw [hc2, nI_clamp (by omega)]
            simp only [i32_lt, i32_le] at h4 ⊢
            omega
      refine AJ.run kX8_causeOf [4, 86] 60 ⟨fun h => absurd h ?_, fun h => ⟨41 + k, nI_add 41 k, by omega, fun h1 => tail false ?_, fun h1 => ⟨67 + k, nI_add 67 k, by omega, fun h2 => tail false ?_, fun h2 => ⟨3 * k + 1, by simp only [fa_lit, nI_add, pk_mul], by omega, ?_⟩⟩⟩⟩
      · show ¬ s 32 ≤ nI k
        rw [hs]; exact nI_ge (by omega) (by omega)
      · have h1 : ¬ N (41 + k) = q := h1
        simp [isC, h1]
      · have h2 : ¬ N (67 + k) = 0 := h2
        simp [isC, h2]
      · have h1 : N (41 + k) = q := h1
        have h2 : N (67 + k) = 0 := h2
        refine AJ.callS kX8_causeOf (c8_has L (s 30) (a 10 (3 * k + 1))) bX8_has rfl (by decide +kernel) [] [] rfl rfl rfl rfl ?_ rfl rfl ?_
        · cases x4 with
          | none => rfl
          | some u => simpa [xwf, xokv, modN, modW, xoke] using hx
        rintro r Y ⟨rfl, rfl⟩
        refine ⟨rfl, AJ.run kX8_causeOf [4, 86] 60 ⟨fun h3 => tail false ?_, fun h3 => ⟨0, rfl, by omega, 3 * k + 2, by simp only [fa_lit, nI_add, pk_mul], by omega, fun h4 => tail false ?_, fun h4 => tail true ?_⟩⟩⟩
        · rw [bI_eq0] at h3
          simp [isC, h3]
        · have h4 : s 31 ≤ N 0 - a 10 (3 * k + 2) := h4
          have : ¬ N 0 - a 10 (3 * k + 2) < s 31 := by
            simp only [i32_lt, i32_le] at h4 ⊢; omega
          simp [isC, this]
        · have h4 : ¬ s 31 ≤ N 0 - a 10 (3 * k + 2) := h4
          have h5 : N 0 - a 10 (3 * k + 2) < s 31 := by
            simp only [i32_lt, i32_le] at h4 ⊢; omega
          rw [bI_ne0] at h3
          simp [isC, h1, h2, h3, h5]
  exact AJ.run kX8_causeOf [4] 30 (loop m 0 none (by omega) rfl)
end
section
/-! ===== the reference: a minute, a day ===== -/
def bg1 (tr N : xN) : Nat → xN
  | 0 => upd N 0 0
  | k + 1 => upd (upd (upd (upd (bg1 tr N k) (1 + k) (tr (3 * k))) (3 + k) (tr (3 * k + 2))) (5 + k) 0) (7 + k) 0
def bg2 (pe N : xN) : Nat → xN
  | 0 => N
  | k + 1 => upd (upd (upd (upd (bg2 pe N k) (9 + k) (pe (2 * k))) (17 + k) (-1)) (25 + k) (-1)) (33 + k) 0
def bg3 (N : xN) : Nat → xN
  | 0 => N
  | k + 1 => upd (upd (bg3 N k) (41 + k) (-1)) (67 + k) 0
def beginP (tr pe N : xN) : xN := bg3 (bg2 pe (bg1 tr N 2) 8) 26
set_option maxHeartbeats 2000000 in
theorem c8_begin (L : xLn) (s : xN) (j : Int64) (a : Nat → xN) (N : xN) : CT L mX8_begin 0 0 0 [.ref 0] (modN s j a N) (fun r Y => r = none ∧ Y = modN s j a (beginP (a 6) (a 8) N)) := by
  refine CT.of rfl (Nat.le_of_ble_eq_true rfl) (Nat.le_of_ble_eq_true rfl) ?_
  have l3 : ∀ (n k : Nat) (B : xN), k + n = 26 → AJ L mX8_begin 0 0 0 (fun r Y => r = none ∧ Y = modN s j a (bg3 B 26)) (modN s j a N).length (0, 0) 136 [some (.ref 0), some (.int (nI k))] [] (modN s j a (bg3 B k)) := by
    intro n
    induction n with
    | zero =>
      intro k B hk
      obtain rfl : k = 26 := by omega
      exact AJ.run kX8_begin [136] 60 ⟨fun h => ⟨rfl, rfl⟩, fun h => absurd (by decide) h⟩
    | succ n ih =>
      intro k B hk
      have h2 := ih (k + 1) B (by omega)
      rw [nI_succ] at h2
      exact AJ.run kX8_begin [136] 60 ⟨fun h => absurd h (nI_ge (b := 26) (by omega) (by omega)), fun h => ⟨41 + k, nI_add 41 k, by omega, 67 + k, nI_add 67 k, by omega, h2⟩⟩
  have l2 : ∀ (n k : Nat) (B : xN), k + n = 8 → AJ L mX8_begin 0 0 0 (fun r Y => r = none ∧ Y = modN s j a (bg3 (bg2 (a 8) B 8) 26)) (modN s j a N).length (0, 0) 75 [some (.ref 0), some (.int (nI k))] [] (modN s j a (bg2 (a 8) B k)) := by
    intro n
    induction n with
    | zero =>
      intro k B hk
      obtain rfl : k = 8 := by omega
      exact AJ.run kX8_begin [75, 136] 60 ⟨fun h => l3 26 0 (bg2 (a 8) B 8) rfl, fun h => absurd (by decide) h⟩
    | succ n ih =>
      intro k B hk
      have h2 := ih (k + 1) B (by omega)
      rw [nI_succ] at h2
      exact AJ.run kX8_begin [75, 136] 60 ⟨fun h => absurd h (nI_ge (b := 8) (by omega) (by omega)), fun h => ⟨2 * k, by simp only [fa_lit, pk_mul], by omega, 9 + k, nI_add 9 k, by omega, 17 + k, nI_add 17 k, by omega, 25 + k, nI_add 25 k, by omega, 33 + k, nI_add 33 k, by omega, h2⟩⟩
  have l1 : ∀ (n k : Nat), k + n = 2 → AJ L mX8_begin 0 0 0 (fun r Y => r = none ∧ Y = modN s j a (beginP (a 6) (a 8) N)) (modN s j a N).length (0, 0) 9 [some (.ref 0), some (.int (nI k))] [] (modN s j a (bg1 (a 6) N k)) := by
    intro n
    induction n with
    | zero =>
      intro k hk
      obtain rfl : k = 2 := by omega
      exact AJ.run kX8_begin [9, 75] 60 ⟨fun h => l2 8 0 (bg1 (a 6) N 2) rfl, fun h => absurd (by decide) h⟩
    | succ n ih =>
      intro k hk
      have h2 := ih (k + 1) (by omega)
      rw [nI_succ] at h2
      exact AJ.run kX8_begin [9, 75] 60 ⟨fun h => absurd h (nI_ge (b := 2) (by omega) (by omega)), fun h => ⟨3 * k, by simp only [fa_lit, pk_mul], by omega, 1 + k, nI_add 1 k, by omega, 3 * k + 2, by simp only [fa_lit, nI_add, pk_mul], by omega, 3 + k, nI_add 3 k, by omega, 5 + k, nI_add 5 k, by omega, 7 + k, nI_add 7 k, by omega, h2⟩⟩
  exact AJ.run kX8_begin [9] 60 ⟨0, rfl, by omega, l1 2 0 rfl⟩
/-- tram k goes on: its way, its place -/
def wayP (pl : Int32) (N : xN) (k : Nat) : Int32 := if (if N (3 + k) = 0 then N (1 + k) = pl - 1 else N (1 + k) = 0) then 1 - N (3 + k) else N (3 + k)
def onA (pl : Int32) (N : xN) (k : Nat) : xN := upd (upd (upd N (3 + k) (wayP pl N k)) (1 + k) (N (1 + k) + (if wayP pl N k = 0 then 1 else -1))) (5 + k) 0
/-- what those aboard of k owe -/
def oweL (fo fa : Int32) (k : Nat) (N : xN) : Nat → xN
  | 0 => N
  | q + 1 => upd (oweL fo fa k N q) (33 + q) (oweL fo fa k N q (33 + q) + (if hasP fo (nI q) = true ∧ oweL fo fa k N q (17 + q) = nI k then fa else 0))
def goOnP (pl fo fa : Int32) (N : xN) (k : Nat) : xN := oweL fo fa k (onA pl N k) 8
set_option maxHeartbeats 4000000 in
theorem c8_goOn (L : xLn) (s : xN) (j : Int64) (a : Nat → xN) (N : xN) (k : Nat) (hk : k < 2) : CT L mX8_goOn 1 0 0 [.ref 0, .int (nI k)] (modN s j a N) (fun r Y => r = none ∧ Y = modN s j a (goOnP (s 0) (s 7) (s 4) N k)) := by
  refine CT.of rfl (Nat.le_of_ble_eq_true rfl) (Nat.le_of_ble_eq_true rfl) ?_
  have loop : ∀ (n q : Nat) (B : xN) (x2 : Int32), q + n = 8 → AJ L mX8_goOn 1 0 0 (fun r Y => r = none ∧ Y = modN s j a (oweL (s 7) (s 4) k B 8)) (modN s j a N).length (0, 0) 124 [some (.ref 0), some (.int (nI k)), some (.int x2), some (.int (nI q))] [] (modN s j a (oweL (s 7) (s 4) k B q)) := by
    intro n
    induction n with
    | zero =>
      intro q B x2 hq
      obtain rfl : q = 8 := by omega
      exact AJ.run kX8_goOn [124] 60 ⟨fun h => ⟨rfl, rfl⟩, fun h => absurd (by decide) h⟩
    | succ n ih =>
      intro q B x2 hq
      have h2 := ih (q + 1) B x2 (by omega)
      rw [nI_succ] at h2
      have tail : ∀ v : Int32, v = (if hasP (s 7) (nI q) = true ∧ oweL (s 7) (s 4) k B q (17 + q) = nI k then s 4 else 0) → AJ L mX8_goOn 1 0 0 (fun r Y => r = none ∧ Y = modN s j a (oweL (s 7) (s 4) k B 8)) (modN s j a N).length (0, 0) 172 [some (.ref 0), some (.int (nI k)), some (.int x2), some (.int (nI q))] [.int v, .int (oweL (s 7) (s 4) k B q (33 + q)), .int (33 + nI q), .ref 7] (modN s j a (oweL (s 7) (s 4) k B q)) := by
        intro v hv
        subst hv
        exact AJ.run kX8_goOn [124] 60 ⟨33 + q, nI_add 33 q, by omega, h2⟩
      refine AJ.run kX8_goOn [124] 60 ⟨fun h => absurd h (nI_ge (b := 8) (by omega) (by omega)), fun h => ⟨33 + q, nI_add 33 q, by omega, ?_⟩⟩
      refine AJ.callS kX8_goOn (c8_has L (s 7) (nI q)) bX8_has rfl (by decide +kernel) [] [.int (oweL (s 7) (s 4) k B q (33 + q)), .int (33 + nI q), .ref 7] rfl rfl rfl rfl rfl rfl rfl ?_
      rintro r Y ⟨rfl, rfl⟩
      refine ⟨rfl, AJ.run kX8_goOn [172] 60 ⟨fun h3 => tail 0 ?_, fun h3 => ⟨17 + q, nI_add 17 q, by omega, fun h4 => tail 0 ?_, fun h4 => tail (s 4) ?_⟩⟩⟩
      · rw [bI_eq0] at h3
        rw [if_neg]
        simp [h3]
      · have h4 : ¬ oweL (s 7) (s 4) k B q (17 + q) = nI k := h4
        rw [if_neg]
        simp [h4]
      · have h4 : oweL (s 7) (s 4) k B q (17 + q) = nI k := h4
        rw [bI_ne0] at h3
        rw [if_pos ⟨h3, h4⟩]
  -- the way and the place
  have t3 : ∀ v : Int32, v = (if wayP (s 0) N k = 0 then 1 else -1) → ∀ x2 : Int32, AJ L mX8_goOn 1 0 0 (fun r Y => r = none ∧ Y = modN s j a (goOnP (s 0) (s 7) (s 4) N k)) (modN s j a N).length (0, 0) 111 [some (.ref 0), some (.int (nI k)), some (.int x2), none] [.int v, .int (N (1 + k)), .int (1 + nI k), .ref 7] (modN s j a (upd N (3 + k) (wayP (s 0) N k))) := by
    intro v hv x2
    subst hv
    exact AJ.run kX8_goOn [124] 60 ⟨1 + k, nI_add 1 k, by omega, 5 + k, nI_add 5 k, by omega, loop 8 0 (onA (s 0) N k) x2 rfl⟩
  have t2 : ∀ x2 : Int32, AJ L mX8_goOn 1 0 0 (fun r Y => r = none ∧ Y = modN s j a (goOnP (s 0) (s 7) (s 4) N k)) (modN s j a N).length (0, 0) 85 [some (.ref 0), some (.int (nI k)), some (.int x2), none] [.int (wayP (s 0) N k), .int (3 + nI k), .ref 7] (modN s j a N) := by
    intro x2
    have e1 : upd N (3 + k) (wayP (s 0) N k) (1 + k) = N (1 + k) := pk_un (by omega)
    have e2 : upd N (3 + k) (wayP (s 0) N k) (3 + k) = wayP (s 0) N k := pk_us
    refine AJ.run kX8_goOn [111] 60 ⟨3 + k, nI_add 3 k, by omega, 1 + k, nI_add 1 k, by omega, 3 + k, nI_add 3 k, by omega, fun h => ?_, fun h => ?_⟩
    · have h : ¬ upd N (3 + k) (wayP (s 0) N k) (3 + k) = 0 := h
      have := t3 (-1) (by rw [e2] at h; rw [if_neg h]) x2
      rw [← e1] at this
      exact this
    · have h : upd N (3 + k) (wayP (s 0) N k) (3 + k) = 0 := h
      have := t3 1 (by rw [e2] at h; rw [if_pos h]) x2
      rw [← e1] at this
      exact this
  have t1 : ∀ b : Bool, b = decide (if N (3 + k) = 0 then N (1 + k) = s 0 - 1 else N (1 + k) = 0) → AJ L mX8_goOn 1 0 0 (fun r Y => r = none ∧ Y = modN s j a (goOnP (s 0) (s 7) (s 4) N k)) (modN s j a N).length (0, 0) 52 [some (.ref 0), some (.int (nI k)), none, none] [.int (bI b)] (modN s j a N) := by
    intro b hb
    refine AJ.run kX8_goOn [85] 60 ⟨fun h => ⟨3 + k, nI_add 3 k, by omega, ?_⟩, fun h => ⟨3 + k, nI_add 3 k, by omega, ?_⟩⟩
    · rw [bI_eq0] at h
      subst h
      have e : wayP (s 0) N k = N (3 + k) := by
        rw [wayP, if_neg]
        exact of_decide_eq_false hb.symm
      have := t2 (bI false)
      rw [e] at this
      exact this
    · rw [bI_ne0] at h
      subst h
      have e : wayP (s 0) N k = 1 - N (3 + k) := by
        rw [wayP, if_pos]
        exact of_decide_eq_true hb.symm
      have := t2 (bI true)
      rw [e] at this
      exact this
  refine AJ.run kX8_goOn [52] 60 ⟨3 + k, nI_add 3 k, by omega, fun h => ⟨1 + k, nI_add 1 k, by omega, fun h2 => t1 false ?_, fun h2 => t1 true ?_⟩, fun h => ⟨1 + k, nI_add 1 k, by omega, fun h2 => t1 false ?_, fun h2 => t1 true ?_⟩⟩
  · have h : ¬ N (3 + k) = 0 := h
    have h2 : ¬ N (1 + k) = 0 := h2
    simp [h, h2]
  · have h : ¬ N (3 + k) = 0 := h
    have h2 : N (1 + k) = 0 := h2
    simp [h, h2]
  · have h : N (3 + k) = 0 := h
    have h2 : ¬ N (1 + k) = s 0 - 1 := h2
    simp [h, h2]
  · have h : N (3 + k) = 0 := h
    have h2 : N (1 + k) = s 0 - 1 := h2
    simp [h, h2]
end
section
/-! ===== the reference: a halt, a minute ===== -/
def haltA (N : xN) (k c h : Nat) : xN :=
  let A1 := upd N (93 + 4 * h) (nI k)
  let A2 := upd A1 (93 + 4 * h + 1) (A1 (1 + k))
  let A3 := upd A2 (93 + 4 * h + 2) (A2 0)
  let A4 := upd A3 (93 + 4 * h + 3) (nI c)
  let A5 := upd A4 (7 + k) (A4 (7 + k) + 1)
  let A6 := upd A5 (5 + k) 1
  upd A6 (67 + c) 1
def offT (B : xN) (k q : Nat) : xN :=
  let B1 := upd B (9 + q) (B (1 + k))
  let B2 := upd B1 (25 + q) (B1 0)
  upd B2 (17 + q) (-1)
def offU (B : xN) (k q : Nat) : xN :=
  let B1 := upd B (9 + q) (B (9 + q))
  let B2 := upd B1 (25 + q) (-1)
  upd B2 (17 + q) (nI k)
def offS (fo : Int32) (pe : xN) (k q : Nat) (S : xN × Int32) : xN × Int32 := if hasP fo (nI q) = true ∧ S.1 (17 + q) = nI k then (if pe (2 * q + 1) = S.1 (1 + k) then (offT S.1 k q, S.2 + 0) else (offU S.1 k q, S.2 + 1)) else S
def offL (fo : Int32) (pe : xN) (k : Nat) (N : xN) : Nat → xN × Int32
  | 0 => (N, 0)
  | q + 1 => offS fo pe k q (offL fo pe k N q)
def onS (fo se : Int32) (k q : Nat) (S : xN × Int32) : xN × Int32 := if hasP fo (nI q) = true ∧ S.1 (17 + q) = -1 ∧ S.1 (25 + q) = -1 ∧ S.1 (9 + q) = S.1 (1 + k) ∧ S.2 < se then (upd S.1 (17 + q) (nI k), S.2 + 1) else S
def onL (fo se : Int32) (k : Nat) (S : xN × Int32) : Nat → xN × Int32
  | 0 => S
  | q + 1 => onS fo se k q (onL fo se k S q)
def haltP (fo se : Int32) (pe N : xN) (k c h : Nat) : xN := (onL fo se k (offL fo pe k (haltA N k c h) 8) 8).1
set_option maxHeartbeats 4000000 in
theorem c8_haltBy (L : xLn) (s : xN) (j : Int64) (a : Nat → xN) (N : xN) (k c h : Nat) (hk : k < 2) (hc : c < 26) (hh : N 7 + N 8 = nI h) (hh2 : h < 120) : CT L mX8_haltBy 1 0 0 [.ref 0, .int (nI k), .int (nI c)] (modN s j a N) (fun r Y => r = none ∧ Y = modN s j a (haltP (s 7) (s 3) (a 8) N k c h)) := by
  refine CT.of rfl (Nat.le_of_ble_eq_true rfl) (Nat.le_of_ble_eq_true rfl) ?_
  -- getting on
  have l2 : ∀ (n q : Nat) (S : xN × Int32) (x6 : Option Value), q + n = 8 → xokv 13 (x6.getD .null) = true → AJ L mX8_haltBy 1 0 0 (fun r Y => r = none ∧ Y = modN s j a (onL (s 7) (s 3) k S 8).1) (modN s j a N).length (0, 0) 261 [some (.ref 0), some (.int (nI k)), some (.int (nI c)), some (.int (nI (93 + 4 * h))), some (.int (onL (s 7) (s 3) k S q).2), some (.int (nI q)), x6] [] (modN s j a (onL (s 7) (s 3) k S q).1) := by
    intro n
    induction n with
    | zero =>
      intro q S x6 hq hx
      obtain rfl : q = 8 := by omega
      exact AJ.run kX8_haltBy [261] 60 ⟨fun h => ⟨rfl, rfl⟩, fun h => absurd (by decide) h⟩
    | succ n ih =>
      intro q S x6 hq hx
      have h2 := ih (q + 1) S x6 (by omega) hx
      rw [nI_succ, show onL (s 7) (s 3) k S (q + 1) = onS (s 7) (s 3) k q (onL (s 7) (s 3) k S q) from rfl] at h2
      generalize onL (s 7) (s 3) k S q = B at h2 ⊢
      refine AJ.run kX8_haltBy [261] 60 ⟨fun hz => absurd hz (nI_ge (b := 8) (by omega) (by omega)), fun hz => ?_⟩
      refine AJ.callS kX8_haltBy (c8_has L (s 7) (nI q)) bX8_has rfl (by decide +kernel) [] [] rfl rfl rfl rfl ?_ rfl rfl ?_
      · cases x6 with
        | none => rfl
        | some u => simpa [xwf, xokv, modN, modW, xoke] using hx
      rintro r Y ⟨rfl, rfl⟩
      have skip : ¬ (hasP (s 7) (nI q) = true ∧ B.1 (17 + q) = -1 ∧ B.1 (25 + q) = -1 ∧ B.1 (9 + q) = B.1 (1 + k) ∧ B.2 < s 3) → AJ L mX8_haltBy 1 0 0 (fun r Y => r = none ∧ Y = modN s j a (onL (s 7) (s 3) k S 8).1) (modN s j a N).length (0, 0) 352 [some (.ref 0), some (.int (nI k)), some (.int (nI c)), some (.int (nI (93 + 4 * h))), some (.int B.2), some (.int (nI q)), x6] [] (modN s j a B.1) := by
        intro hn
        rw [onS, if_neg hn] at h2
        exact AJ.run kX8_haltBy [261] 60 h2
      refine ⟨rfl, AJ.run kX8_haltBy [261, 352] 60 ⟨fun h3 => skip ?_, fun h3 => ⟨17 + q, nI_add 17 q, by omega, fun h4 => skip ?_, fun h4 => ⟨25 + q, nI_add 25 q, by omega, fun h5 => skip ?_, fun h5 => ⟨9 + q, nI_add 9 q, by omega, 1 + k, nI_add 1 k, by omega, fun h6 => skip ?_, fun h6 => ⟨fun h7 => skip ?_, fun h7 => ⟨17 + q, nI_add 17 q, by omega, ?_⟩⟩⟩⟩⟩⟩⟩
      · rw [bI_eq0] at h3
        simp [h3]
      · have h4 : ¬ B.1 (17 + q) = -1 := h4
        simp [h4]
      · have h5 : ¬ B.1 (25 + q) = -1 := h5
        simp [h5]
      · have h6 : ¬ B.1 (9 + q) = B.1 (1 + k) := h6
        simp [h6]
      · have h7 : s 3 ≤ B.2 := h7
        rintro ⟨-, -, -, -, h8⟩
        simp only [i32_lt, i32_le] at h7 h8
        omega
      · have h4 : B.1 (17 + q) = -1 := h4
        have h5 : B.1 (25 + q) = -1 := h5
        have h6 : B.1 (9 + q) = B.1 (1 + k) := h6
        have h7 : ¬ s 3 ≤ B.2 := h7
        have h8 : B.2 < s 3 := by
          simp only [i32_lt, i32_le] at h7 ⊢
          omega
        rw [bI_ne0] at h3
        rw [onS, if_pos ⟨h3, h4, h5, h6, h8⟩] at h2
        exact AJ.run kX8_haltBy [261] 60 h2
  -- getting off
  have l1 : ∀ (n q : Nat) (A : xN) (x6 : Option Value), q + n = 8 → xokv 13 (x6.getD .null) = true → AJ L mX8_haltBy 1 0 0 (fun r Y => r = none ∧ Y = modN s j a (onL (s 7) (s 3) k (offL (s 7) (a 8) k A 8) 8).1) (modN s j a N).length (0, 0) 94 [some (.ref 0), some (.int (nI k)), some (.int (nI c)), some (.int (nI (93 + 4 * h))), some (.int (offL (s 7) (a 8) k A q).2), some (.int (nI q)), x6] [] (modN s j a (offL (s 7) (a 8) k A q).1) := by
    intro n
    induction n with
    | zero =>
      intro q A x6 hq hx
      obtain rfl : q = 8 := by omega
      exact AJ.run kX8_haltBy [94, 261] 60 ⟨fun h => l2 8 0 (offL (s 7) (a 8) k A 8) x6 rfl hx, fun h => absurd (by decide) h⟩
    | succ n ih =>
      intro q A x6 hq hx
      have h2 := fun x6' hx' => ih (q + 1) A x6' (by omega) hx'
      rw [nI_succ, show offL (s 7) (a 8) k A (q + 1) = offS (s 7) (a 8) k q (offL (s 7) (a 8) k A q) from rfl] at h2
      generalize offL (s 7) (a 8) k A q = B at h2 ⊢
      refine AJ.run kX8_haltBy [94] 60 ⟨fun hz => absurd hz (nI_ge (b := 8) (by omega) (by omega)), fun hz => ?_⟩
      refine AJ.callS kX8_haltBy (c8_has L (s 7) (nI q)) bX8_has rfl (by decide +kernel) [] [] rfl rfl rfl rfl ?_ rfl rfl ?_
      · cases x6 with
        | none => rfl
        | some u => simpa [xwf, xokv, modN, modW, xoke] using hx
      rintro r Y ⟨rfl, rfl⟩
      refine ⟨rfl, AJ.run kX8_haltBy [94] 120 ⟨fun h3 => ?_, fun h3 => ⟨17 + q, nI_add 17 q, by omega, fun h4 => ?_, fun h4 => ⟨2 * q + 1, by simp only [fa_lit, nI_add, pk_mul], by omega, 1 + k, nI_add 1 k, by omega, fun h5 => ⟨fun _ => ⟨9 + q, nI_add 9 q, by omega, 9 + q, nI_add 9 q, by omega, fun _ => ⟨25 + q, nI_add 25 q, by omega, fun _ => ⟨17 + q, nI_add 17 q, by omega, fun _ => ?_, fun hz => absurd rfl hz⟩, fun hz => absurd rfl hz⟩, fun hz => absurd rfl hz⟩, fun hz => absurd rfl hz⟩, fun h5 => ⟨fun hz => absurd hz (by decide), fun _ => ⟨1 + k, nI_add 1 k, by omega, 9 + q, nI_add 9 q, by omega, fun hz => absurd hz (by decide), fun _ => ⟨0, rfl, by omega, 25 + q, nI_add 25 q, by omega, fun hz => absurd hz (by decide), fun _ => ⟨17 + q, nI_add 17 q, by omega, fun hz => absurd hz (by decide), fun _ => ?_⟩⟩⟩⟩⟩⟩⟩⟩
      · rw [bI_eq0] at h3
        have h2 := h2 x6 hx
        rw [offS, if_neg (by simp [h3])] at h2
        exact h2
      · have h4 : ¬ B.1 (17 + q) = nI k := h4
        have h2 := h2 x6 hx
        rw [offS, if_neg (by simp [h4])] at h2
        exact h2
      · have h4 : B.1 (17 + q) = nI k := h4
        have h5 : ¬ a 8 (2 * q + 1) = B.1 (1 + k) := h5
        rw [bI_ne0] at h3
        have h2 := h2 (some (.int 0)) rfl
        rw [offS, if_pos ⟨h3, h4⟩, if_neg h5] at h2
        exact h2
      · have h4 : B.1 (17 + q) = nI k := h4
        have h5 : a 8 (2 * q + 1) = B.1 (1 + k) := h5
        rw [bI_ne0] at h3
        have h2 := h2 (some (.int 1)) rfl
        rw [offS, if_pos ⟨h3, h4⟩, if_pos h5] at h2
        exact h2
  refine AJ.run kX8_haltBy [] 60 ?_
  refine AJ.callV kX8_haltBy (c8_haltMany L s j (va_up a 26 N)) bX8_haltMany rfl (by decide +kernel) [0, 1, 2, 3, 4, 5, 6, 7, 8, 9, 10, 11, 12] [.int 4, .int 93] rfl rfl rfl rfl rfl rfl rfl rfl rfl rfl ?_
  rintro r Y ⟨rfl, rfl⟩
  refine ⟨rfl, ?_⟩
  have e1 : (93 : Int32) + 4 * (N 7 + N 8) = nI (93 + 4 * h) := by rw [hh]; simp only [fa_lit, nI_add, pk_mul]
  have go : AJ L mX8_haltBy 1 0 0 (fun r Y => r = none ∧ Y = modN s j a (haltP (s 7) (s 3) (a 8) N k c h)) (modN s j a N).length (0, 0) 9 [some (.ref 0), some (.int (nI k)), some (.int (nI c)), none, none, none, none] [.int (nI (93 + 4 * h))] (modN s j a N) := by
    exact AJ.run kX8_haltBy [94] 100 ⟨93 + 4 * h, rfl, by omega, 1 + k, nI_add 1 k, by omega, 93 + 4 * h + 1, nI_add _ 1, by omega, 0, rfl, by omega, 93 + 4 * h + 2, nI_add _ 2, by omega, 93 + 4 * h + 3, nI_add _ 3, by omega, 7 + k, nI_add 7 k, by omega, 7 + k, nI_add 7 k, by omega, 5 + k, nI_add 5 k, by omega, 67 + c, nI_add 67 c, by omega, l1 8 0 (haltA N k c h) none rfl rfl⟩
  rw [← e1] at go
  exact AJ.run kX8_haltBy [9] 60 go
end
section
/-! ===== the reference: what a minute leaves as it was; the minute ===== -/
theorem oweL_out (fo fa : Int32) (k : Nat) (N : xN) {i : Nat} : ∀ q, q ≤ 8 → (i < 33 ∨ 41 ≤ i) → oweL fo fa k N q i = N i
  | 0, _, _ => rfl
  | q + 1, hq, hi => by rw [oweL, pk_un (by omega), oweL_out fo fa k N q (by omega) hi]
theorem onA_out (pl : Int32) (N : xN) {k i : Nat} (h : i ≠ 3 + k ∧ i ≠ 1 + k ∧ i ≠ 5 + k) : onA pl N k i = N i := by
  rw [onA, pk_un (by omega), pk_un (by omega), pk_un (by omega)]
theorem goOnP_out (pl fo fa : Int32) (N : xN) {k i : Nat} (hk : k < 2) (h : 7 ≤ i ∧ i < 33 ∨ 41 ≤ i ∨ i = 0) : goOnP pl fo fa N k i = N i := by
  rw [goOnP, oweL_out _ _ _ _ 8 (by omega) (by omega), onA_out _ _ (by omega)]
theorem offS_out (fo : Int32) (pe : xN) {k q i : Nat} (S : xN × Int32) (hq : q < 8) (h : i < 9 ∨ 33 ≤ i) : (offS fo pe k q S).1 i = S.1 i := by
  unfold offS
  split
  · split
    · show offT S.1 k q i = S.1 i
      unfold offT
      try dsimp only
      rw [pk_un (by omega), pk_un (by omega), pk_un (by omega)]
    · show offU S.1 k q i = S.1 i
      unfold offU
      try dsimp only
      rw [pk_un (by omega), pk_un (by omega), pk_un (by omega)]
  · rfl
theorem offL_out (fo : Int32) (pe : xN) {k i : Nat} (N : xN) (h : i < 9 ∨ 33 ≤ i) : ∀ q, q ≤ 8 → (offL fo pe k N q).1 i = N i
  | 0, _ => rfl
  | q + 1, hq => by rw [offL, offS_out fo pe _ (by omega) h, offL_out fo pe N h q (by omega)]
theorem onS_out (fo se : Int32) {k q i : Nat} (S : xN × Int32) (h : i ≠ 17 + q) : (onS fo se k q S).1 i = S.1 i := by
  unfold onS
  split
  · exact pk_un h
  · rfl
theorem onL_out (fo se : Int32) {k i : Nat} (S : xN × Int32) (h : i < 17 ∨ 25 ≤ i) : ∀ q, q ≤ 8 → (onL fo se k S q).1 i = S.1 i
  | 0, _ => rfl
  | q + 1, hq => by rw [onL, onS_out fo se _ (by omega), onL_out fo se S h q (by omega)]
theorem haltA_out (N : xN) {k c h i : Nat} (hi : i ≠ 93 + 4 * h ∧ i ≠ 93 + 4 * h + 1 ∧ i ≠ 93 + 4 * h + 2 ∧ i ≠ 93 + 4 * h + 3 ∧ i ≠ 7 + k ∧ i ≠ 5 + k ∧ i ≠ 67 + c) : haltA N k c h i = N i := by
  unfold haltA
  try dsimp only
  rw [pk_un (by omega), pk_un (by omega), pk_un (by omega), pk_un (by omega), pk_un (by omega), pk_un (by omega), pk_un (by omega)]
theorem haltA_7 (N : xN) {k c h : Nat} (hk : k < 2) : haltA N k c h (7 + k) = N (7 + k) + 1 := by
  unfold haltA
  try dsimp only
  rw [pk_un (by omega), pk_un (by omega), pk_us, pk_un (by omega), pk_un (by omega), pk_un (by omega), pk_un (by omega)]
theorem haltP_out (fo se : Int32) (pe N : xN) {k c h i : Nat} (hk : k < 2) (hi : i < 5 ∨ 33 ≤ i ∧ i < 67) : haltP fo se pe N k c h i = N i := by
  rw [haltP, onL_out _ _ _ (by omega) 8 (by omega), offL_out _ _ _ (by omega) 8 (by omega)]
  exact haltA_out N (by omega)
theorem haltP_7 (fo se : Int32) (pe N : xN) {k c h : Nat} (hk : k < 2) : haltP fo se pe N k c h 7 + haltP fo se pe N k c h 8 = N 7 + N 8 + 1 := by
  have e : ∀ i, i = 7 ∨ i = 8 → haltP fo se pe N k c h i = haltA N k c h i := by
    intro i hi
    rw [haltP, onL_out _ _ _ (by omega) 8 (by omega), offL_out _ _ _ (by omega) 8 (by omega)]
  rw [e 7 (by omega), e 8 (by omega)]
  rcases (show k = 0 ∨ k = 1 by omega) with rfl | rfl
  · rw [show haltA N 0 c h 7 = N 7 + 1 from haltA_7 N (k := 0) (by omega), haltA_out N (k := 0) (i := 8) (by omega)]
    rw [Int32.add_assoc, Int32.add_assoc, Int32.add_comm 1 (N 8)]
  · rw [show haltA N 1 c h 8 = N 8 + 1 from haltA_7 N (k := 1) (by omega), haltA_out N (k := 1) (i := 7) (by omega)]
    rw [Int32.add_assoc]
theorem abO_of {N B : xN} (h : abO N) (e : ∀ i, 17 ≤ i → i < 25 → B i = N i) : abO B := fun p hp => by
  rw [e (17 + p) (by omega) (by omega)]; exact h p hp
theorem offL_abO (fo : Int32) (pe : xN) {k : Nat} (hk : k < 2) (N : xN) (h : abO N) : ∀ q, q ≤ 8 → abO (offL fo pe k N q).1
  | 0, _ => h
  | q + 1, hq => by
    have ih := offL_abO fo pe hk N h q (by omega)
    rw [offL]
    generalize offL fo pe k N q = S at ih ⊢
    intro p hp
    by_cases e : p = q
    · subst e
      unfold offS
      split
      · split
        · left
          show offT S.1 k p (17 + p) = -1
          unfold offT; (try dsimp only); rw [pk_us]
        · right
          show offU S.1 k p (17 + p) = nI 0 ∨ offU S.1 k p (17 + p) = nI 1
          unfold offU; (try dsimp only); rw [pk_us]
          rcases (show k = 0 ∨ k = 1 by omega) with rfl | rfl
          · exact Or.inl rfl
          · exact Or.inr rfl
      · exact ih p hp
    · have e2 : (offS fo pe k q S).1 (17 + p) = S.1 (17 + p) := by
        unfold offS
        split
        · split
          · show offT S.1 k q (17 + p) = _
            unfold offT; (try dsimp only); rw [pk_un (by omega), pk_un (by omega), pk_un (by omega)]
          · show offU S.1 k q (17 + p) = _
            unfold offU; (try dsimp only); rw [pk_un (by omega), pk_un (by omega), pk_un (by omega)]
        · rfl
      rw [e2]; exact ih p hp
theorem onL_abO (fo se : Int32) {k : Nat} (hk : k < 2) (S : xN × Int32) (h : abO S.1) : ∀ q, q ≤ 8 → abO (onL fo se k S q).1
  | 0, _ => h
  | q + 1, hq => by
    have ih := onL_abO fo se hk S h q (by omega)
    rw [onL]
    generalize onL fo se k S q = B at ih ⊢
    intro p hp
    by_cases e : p = q
    · subst e
      unfold onS
      split
      · right
        show upd B.1 (17 + p) (nI k) (17 + p) = nI 0 ∨ upd B.1 (17 + p) (nI k) (17 + p) = nI 1
        rw [pk_us]
        rcases (show k = 0 ∨ k = 1 by omega) with rfl | rfl
        · exact Or.inl rfl
        · exact Or.inr rfl
      · exact ih p hp
    · rw [onS_out fo se B (by omega)]; exact ih p hp
theorem haltP_abO (fo se : Int32) (pe N : xN) {k c h : Nat} (hk : k < 2) (hN : abO N) : abO (haltP fo se pe N k c h) :=
  onL_abO fo se hk _ (offL_abO fo pe hk _ (abO_of hN (fun i h1 h2 => haltA_out N (by omega))) 8 (by omega)) 8 (by omega)
theorem goOnP_abO (pl fo fa : Int32) (N : xN) {k : Nat} (hk : k < 2) (hN : abO N) : abO (goOnP pl fo fa N k) := abO_of hN (fun i h1 h2 => goOnP_out pl fo fa N hk (by omega))
def feltF (mo N : xN) (k : Nat) : xN := if mo (3 * k + 2) = N 0 then upd N (41 + k) (plP N (mo (3 * k)).toNatClampNeg) else N
def feltL (mo N : xN) : Nat → xN
  | 0 => N
  | k + 1 => feltF mo (feltL mo N k) k
theorem feltL_out (mo N : xN) {i : Nat} (h : i < 41 ∨ 67 ≤ i) : ∀ k, k ≤ 26 → feltL mo N k i = N i
  | 0, _ => rfl
  | k + 1, hk => by
    rw [feltL, feltF]
    split
    · rw [pk_un (by omega), feltL_out mo N h k (by omega)]
    · exact feltL_out mo N h k (by omega)
/-- tram k in its minute -/
def tramF (s : xN) (a : Nat → xN) (m : Nat) (N : xN) (k : Nat) : xN :=
  if hasP (s 5) (nI k) = true ∧ a 6 (3 * k + 1) ≤ N 0 then
    (if N (5 + k) = 1 ∨ caP (s 30) (s 31) (a 10) N (N (1 + k)) m = -1 then goOnP (s 0) (s 7) (s 4) N k else haltP (s 7) (s 3) (a 8) N k (caP (s 30) (s 31) (a 10) N (N (1 + k)) m).toNatClampNeg (N 7 + N 8).toNatClampNeg)
  else N
def minP (s : xN) (a : Nat → xN) (m : Nat) (N : xN) : xN := upd (tramF s a m (tramF s a m (feltL (a 10) N m) 0) 1) 0 (tramF s a m (tramF s a m (feltL (a 10) N m) 0) 1 0 + 1)
theorem tramF_abO (s : xN) (a : Nat → xN) (m : Nat) (N : xN) {k : Nat} (hk : k < 2) (hN : abO N) : abO (tramF s a m N k) := by
  unfold tramF
  split
  · split
    · exact goOnP_abO _ _ _ _ hk hN
    · exact haltP_abO _ _ _ _ hk hN
  · exact hN
theorem tramF_hm (s : xN) (a : Nat → xN) (m : Nat) (N : xN) {k h : Nat} (hk : k < 2) (hh : N 7 + N 8 = nI h) : ∃ h', h ≤ h' ∧ h' ≤ h + 1 ∧ tramF s a m N k 7 + tramF s a m N k 8 = nI h' := by
  unfold tramF
  split
  · split
    · refine ⟨h, by omega, by omega, ?_⟩
      rw [goOnP_out _ _ _ _ hk (by omega), goOnP_out _ _ _ _ hk (by omega)]; exact hh
    · refine ⟨h + 1, by omega, by omega, ?_⟩
      rw [haltP_7 _ _ _ _ hk, hh, nI_1]
  · exact ⟨h, by omega, by omega, hh⟩

/-- what a minute needs of the moods and the day -/
def okD (s : xN) (a : Nat → xN) (m : Nat) : Prop := s 32 = nI m ∧ m ≤ 26 ∧ ∀ k, k < m → ∃ p, p < 8 ∧ a 10 (3 * k) = nI p
theorem feltL_abO (mo N : xN) (hN : abO N) {k : Nat} (hk : k ≤ 26) : abO (feltL mo N k) := abO_of hN (fun i h1 h2 => feltL_out mo N (by omega) k hk)
set_option maxHeartbeats 4000000 in
theorem c8_goMinute (L : xLn) (s : xN) (j : Int64) (a : Nat → xN) (N : xN) (m h : Nat) (hok : okD s a m) (hN : abO N) (hh : N 7 + N 8 = nI h) (hh2 : h + 2 ≤ 120) : CT L mX8_goMinute 2 0 0 [.ref 0] (modN s j a N) (fun r Y => r = none ∧ Y = modN s j a (minP s a m N)) := by
  obtain ⟨hs, hm, hmo⟩ := hok
  refine CT.of rfl (Nat.le_of_ble_eq_true rfl) (Nat.le_of_ble_eq_true rfl) ?_
  have fin : ∀ (x2 : Option Value), AJ L mX8_goMinute 2 0 0 (fun r Y => r = none ∧ Y = modN s j a (minP s a m N)) (modN s j a N).length (0, 0) 58 [some (.ref 0), some (.int (nI 2)), x2] [] (modN s j a (tramF s a m (tramF s a m (feltL (a 10) N m) 0) 1)) := by
    intro x2
    exact AJ.run kX8_goMinute [58] 60 ⟨fun _ => ⟨0, rfl, by omega, 0, rfl, by omega, rfl, rfl⟩, fun hz => absurd (by decide) hz⟩
  -- one tram
  have tr : ∀ (k : Nat) (B : xN) (h : Nat) (x2 : Option Value), k < 2 → xokv 13 (x2.getD .null) = true → abO B → B 7 + B 8 = nI h → h < 120 → (∀ x2' : Option Value, xokv 13 (x2'.getD .null) = true → AJ L mX8_goMinute 2 0 0 (fun r Y => r = none ∧ Y = modN s j a (minP s a m N)) (modN s j a N).length (0, 0) 58 [some (.ref 0), some (.int (nI (k + 1))), x2'] [] (modN s j a (tramF s a m B k))) → AJ L mX8_goMinute 2 0 0 (fun r Y => r = none ∧ Y = modN s j a (minP s a m N)) (modN s j a N).length (0, 0) 58 [some (.ref 0), some (.int (nI k)), x2] [] (modN s j a B) := by
    intro k B h x2 hk hx hB hh hh2 nxt
    rw [nI_succ] at nxt
    have wf : xwf (modN s j a B) [some (.ref 0), some (.int (nI k)), x2] [] = true := by
      cases x2 with
      | none => rfl
      | some u => simpa [xwf, xokv, modN, modW, xoke] using hx
    refine AJ.run kX8_goMinute [58] 60 ⟨fun hz => absurd hz (nI_ge (b := 2) (by omega) (by omega)), fun hz => ?_⟩
    refine AJ.callS kX8_goMinute (c8_has L (s 5) (nI k)) bX8_has rfl (by decide +kernel) [] [] rfl rfl rfl rfl wf rfl rfl ?_
    rintro r Y ⟨rfl, rfl⟩
    have skip : ¬ (hasP (s 5) (nI k) = true ∧ a 6 (3 * k + 1) ≤ B 0) → AJ L mX8_goMinute 2 0 0 (fun r Y => r = none ∧ Y = modN s j a (minP s a m N)) (modN s j a N).length (0, 0) 141 [some (.ref 0), some (.int (nI k)), x2] [] (modN s j a B) := by
      intro hn
      have := nxt x2 hx
      rw [tramF, if_neg hn] at this
      exact AJ.run kX8_goMinute [58] 60 this
    refine ⟨rfl, AJ.run kX8_goMinute [58, 141, 121] 60 ⟨fun h3 => skip ?_, fun h3 => ⟨3 * k + 1, by simp only [fa_lit, nI_add, pk_mul], by omega, 0, rfl, by omega, fun h4 => skip ?_, fun h4 => ?_⟩⟩⟩
    · rw [bI_eq0] at h3
      simp [h3]
    · have h4 : B 0 < a 6 (3 * k + 1) := h4
      rintro ⟨-, h5⟩
      simp only [i32_lt, i32_le] at h4 h5
      omega
    have h4 : ¬ B 0 < a 6 (3 * k + 1) := h4
    have h5 : a 6 (3 * k + 1) ≤ B 0 := by
      simp only [i32_lt, i32_le] at h4 ⊢
      omega
    rw [bI_ne0] at h3
    have nxt2 : ∀ x2' : Option Value, xokv 13 (x2'.getD .null) = true → AJ L mX8_goMinute 2 0 0 (fun r Y => r = none ∧ Y = modN s j a (minP s a m N)) (modN s j a N).length (0, 0) 58 [some (.ref 0), some (.int (nI k + 1)), x2'] [] (modN s j a (if B (5 + k) = 1 ∨ caP (s 30) (s 31) (a 10) B (B (1 + k)) m = -1 then goOnP (s 0) (s 7) (s 4) B k else haltP (s 7) (s 3) (a 8) B k (caP (s 30) (s 31) (a 10) B (B (1 + k)) m).toNatClampNeg (B 7 + B 8).toNatClampNeg)) := by
      intro x2' hx'
      have := nxt x2' hx'
      rw [tramF, if_pos ⟨h3, h5⟩] at this
      exact this
    -- behind the cause
    have cz : ∀ c : Int32, (c = -1 ∨ ∃ q, q < 26 ∧ c = nI q) → (∀ x2' : Option Value, xokv 13 (x2'.getD .null) = true → AJ L mX8_goMinute 2 0 0 (fun r Y => r = none ∧ Y = modN s j a (minP s a m N)) (modN s j a N).length (0, 0) 58 [some (.ref 0), some (.int (nI k + 1)), x2'] [] (modN s j a (if c = -1 then goOnP (s 0) (s 7) (s 4) B k else haltP (s 7) (s 3) (a 8) B k c.toNatClampNeg (B 7 + B 8).toNatClampNeg))) → AJ L mX8_goMinute 2 0 0 (fun r Y => r = none ∧ Y = modN s j a (minP s a m N)) (modN s j a N).length (0, 0) 121 [some (.ref 0), some (.int (nI k)), x2] [.int c] (modN s j a B) := by
      intro c hc n3
      refine AJ.run kX8_goMinute [58] 60 ⟨fun h6 => ?_, fun h6 => ?_⟩
      · rcases hc with h7 | ⟨q, hq, rfl⟩
        · exact absurd h7 h6
        have n3 := n3 (some (.int (nI q))) rfl
        rw [if_neg h6, hh, nI_clamp (by omega), nI_clamp (by omega)] at n3
        refine AJ.callV kX8_goMinute (c8_haltBy L s j a B k q h hk hq hh hh2) bX8_haltBy rfl (by decide +kernel) [0, 1, 2, 3, 4, 5, 6, 7, 8, 9, 10, 11, 12] [] rfl rfl rfl rfl rfl rfl rfl rfl rfl rfl ?_
        rintro r Y ⟨rfl, rfl⟩
        exact ⟨rfl, AJ.run kX8_goMinute [58] 60 n3⟩
      · have h6 : c = -1 := h6
        subst h6
        have n3 := n3 (some (.int (-1))) rfl
        rw [if_pos rfl] at n3
        refine AJ.callV kX8_goMinute (c8_goOn L s j a B k hk) bX8_goOn rfl (by decide +kernel) [0, 1, 2, 3, 4, 5, 6, 7, 8, 9, 10, 11, 12] [] rfl rfl rfl rfl rfl rfl rfl rfl rfl rfl ?_
        rintro r Y ⟨rfl, rfl⟩
        exact ⟨rfl, AJ.run kX8_goMinute [58] 60 n3⟩
    refine ⟨5 + k, nI_add 5 k, by omega, fun h6 => ?_, fun h6 => ?_⟩
    · have h6 : ¬ B (5 + k) = 1 := h6
      refine ⟨1 + k, nI_add 1 k, by omega, ?_⟩
      refine AJ.callV kX8_goMinute (c8_causeOf L s j a B (B (1 + k)) m hs hm) bX8_causeOf rfl (by decide +kernel) [0, 1, 2, 3, 4, 5, 6, 7, 8, 9, 10, 11, 12] [] rfl rfl rfl rfl rfl rfl rfl wf rfl rfl ?_
      rintro r Y ⟨rfl, rfl⟩
      refine ⟨rfl, cz _ ?_ (fun x2' hx' => ?_)⟩
      · rcases caP_in (s 30) (s 31) (a 10) B (B (1 + k)) m with h7 | ⟨q, h7, h8⟩
        · exact Or.inl h7
        · exact Or.inr ⟨q, by omega, h8⟩
      · have n4 := nxt2 x2' hx'
        by_cases h9 : caP (s 30) (s 31) (a 10) B (B (1 + k)) m = -1
        · rw [if_pos (Or.inr h9)] at n4
          rw [if_pos h9]; exact n4
        · rw [if_neg (by rintro (q | q); exact h6 q; exact h9 q)] at n4
          rw [if_neg h9]; exact n4
    · have h6 : B (5 + k) = 1 := h6
      refine cz (-1) (Or.inl rfl) (fun x2' hx' => ?_)
      have n4 := nxt2 x2' hx'
      rw [if_pos (Or.inl h6)] at n4
      rw [if_pos rfl]; exact n4
  -- the moods
  have l1 : ∀ (n k : Nat), k + n = m → AJ L mX8_goMinute 2 0 0 (fun r Y => r = none ∧ Y = modN s j a (minP s a m N)) (modN s j a N).length (0, 0) 2 [some (.ref 0), some (.int (nI k)), none] [] (modN s j a (feltL (a 10) N k)) := by
    intro n
    induction n with
    | zero =>
      intro k hk
      obtain rfl : k = m := by omega
      refine AJ.run kX8_goMinute [2, 58] 60 ⟨fun _ => ?_, fun hz => absurd ?_ hz⟩
      · have a1 := feltL_abO (a 10) N hN (k := k) hm
        have e7 : feltL (a 10) N k 7 + feltL (a 10) N k 8 = nI h := by rw [feltL_out _ _ (by omega) k hm, feltL_out _ _ (by omega) k hm]; exact hh
        obtain ⟨h', q1, q2, q3⟩ := tramF_hm s a k (feltL (a 10) N k) (k := 0) (by omega) e7
        exact tr 0 _ h none (by omega) rfl a1 e7 (by omega) (fun x2' hx' => tr 1 _ h' x2' (by omega) hx' (tramF_abO s a k _ (by omega) a1) q3 (by omega) (fun x2'' _ => fin x2''))
      · show s 32 ≤ nI k
        rw [hs]; exact nI_le (by omega) (by omega)
    | succ n ih =>
      intro k hk
      have h2 := ih (k + 1) (by omega)
      rw [nI_succ, feltL] at h2
      have hab := feltL_abO (a 10) N hN (k := k) (by omega)
      generalize feltL (a 10) N k = B at h2 hab ⊢
      obtain ⟨p, hp1, hp2⟩ := hmo k (by omega)
      refine AJ.run kX8_goMinute [2] 60 ⟨fun hz => absurd hz ?_, fun hz => ⟨3 * k + 2, by simp only [fa_lit, nI_add, pk_mul], by omega, 0, rfl, by omega, fun h3 => ?_, fun h3 => ⟨3 * k, by simp only [fa_lit, pk_mul], by omega, ?_⟩⟩⟩
      · show ¬ s 32 ≤ nI k
        rw [hs]; exact nI_ge (by omega) (by omega)
      · have h3 : ¬ a 10 (3 * k + 2) = B 0 := h3
        rw [feltF, if_neg h3] at h2
        exact h2
      · have h3 : a 10 (3 * k + 2) = B 0 := h3
        rw [feltF, if_pos h3, hp2, nI_clamp (by omega)] at h2
        have cc := c8_placeNow L s j a B p hp1 hab
        rw [← hp2] at cc
        refine AJ.callV kX8_goMinute cc bX8_placeNow rfl (by decide +kernel) [0, 1, 2, 3, 4, 5, 6, 7, 8, 9, 10, 11, 12] [.int (41 + nI k), .ref 7] rfl rfl rfl rfl rfl rfl rfl rfl rfl rfl ?_
        rintro r Y ⟨rfl, rfl⟩
        exact ⟨rfl, AJ.run kX8_goMinute [2] 60 ⟨41 + k, nI_add 41 k, by omega, h2⟩⟩
  exact AJ.run kX8_goMinute [2] 60 (l1 m 0 (by omega))
end
section
/-! ===== the reference: days, and what is asked of them ===== -/
theorem tramF_out (s : xN) (a : Nat → xN) (m : Nat) (N : xN) {k i : Nat} (hk : k < 2) (hi : i = 0 ∨ 41 ≤ i ∧ i < 67) : tramF s a m N k i = N i := by
  unfold tramF
  split
  · split
    · exact goOnP_out _ _ _ _ hk (by omega)
    · exact haltP_out _ _ _ _ hk (by omega)
  · rfl
theorem minP_0 (s : xN) (a : Nat → xN) (m : Nat) (N : xN) (hm : m ≤ 26) : minP s a m N 0 = N 0 + 1 := by
  rw [minP, pk_us, tramF_out s a m _ (by omega) (by omega), tramF_out s a m _ (by omega) (by omega), feltL_out _ _ (by omega) m hm]
/-- a day as it can be: the minute, who is aboard, how many halts -/
def okN (N : xN) : Prop := abO N ∧ ∃ g h : Nat, N 0 = nI g ∧ g ≤ 60 ∧ N 7 + N 8 = nI h ∧ h ≤ 2 * g
theorem minP_ok (s : xN) (a : Nat → xN) (m : Nat) (N : xN) (hm : m ≤ 26) (hN : okN N) (h60 : N 0 < 60) : okN (minP s a m N) := by
  obtain ⟨h1, g, h, e1, e2, e3, e4⟩ := hN
  have hg : g < 60 := by
    rw [e1, i32_lt, nI_toInt (by omega)] at h60
    have : (60 : Int32).toInt = 60 := rfl
    omega
  have a1 := feltL_abO (a 10) N h1 (k := m) hm
  have e7 : feltL (a 10) N m 7 + feltL (a 10) N m 8 = nI h := by rw [feltL_out _ _ (by omega) m hm, feltL_out _ _ (by omega) m hm]; exact e3
  obtain ⟨h', p1, p2, p3⟩ := tramF_hm s a m (feltL (a 10) N m) (k := 0) (by omega) e7
  obtain ⟨h'', q1, q2, q3⟩ := tramF_hm s a m (tramF s a m (feltL (a 10) N m) 0) (k := 1) (by omega) p3
  refine ⟨?_, g + 1, h'', ?_, by omega, ?_, by omega⟩
  · refine abO_of (tramF_abO s a m _ (k := 1) (by omega) (tramF_abO s a m _ (k := 0) (by omega) a1)) (fun i h1 h2 => ?_)
    rw [minP, pk_un (by omega)]
  · rw [minP_0 s a m N hm, e1, nI_1]
  · rw [minP, pk_un (by omega), pk_un (by omega)]; exact q3
/-- n minutes, no more than are left -/
def goL (s : xN) (a : Nat → xN) (m : Nat) (N : xN) : Nat → xN
  | 0 => N
  | n + 1 => if goL s a m N n 0 < 60 then minP s a m (goL s a m N n) else goL s a m N n
theorem goL_ok (s : xN) (a : Nat → xN) (m : Nat) (N : xN) (hm : m ≤ 26) (hN : okN N) : ∀ n, okN (goL s a m N n)
  | 0 => hN
  | n + 1 => by
    rw [goL]
    split
    · next h => exact minP_ok s a m _ hm (goL_ok s a m N hm hN n) h
    · exact goL_ok s a m N hm hN n

def cpL (f : xN) (x : Nat) (g : xN) (y : Nat) : Nat → xN
  | 0 => g
  | k + 1 => upd (cpL f x g y k) (y + k) (f (x + k))
theorem cpL_at (f : xN) (x : Nat) (g : xN) (y i : Nat) : ∀ k, cpL f x g y k i = if y ≤ i ∧ i < y + k then f (x + (i - y)) else g i
  | 0 => by rw [cpL, if_neg (by omega)]
  | k + 1 => by
    rw [cpL]
    by_cases h : i = y + k
    · subst h
      rw [pk_us, if_pos (by omega), Nat.add_sub_cancel_left]
    · rw [pk_un h, cpL_at f x g y i k]
      by_cases h2 : y ≤ i ∧ i < y + k
      · rw [if_pos h2, if_pos (by omega)]
      · rw [if_neg h2, if_neg (by omega)]
theorem c8_copy_573_573 (L : xLn) (f g : xN) (x y : Nat) (hx : x + 573 ≤ 573) (hy : y + 573 ≤ 573) : CT L mX8_copy 0 0 0 [.ref 0, .int (nI x), .ref 1, .int (nI y)] [.inl (0, 573, f), .inl (0, 573, g)] (fun r Y => r = none ∧ Y = [.inl (0, 573, f), .inl (0, 573, cpL f x g y 573)]) := by
  refine CT.of rfl (Nat.le_of_ble_eq_true rfl) (Nat.le_of_ble_eq_true rfl) ?_
  have loop : ∀ (n k : Nat), k + n = 573 → AJ L mX8_copy 0 0 0 (fun r Y => r = none ∧ Y = [.inl (0, 573, f), .inl (0, 573, cpL f x g y 573)]) 2 (0, 0) 3 [some (.ref 0), some (.int (nI x)), some (.ref 1), some (.int (nI y)), some (.int (nI k))] [] [.inl (0, 573, f), .inl (0, 573, cpL f x g y k)] := by
    intro n
    induction n with
    | zero =>
      intro k hk
      obtain rfl : k = 573 := by omega
      exact AJ.run kX8_copy [3] 60 ⟨fun _ => ⟨rfl, rfl⟩, fun h => absurd (by decide) h⟩
    | succ n ih =>
      intro k hk
      have h2 := ih (k + 1) (by omega)
      rw [nI_succ] at h2
      exact AJ.run kX8_copy [3] 60 ⟨fun h => absurd h (nI_ge (b := 573) (by omega) (by omega)), fun _ => ⟨x + k, nI_add x k, by omega, y + k, nI_add y k, by omega, h2⟩⟩
  exact AJ.run kX8_copy [3] 60 (loop 573 0 rfl)
theorem c8_copy_573_1146 (L : xLn) (f g : xN) (x y : Nat) (hx : x + 573 ≤ 573) (hy : y + 573 ≤ 1146) : CT L mX8_copy 0 0 0 [.ref 0, .int (nI x), .ref 1, .int (nI y)] [.inl (0, 573, f), .inl (0, 1146, g)] (fun r Y => r = none ∧ Y = [.inl (0, 573, f), .inl (0, 1146, cpL f x g y 573)]) := by
  refine CT.of rfl (Nat.le_of_ble_eq_true rfl) (Nat.le_of_ble_eq_true rfl) ?_
  have loop : ∀ (n k : Nat), k + n = 573 → AJ L mX8_copy 0 0 0 (fun r Y => r = none ∧ Y = [.inl (0, 573, f), .inl (0, 1146, cpL f x g y 573)]) 2 (0, 0) 3 [some (.ref 0), some (.int (nI x)), some (.ref 1), some (.int (nI y)), some (.int (nI k))] [] [.inl (0, 573, f), .inl (0, 1146, cpL f x g y k)] := by
    intro n
    induction n with
    | zero =>
      intro k hk
      obtain rfl : k = 573 := by omega
      exact AJ.run kX8_copy [3] 60 ⟨fun _ => ⟨rfl, rfl⟩, fun h => absurd (by decide) h⟩
    | succ n ih =>
      intro k hk
      have h2 := ih (k + 1) (by omega)
      rw [nI_succ] at h2
      exact AJ.run kX8_copy [3] 60 ⟨fun h => absurd h (nI_ge (b := 573) (by omega) (by omega)), fun _ => ⟨x + k, nI_add x k, by omega, y + k, nI_add y k, by omega, h2⟩⟩
  exact AJ.run kX8_copy [3] 60 (loop 573 0 rfl)
theorem c8_copy_1146_573 (L : xLn) (f g : xN) (x y : Nat) (hx : x + 573 ≤ 1146) (hy : y + 573 ≤ 573) : CT L mX8_copy 0 0 0 [.ref 0, .int (nI x), .ref 1, .int (nI y)] [.inl (0, 1146, f), .inl (0, 573, g)] (fun r Y => r = none ∧ Y = [.inl (0, 1146, f), .inl (0, 573, cpL f x g y 573)]) := by
  refine CT.of rfl (Nat.le_of_ble_eq_true rfl) (Nat.le_of_ble_eq_true rfl) ?_
  have loop : ∀ (n k : Nat), k + n = 573 → AJ L mX8_copy 0 0 0 (fun r Y => r = none ∧ Y = [.inl (0, 1146, f), .inl (0, 573, cpL f x g y 573)]) 2 (0, 0) 3 [some (.ref 0), some (.int (nI x)), some (.ref 1), some (.int (nI y)), some (.int (nI k))] [] [.inl (0, 1146, f), .inl (0, 573, cpL f x g y k)] := by
    intro n
    induction n with
    | zero =>
      intro k hk
      obtain rfl : k = 573 := by omega
      exact AJ.run kX8_copy [3] 60 ⟨fun _ => ⟨rfl, rfl⟩, fun h => absurd (by decide) h⟩
    | succ n ih =>
      intro k hk
      have h2 := ih (k + 1) (by omega)
      rw [nI_succ] at h2
      exact AJ.run kX8_copy [3] 60 ⟨fun h => absurd h (nI_ge (b := 573) (by omega) (by omega)), fun _ => ⟨x + k, nI_add x k, by omega, y + k, nI_add y k, by omega, h2⟩⟩
  exact AJ.run kX8_copy [3] 60 (loop 573 0 rfl)
/-- a whole day, now set aside -/
theorem c8_goDay (L : xLn) (s : xN) (j : Int64) (a : Nat → xN) (N : xN) (m : Nat) (hok : okD s a m) (hb : okN (beginP (a 6) (a 8) N)) : CT L mX8_goDay 3 0 0 [.ref 0] (modN s j a N) (fun r Y => r = none ∧ ∃ n, ¬ goL s a m (beginP (a 6) (a 8) N) n 0 < 60 ∧ Y = modN s j (va_up a 27 (cpL N 0 (a 27) 0 573)) (goL s a m (beginP (a 6) (a 8) N) n)) := by
  refine CT.of rfl (Nat.le_of_ble_eq_true rfl) (Nat.le_of_ble_eq_true rfl) ?_
  refine AJ.run kX8_goDay [] 60 ?_
  refine AJ.callS kX8_goDay (c8_copy_573_573 L N (a 27) 0 0 (by omega) (by omega)) bX8_copy rfl (by decide +kernel) [7, 8] [] rfl rfl rfl rfl rfl rfl rfl ?_
  rintro r Y ⟨rfl, rfl⟩
  refine ⟨rfl, AJ.run kX8_goDay [] 60 ?_⟩
  refine AJ.callV kX8_goDay (c8_begin L s j (va_up a 27 (cpL N 0 (a 27) 0 573)) N) bX8_begin rfl (by decide +kernel) [0, 1, 2, 3, 4, 5, 6, 7, 8, 9, 10, 11, 12] [] rfl rfl rfl rfl rfl rfl rfl rfl rfl rfl ?_
  rintro r Y ⟨rfl, rfl⟩
  refine ⟨rfl, ?_⟩
  have hok2 : okD s (va_up a 27 (cpL N 0 (a 27) 0 573)) m := hok
  have e1 : ∀ B, minP s (va_up a 27 (cpL N 0 (a 27) 0 573)) m B = minP s a m B := fun B => rfl
  have loop : ∀ (f n : Nat), (∃ g, goL s a m (beginP (a 6) (a 8) N) n 0 = nI g ∧ g ≤ 60 ∧ 60 < g + f) → AJ L mX8_goDay 3 0 0 (fun r Y => r = none ∧ ∃ n, ¬ goL s a m (beginP (a 6) (a 8) N) n 0 < 60 ∧ Y = modN s j (va_up a 27 (cpL N 0 (a 27) 0 573)) (goL s a m (beginP (a 6) (a 8) N) n)) (modN s j a N).length (0, 0) 17 [some (.ref 0)] [] (modN s j (va_up a 27 (cpL N 0 (a 27) 0 573)) (goL s a m (beginP (a 6) (a 8) N) n)) := by
    intro f
    induction f with
    | zero => rintro n ⟨g, -, h1, h2⟩; omega
    | succ f ih =>
      rintro n ⟨g, h1, h2, h3⟩
      have okn := goL_ok s a m (beginP (a 6) (a 8) N) hok.2.1 hb n
      refine AJ.run kX8_goDay [17] 60 ⟨0, rfl, by omega, fun h => ⟨rfl, n, ?_, rfl⟩, fun h => ?_⟩
      · have h : (60 : Int32) ≤ goL s a m (beginP (a 6) (a 8) N) n 0 := h
        simp only [i32_lt, i32_le] at h ⊢
        omega
      · have h : ¬ (60 : Int32) ≤ goL s a m (beginP (a 6) (a 8) N) n 0 := h
        have hl : goL s a m (beginP (a 6) (a 8) N) n 0 < 60 := by
          simp only [i32_lt, i32_le] at h ⊢
          omega
        have hg : g < 60 := by
          rw [h1, i32_lt, nI_toInt (by omega)] at hl
          have : (60 : Int32).toInt = 60 := rfl
          omega
        obtain ⟨ab, g', h', e2, e3, e4, e5⟩ := okn
        have hgg : g = g' := by
          have := h1.symm.trans e2
          exact (nI_eq (by omega) (by omega)).mp this
        have n2 := ih (n + 1) ⟨g + 1, by rw [goL, if_pos hl, minP_0 s a m _ hok.2.1, h1, nI_1], by omega, by omega⟩
        rw [show goL s a m (beginP (a 6) (a 8) N) (n + 1) = (if goL s a m (beginP (a 6) (a 8) N) n 0 < 60 then minP s a m (goL s a m (beginP (a 6) (a 8) N) n) else goL s a m (beginP (a 6) (a 8) N) n) from rfl, if_pos hl] at n2
        refine AJ.callV kX8_goDay (c8_goMinute L s j (va_up a 27 (cpL N 0 (a 27) 0 573)) (goL s a m (beginP (a 6) (a 8) N) n) m h' hok2 ab e4 (by omega)) bX8_goMinute rfl (by decide +kernel) [0, 1, 2, 3, 4, 5, 6, 7, 8, 9, 10, 11, 12] [] rfl rfl rfl rfl rfl rfl rfl rfl rfl rfl ?_
        rintro r Y ⟨rfl, rfl⟩
        exact ⟨rfl, AJ.run kX8_goDay [17] 60 n2⟩
  obtain ⟨-, g, h, e2, e3, -⟩ := hb
  exact loop 61 0 ⟨g, e2, e3, by omega⟩
theorem c8_putBack (L : xLn) (s : xN) (j : Int64) (a : Nat → xN) (N : xN) : CT L mX8_putBack 1 0 0 [.ref 0] (modN s j a N) (fun r Y => r = none ∧ Y = modN s j a (cpL (a 27) 0 N 0 573)) := by
  refine CT.of rfl (Nat.le_of_ble_eq_true rfl) (Nat.le_of_ble_eq_true rfl) ?_
  refine AJ.run kX8_putBack [] 60 ?_
  refine AJ.callS kX8_putBack (c8_copy_573_573 L (a 27) N 0 0 (by omega) (by omega)) bX8_copy rfl (by decide +kernel) [8, 7] [] rfl rfl rfl rfl rfl rfl rfl ?_
  rintro r Y ⟨rfl, rfl⟩
  exact ⟨rfl, AJ.run kX8_putBack [] 60 ⟨rfl, rfl⟩⟩
end
section
/-! ===== the reference: the day from its begin; small public methods ===== -/
theorem bg1_out (tr N : xN) {i : Nat} : ∀ k, k ≤ 2 → 9 ≤ i → bg1 tr N k i = N i
  | 0, _, h => by rw [bg1, pk_un (by omega)]
  | k + 1, hk, h => by rw [bg1, pk_un (by omega), pk_un (by omega), pk_un (by omega), pk_un (by omega), bg1_out tr N k (by omega) h]
theorem bg2_out (pe N : xN) {i : Nat} : ∀ k, k ≤ 8 → (i < 9 ∨ 41 ≤ i) → bg2 pe N k i = N i
  | 0, _, h => rfl
  | k + 1, hk, h => by rw [bg2, pk_un (by omega), pk_un (by omega), pk_un (by omega), pk_un (by omega), bg2_out pe N k (by omega) h]
theorem bg3_out (N : xN) {i : Nat} : ∀ k, k ≤ 26 → (i < 41 ∨ 93 ≤ i) → bg3 N k i = N i
  | 0, _, h => rfl
  | k + 1, hk, h => by rw [bg3, pk_un (by omega), pk_un (by omega), bg3_out N k (by omega) h]
theorem bg2_9 (pe N : xN) (p : Nat) : ∀ k, k ≤ 8 → p < k → bg2 pe N k (9 + p) = pe (2 * p) ∧ bg2 pe N k (17 + p) = -1 ∧ bg2 pe N k (25 + p) = -1 ∧ bg2 pe N k (33 + p) = 0
  | 0, _, h => by omega
  | k + 1, hk, h => by
    by_cases e : p = k
    · subst e
      simp only [bg2]
      refine ⟨?_, ?_, ?_, ?_⟩
      · rw [pk_un (by omega), pk_un (by omega), pk_un (by omega), pk_us]
      · rw [pk_un (by omega), pk_un (by omega), pk_us]
      · rw [pk_un (by omega), pk_us]
      · rw [pk_us]
    · have ih := bg2_9 pe N p k (by omega) (by omega)
      simp only [bg2]
      refine ⟨?_, ?_, ?_, ?_⟩
      · rw [pk_un (by omega), pk_un (by omega), pk_un (by omega), pk_un (by omega)]; exact ih.1
      · rw [pk_un (by omega), pk_un (by omega), pk_un (by omega), pk_un (by omega)]; exact ih.2.1
      · rw [pk_un (by omega), pk_un (by omega), pk_un (by omega), pk_un (by omega)]; exact ih.2.2.1
      · rw [pk_un (by omega), pk_un (by omega), pk_un (by omega), pk_un (by omega)]; exact ih.2.2.2
theorem bg3_41 (N : xN) (p : Nat) : ∀ k, k ≤ 26 → p < k → bg3 N k (41 + p) = -1 ∧ bg3 N k (67 + p) = 0
  | 0, _, h => by omega
  | k + 1, hk, h => by
    by_cases e : p = k
    · subst e
      simp only [bg3]
      exact ⟨by rw [pk_un (by omega), pk_us], pk_us⟩
    · have ih := bg3_41 N p k (by omega) (by omega)
      simp only [bg3]
      exact ⟨by rw [pk_un (by omega), pk_un (by omega)]; exact ih.1, by rw [pk_un (by omega), pk_un (by omega)]; exact ih.2⟩
/-- the begin, place by place -/
theorem begin_9 (tr pe N : xN) {p : Nat} (hp : p < 8) : beginP tr pe N (9 + p) = pe (2 * p) ∧ beginP tr pe N (17 + p) = -1 ∧ beginP tr pe N (25 + p) = -1 ∧ beginP tr pe N (33 + p) = 0 := by
  unfold beginP
  rw [bg3_out _ 26 (by omega) (by omega), bg3_out _ 26 (by omega) (by omega), bg3_out _ 26 (by omega) (by omega), bg3_out _ 26 (by omega) (by omega)]
  exact bg2_9 pe _ p 8 (by omega) hp
theorem begin_41 (tr pe N : xN) {p : Nat} (hp : p < 26) : beginP tr pe N (41 + p) = -1 ∧ beginP tr pe N (67 + p) = 0 := bg3_41 _ p 26 (by omega) hp
theorem begin_lo (tr pe N : xN) {i : Nat} (hi : i < 9) : beginP tr pe N i = bg1 tr N 2 i := by
  unfold beginP
  rw [bg3_out _ 26 (by omega) (by omega), bg2_out _ _ 8 (by omega) (by omega)]
theorem begin_0 (tr pe N : xN) : beginP tr pe N 0 = 0 ∧ beginP tr pe N 7 = 0 ∧ beginP tr pe N 8 = 0 := ⟨begin_lo tr pe N (by omega), begin_lo tr pe N (by omega), begin_lo tr pe N (by omega)⟩
theorem begin_tr (tr pe N : xN) {k : Nat} (hk : k < 2) : beginP tr pe N (1 + k) = tr (3 * k) ∧ beginP tr pe N (3 + k) = tr (3 * k + 2) ∧ beginP tr pe N (5 + k) = 0 := by
  rcases (show k = 0 ∨ k = 1 by omega) with rfl | rfl
  · exact ⟨begin_lo tr pe N (by omega), begin_lo tr pe N (by omega), begin_lo tr pe N (by omega)⟩
  · exact ⟨begin_lo tr pe N (by omega), begin_lo tr pe N (by omega), begin_lo tr pe N (by omega)⟩
theorem begin_hi (tr pe N : xN) {i : Nat} (hi : 93 ≤ i) : beginP tr pe N i = N i := by
  unfold beginP
  rw [bg3_out _ 26 (by omega) (by omega), bg2_out _ _ 8 (by omega) (by omega), bg1_out _ _ 2 (by omega) (by omega)]
theorem begin_ok (tr pe N : xN) : okN (beginP tr pe N) := by
  refine ⟨fun p hp => Or.inl (begin_9 tr pe N hp).2.1, 0, 0, (begin_0 tr pe N).1, by omega, ?_, by omega⟩
  rw [(begin_0 tr pe N).2.1, (begin_0 tr pe N).2.2]; rfl
theorem goL_0 (s : xN) (a : Nat → xN) (m : Nat) (N : xN) (hm : m ≤ 26) {g : Nat} (hg : N 0 = nI g) (h60 : g ≤ 60) : ∀ n, goL s a m N n 0 = nI (if g + n ≤ 60 then g + n else 60)
  | 0 => by rw [goL, hg, if_pos (by omega)]; rfl
  | n + 1 => by
    have ih := goL_0 s a m N hm hg h60 n
    rw [goL]
    by_cases h : g + n < 60
    · rw [if_pos (by omega)] at ih
      rw [if_pos (by rw [ih]; exact nI_lt (b := 60) h (by omega)), minP_0 s a m _ hm, ih, nI_1, if_pos (by omega)]; rfl
    · have e : (if g + n ≤ 60 then g + n else 60) = 60 := by split <;> omega
      rw [e] at ih
      rw [if_neg (by rw [ih]; decide), ih, if_neg]
      · omega
theorem goL_stop (s : xN) (a : Nat → xN) (m : Nat) (N : xN) {n : Nat} (h : ¬ goL s a m N n 0 < 60) : ∀ k, goL s a m N (n + k) = goL s a m N n
  | 0 => rfl
  | k + 1 => by
    have ih := goL_stop s a m N h k
    rw [← Nat.add_assoc, goL, ih, if_neg h]
/-- a whole day's end -/
def dayP (s : xN) (a : Nat → xN) (m : Nat) (N : xN) : xN := goL s a m (beginP (a 6) (a 8) N) 60
theorem dayP_of (s : xN) (a : Nat → xN) (m : Nat) (N : xN) (hm : m ≤ 26) {n : Nat} (h : ¬ goL s a m (beginP (a 6) (a 8) N) n 0 < 60) : goL s a m (beginP (a 6) (a 8) N) n = dayP s a m N := by
  have h60 : ¬ goL s a m (beginP (a 6) (a 8) N) 60 0 < 60 := by
    rw [goL_0 s a m _ hm (g := 0) (begin_0 _ _ _).1 (by omega), if_pos (by omega)]; decide
  have e1 := goL_stop s a m _ h 60
  have e2 := goL_stop s a m _ h60 n
  rw [Nat.add_comm] at e2
  rw [← e1, e2]; rfl
theorem c8_day (L : xLn) (s : xN) (j : Int64) (a : Nat → xN) (N : xN) (m : Nat) (hok : okD s a m) : CT L mX8_goDay 3 0 0 [.ref 0] (modN s j a N) (fun r Y => r = none ∧ Y = modN s j (va_up a 27 (cpL N 0 (a 27) 0 573)) (dayP s a m N)) := by
  have h := c8_goDay L s j a N m hok (begin_ok _ _ _)
  refine h.mono ?_
  rintro r Y ⟨h1, n, h2, h3⟩
  rw [dayP_of s a m N hok.2.1 h2] at h3
  exact ⟨h1, h3⟩
end
section
/-! ===== the reference: the rows behind the halts don't matter ===== -/
def agS (S : Nat → Prop) (N B : xN) : Prop := ∀ i, S i → N i = B i
theorem agS_upd {S : Nat → Prop} {N B : xN} (h : agS S N B) (k : Nat) {v w : Int32} (hv : v = w) : agS (fun i => S i ∨ i = k) (upd N k v) (upd B k w) := by
  intro i hi
  by_cases e : i = k
  · subst e; rw [pk_us, pk_us, hv]
  · rw [pk_un e, pk_un e]
    rcases hi with hi | hi
    · exact h i hi
    · exact absurd hi e
theorem agS_sub {S S' : Nat → Prop} {N B : xN} (h : agS S N B) (hs : ∀ i, S' i → S i) : agS S' N B := fun i hi => h i (hs i hi)
/-- two days that agree in all that counts, h halts long -/
abbrev agN (h : Nat) (N B : xN) : Prop := agS (fun i => i < 93 + 4 * h) N B
theorem ag_upd {h : Nat} {N B : xN} (hN : agN h N B) (k : Nat) {v w : Int32} (hv : v = w) : agN h (upd N k v) (upd B k w) := agS_sub (agS_upd hN k hv) (fun _ hi => Or.inl hi)
theorem plP_ag {h : Nat} {N B : xN} (hN : agN h N B) (ho : abO N) {p : Nat} (hp : p < 8) : plP N p = plP B p := by
  have e1 := hN (17 + p) (by omega)
  have e2 := hN (9 + p) (by omega)
  unfold plP
  rw [← e1, ← e2]
  rcases ho p hp with h1 | h1 | h1
  · rw [if_pos h1, if_pos h1]
  · rw [h1, if_neg (by decide), if_neg (by decide)]
    exact hN _ (show 1 + 0 < _ by omega)
  · rw [h1, if_neg (by decide), if_neg (by decide)]
    exact hN _ (show 1 + 1 < _ by omega)
theorem caP_ag {h : Nat} {N B : xN} (hN : agN h N B) (ns sp : Int32) (mo : xN) (q : Int32) : ∀ k, k ≤ 26 → caP ns sp mo N q k = caP ns sp mo B q k
  | 0, _ => rfl
  | k + 1, hk => by
    have ih := caP_ag hN ns sp mo q k (by omega)
    have e : isC ns sp mo N q k = isC ns sp mo B q k := by
      unfold isC
      rw [hN (41 + k) (by omega), hN (67 + k) (by omega), hN 0 (by omega)]
    rw [caP, caP, ih, e]
theorem feltL_ag {h : Nat} {N B : xN} (mo : xN) (hN : agN h N B) (ho : abO N) : ∀ k, k ≤ 26 → (∀ i, i < k → ∃ p, p < 8 ∧ mo (3 * i) = nI p) → agN h (feltL mo N k) (feltL mo B k)
  | 0, _, _ => hN
  | k + 1, hk, hm => by
    have ih := feltL_ag mo hN ho k (by omega) (fun i hi => hm i (by omega))
    have ab := feltL_abO mo N ho (k := k) (by omega)
    obtain ⟨p, hp, ep⟩ := hm k (by omega)
    rw [feltL, feltL, feltF, feltF, ih 0 (by omega)]
    split
    · refine ag_upd ih _ ?_
      rw [ep, nI_clamp (by omega)]
      exact plP_ag ih ab hp
    · exact ih
theorem oweL_ag {h : Nat} {N B : xN} (fo fa : Int32) (k : Nat) (hN : agN h N B) : ∀ q, q ≤ 8 → agN h (oweL fo fa k N q) (oweL fo fa k B q)
  | 0, _ => hN
  | q + 1, hq => by
    have ih := oweL_ag fo fa k hN q (by omega)
    rw [oweL, oweL]
    refine ag_upd ih _ ?_
    rw [ih (33 + q) (by omega), ih (17 + q) (by omega)]
theorem goOnP_ag {h : Nat} {N B : xN} (pl fo fa : Int32) {k : Nat} (hk : k < 2) (hN : agN h N B) : agN h (goOnP pl fo fa N k) (goOnP pl fo fa B k) := by
  refine oweL_ag fo fa k ?_ 8 (by omega)
  have e1 := hN (3 + k) (by omega)
  have e2 := hN (1 + k) (by omega)
  have e3 : wayP pl N k = wayP pl B k := by unfold wayP; rw [e1, e2]
  unfold onA
  rw [e3, e2]
  exact ag_upd (ag_upd (ag_upd hN _ rfl) _ rfl) _ rfl
theorem haltA_ag {h : Nat} {N B : xN} {k c : Nat} (hk : k < 2) (hc : c < 26) (hN : agN h N B) : agN (h + 1) (haltA N k c h) (haltA B k c h) := by
  have e1 := hN (1 + k) (by omega)
  have e0 := hN 0 (by omega)
  have e7 := hN (7 + k) (by omega)
  unfold haltA
  intro i hi
  have a1 : agS (fun i => i < 93 + 4 * h + 1) (upd N (93 + 4 * h) (nI k)) (upd B (93 + 4 * h) (nI k)) := agS_sub (agS_upd hN _ rfl) (fun i hi => by omega)
  have a2 : agS (fun i => i < 93 + 4 * h + 2) _ _ := agS_sub (agS_upd a1 (93 + 4 * h + 1) (a1 (1 + k) (by omega))) (fun i (hi : i < 93 + 4 * h + 2) => by omega)
  have a3 : agS (fun i => i < 93 + 4 * h + 3) _ _ := agS_sub (agS_upd a2 (93 + 4 * h + 2) (a2 0 (by omega))) (fun i (hi : i < 93 + 4 * h + 3) => by omega)
  have a4 : agS (fun i => i < 93 + 4 * h + 4) _ _ := agS_sub (agS_upd a3 (93 + 4 * h + 3) (rfl : nI c = nI c)) (fun i (hi : i < 93 + 4 * h + 4) => by omega)
  have a5 := agS_upd a4 (7 + k) (congrArg (· + 1) (a4 (7 + k) (by omega)))
  have a6 := agS_upd a5 (5 + k) (rfl : (1 : Int32) = 1)
  have a7 := agS_upd a6 (67 + c) (rfl : (1 : Int32) = 1)
  exact a7 i (by left; left; left; omega)
theorem offL_ag {h : Nat} {N B : xN} (fo : Int32) (pe : xN) {k : Nat} (hk : k < 2) (hN : agN h N B) : ∀ q, q ≤ 8 → agN h (offL fo pe k N q).1 (offL fo pe k B q).1 ∧ (offL fo pe k N q).2 = (offL fo pe k B q).2
  | 0, _ => ⟨hN, rfl⟩
  | q + 1, hq => by
    obtain ⟨ih, ih2⟩ := offL_ag fo pe hk hN q (by omega)
    rw [offL, offL]
    generalize offL fo pe k N q = S at ih ih2 ⊢
    generalize offL fo pe k B q = S' at ih ih2 ⊢
    have e1 := ih (17 + q) (by omega)
    have e2 := ih (1 + k) (by omega)
    have e3 := ih (9 + q) (by omega)
    unfold offS
    rw [e1, e2]
    split
    · split
      · refine ⟨?_, congrArg (· + 0) ih2⟩
        show agN h (offT S.1 k q) (offT S'.1 k q)
        have b1 := ag_upd ih (9 + q) e2
        have b2 := ag_upd b1 (25 + q) (b1 0 (by omega))
        exact ag_upd b2 (17 + q) rfl
      · refine ⟨?_, congrArg (· + 1) ih2⟩
        show agN h (offU S.1 k q) (offU S'.1 k q)
        have b1 := ag_upd ih (9 + q) e3
        have b2 := ag_upd b1 (25 + q) (rfl : (-1 : Int32) = -1)
        exact ag_upd b2 (17 + q) rfl
    · exact ⟨ih, ih2⟩
theorem onL_ag {h : Nat} {S S' : xN × Int32} (fo se : Int32) {k : Nat} (hk : k < 2) (hN : agN h S.1 S'.1 ∧ S.2 = S'.2) : ∀ q, q ≤ 8 → agN h (onL fo se k S q).1 (onL fo se k S' q).1 ∧ (onL fo se k S q).2 = (onL fo se k S' q).2
  | 0, _ => hN
  | q + 1, hq => by
    obtain ⟨ih, ih2⟩ := onL_ag fo se hk hN q (by omega)
    rw [onL, onL]
    generalize onL fo se k S q = T at ih ih2 ⊢
    generalize onL fo se k S' q = T' at ih ih2 ⊢
    unfold onS
    rw [ih (17 + q) (by omega), ih (25 + q) (by omega), ih (9 + q) (by omega), ih (1 + k) (by omega), ih2]
    split
    · exact ⟨ag_upd ih _ rfl, rfl⟩
    · exact ⟨ih, ih2⟩
theorem haltP_ag {h : Nat} {N B : xN} (fo se : Int32) (pe : xN) {k c : Nat} (hk : k < 2) (hc : c < 26) (hN : agN h N B) : agN (h + 1) (haltP fo se pe N k c h) (haltP fo se pe B k c h) :=
  (onL_ag fo se hk (offL_ag fo pe hk (haltA_ag hk hc hN) 8 (by omega)) 8 (by omega)).1
theorem tramF_ag {h : Nat} {N B : xN} (s : xN) (a : Nat → xN) {m k : Nat} (hk : k < 2) (hm : m ≤ 26) (hN : agN h N B) (hh : N 7 + N 8 = nI h) (h120 : h < 120) : ∃ h', h ≤ h' ∧ h' ≤ h + 1 ∧ tramF s a m N k 7 + tramF s a m N k 8 = nI h' ∧ agN h' (tramF s a m N k) (tramF s a m B k) := by
  have hB : B 7 + B 8 = nI h := by rw [← hN 7 (by omega), ← hN 8 (by omega)]; exact hh
  unfold tramF
  rw [hN 0 (by omega), hN (5 + k) (by omega), hN (1 + k) (by omega), caP_ag hN (s 30) (s 31) (a 10) (B (1 + k)) m hm, hB, hh, nI_clamp (by omega)]
  split
  · split
    · refine ⟨h, by omega, by omega, ?_, goOnP_ag _ _ _ hk hN⟩
      rw [goOnP_out _ _ _ _ hk (by omega), goOnP_out _ _ _ _ hk (by omega)]; exact hh
    · next hne =>
      rcases caP_in (s 30) (s 31) (a 10) B (B (1 + k)) m with h1 | ⟨c, h1, h2⟩
      · exact absurd (Or.inr h1) hne
      · refine ⟨h + 1, by omega, by omega, ?_, ?_⟩
        · rw [haltP_7 _ _ _ _ hk, hh, nI_1]
        · rw [h2, nI_clamp (by omega)]
          exact haltP_ag _ _ _ hk (by omega) hN
  · exact ⟨h, by omega, by omega, hh, hN⟩
theorem minP_ag {h : Nat} {N B : xN} (s : xN) (a : Nat → xN) {m : Nat} (hok : m ≤ 26 ∧ ∀ k, k < m → ∃ p, p < 8 ∧ a 10 (3 * k) = nI p) (ho : abO N) (hN : agN h N B) (hh : N 7 + N 8 = nI h) (h120 : h + 1 < 120) : ∃ h', h ≤ h' ∧ h' ≤ h + 2 ∧ minP s a m N 7 + minP s a m N 8 = nI h' ∧ agN h' (minP s a m N) (minP s a m B) := by
  have f1 := feltL_ag (a 10) hN ho m hok.1 hok.2
  have e7 : feltL (a 10) N m 7 + feltL (a 10) N m 8 = nI h := by rw [feltL_out _ _ (by omega) m hok.1, feltL_out _ _ (by omega) m hok.1]; exact hh
  obtain ⟨h1, p1, p2, p3, p4⟩ := tramF_ag s a (k := 0) (by omega) hok.1 f1 e7 (by omega)
  obtain ⟨h2, q1, q2, q3, q4⟩ := tramF_ag s a (k := 1) (by omega) hok.1 p4 p3 (by omega)
  refine ⟨h2, by omega, by omega, ?_, ?_⟩
  · rw [minP, pk_un (by omega), pk_un (by omega)]; exact q3
  · unfold minP
    exact ag_upd q4 0 (congrArg (· + 1) (q4 0 (by omega)))
theorem goL_ag {N B : xN} (s : xN) (a : Nat → xN) {m : Nat} (hok : m ≤ 26 ∧ ∀ k, k < m → ∃ p, p < 8 ∧ a 10 (3 * k) = nI p) (hN : agN 0 N B) (h0 : okN N) (hh : N 7 + N 8 = nI 0) : ∀ n, ∃ h, goL s a m N n 7 + goL s a m N n 8 = nI h ∧ h ≤ 120 ∧ agN h (goL s a m N n) (goL s a m B n)
  | 0 => ⟨0, hh, by omega, hN⟩
  | n + 1 => by
    obtain ⟨h, i1, i2, i3⟩ := goL_ag s a hok hN h0 hh n
    have okn := goL_ok s a m N hok.1 h0 n
    rw [goL, goL, ← i3 0 (by omega)]
    split
    · next hl =>
      obtain ⟨ab, g, h', e1, e2, e3, e4⟩ := okn
      have hg : g < 60 := by
        rw [e1, i32_lt, nI_toInt (by omega)] at hl
        have : (60 : Int32).toInt = 60 := rfl
        omega
      have hhe : h = h' := (nI_eq (by omega) (by omega)).mp (i1.symm.trans e3)
      obtain ⟨h2, j1, j2, j3, j4⟩ := minP_ag s a hok ab i3 i1 (by omega)
      exact ⟨h2, j3, by omega, j4⟩
    · exact ⟨h, i1, i2, i3⟩
/-- a whole day, whatever stood in the rows before -/
def dq (s : xN) (a : Nat → xN) (m : Nat) : xN := dayP s a m (fun _ => 0)
theorem begin_ag (tr pe N B : xN) : agN 0 (beginP tr pe N) (beginP tr pe B) := by
  intro i hi
  rcases (show i < 9 ∨ (9 ≤ i ∧ i < 17) ∨ (17 ≤ i ∧ i < 25) ∨ (25 ≤ i ∧ i < 33) ∨ (33 ≤ i ∧ i < 41) ∨ (41 ≤ i ∧ i < 67) ∨ (67 ≤ i ∧ i < 93) by omega) with h | h | h | h | h | h | h
  · rw [begin_lo _ _ _ h, begin_lo _ _ _ h]
    have : ∀ (N : xN) (i : Nat), i < 9 → bg1 tr N 2 i = bg1 tr (fun _ => 0) 2 i := by
      intro N i hi
      rcases (show i = 0 ∨ i = 1 ∨ i = 2 ∨ i = 3 ∨ i = 4 ∨ i = 5 ∨ i = 6 ∨ i = 7 ∨ i = 8 by omega) with rfl | rfl | rfl | rfl | rfl | rfl | rfl | rfl | rfl <;> rfl
    rw [this N i h, this B i h]
  · obtain ⟨p, rfl⟩ : ∃ p, i = 9 + p := ⟨i - 9, by omega⟩
    rw [(begin_9 tr pe N (by omega)).1, (begin_9 tr pe B (by omega)).1]
  · obtain ⟨p, rfl⟩ : ∃ p, i = 17 + p := ⟨i - 17, by omega⟩
    rw [(begin_9 tr pe N (by omega)).2.1, (begin_9 tr pe B (by omega)).2.1]
  · obtain ⟨p, rfl⟩ : ∃ p, i = 25 + p := ⟨i - 25, by omega⟩
    rw [(begin_9 tr pe N (by omega)).2.2.1, (begin_9 tr pe B (by omega)).2.2.1]
  · obtain ⟨p, rfl⟩ : ∃ p, i = 33 + p := ⟨i - 33, by omega⟩
    rw [(begin_9 tr pe N (by omega)).2.2.2, (begin_9 tr pe B (by omega)).2.2.2]
  · obtain ⟨p, rfl⟩ : ∃ p, i = 41 + p := ⟨i - 41, by omega⟩
    rw [(begin_41 tr pe N (by omega)).1, (begin_41 tr pe B (by omega)).1]
  · obtain ⟨p, rfl⟩ : ∃ p, i = 67 + p := ⟨i - 67, by omega⟩
    rw [(begin_41 tr pe N (by omega)).2, (begin_41 tr pe B (by omega)).2]
/-- N is the day's end in all that counts -/
def isDay (s : xN) (a : Nat → xN) (m : Nat) (N : xN) : Prop := okN N ∧ ∃ h, N 7 + N 8 = nI h ∧ h ≤ 120 ∧ agN h N (dq s a m)
theorem dayP_is (s : xN) (a : Nat → xN) (m : Nat) (N : xN) (hok : okD s a m) : isDay s a m (dayP s a m N) := by
  have h0 : beginP (a 6) (a 8) N 7 + beginP (a 6) (a 8) N 8 = nI 0 := by rw [(begin_0 _ _ _).2.1, (begin_0 _ _ _).2.2]; rfl
  have h1 := goL_ag s a (m := m) ⟨hok.2.1, hok.2.2⟩ (begin_ag (a 6) (a 8) N (fun _ => 0)) (begin_ok _ _ _) h0
  have h2 := goL_ok s a m _ hok.2.1 (begin_ok (a 6) (a 8) N)
  generalize hk : 60 = k at *
  unfold isDay dq dayP
  rw [hk]
  exact ⟨h2 k, h1 k⟩
end
section
/-! ===== calls over the whole world, and over none ===== -/
theorem xsg_id (n k : Nat) : xsg (List.range n) n k = k := by
  unfold xsg
  rw [List.length_range]
  by_cases h : k < n
  · rw [if_pos h, List.getD_eq_getElem?_getD, List.getElem?_range h]; rfl
  · rw [if_neg h]
    split
    · omega
    · rfl
theorem xsg_idf (n : Nat) : xsg (List.range n) n = fun k => k := funext fun k => xsg_id n k
theorem xv_idf (v : Value) : xv (fun k => k) v = v := by cases v <;> rfl
theorem xrE_idf (c : xE) : xrE (fun k => k) c = c := by
  rcases c with ⟨t, n, f⟩ | l | ⟨ci, fs⟩
  · rfl
  · show (Sum.inr (Sum.inl (l.map (Option.map fun k => k))) : xE) = _
    have : (Option.map fun k : Nat => k) = id := by funext o; cases o <;> rfl
    rw [this, List.map_id]
  · show (Sum.inr (Sum.inr (ci, fs.map (xv fun k => k))) : xE) = _
    have : (xv fun k : Nat => k) = id := by funext v; exact xv_idf v
    rw [this, List.map_id]
theorem xputs_range (X Y : List xE) (h : X.length ≤ Y.length) : xput (List.range X.length) X Y = Y := by
  unfold xput
  rw [xsg_idf, List.length_range]
  have e1 : xputs (fun k => k) X (List.range X.length) Y = Y.take X.length := by
    apply List.ext_getElem?
    intro i
    by_cases hi : i < X.length
    · have hy : i < Y.length := by omega
      rw [xputs_in (fun k => k) (List.range X.length) X Y (by
        have : ∀ n, va_nd (List.range n) = true := by
          intro n
          have key : ∀ l : List Nat, l.Nodup → va_nd l = true := by
            intro l hl
            induction l with
            | nil => rfl
            | cons a l ih =>
              rw [List.nodup_cons] at hl
              simp only [va_nd, Bool.and_eq_true, decide_eq_true_eq]
              exact ⟨hl.1, ih hl.2⟩
          exact key _ List.nodup_range
        exact this _) (fun k hk => List.mem_range.mp hk) (by rw [List.length_range]; exact h) i i Y[i] (List.getElem?_range hi) (List.getElem?_eq_getElem hy), xrE_idf, List.getElem?_take, if_pos hi, List.getElem?_eq_getElem hy]
    · rw [List.getElem?_eq_none (by rw [xputs_len]; omega), List.getElem?_eq_none (by rw [List.length_take]; omega)]
  have e2 : (Y.drop X.length).map (xrE fun k => k) = Y.drop X.length := by
    have : (xrE fun k : Nat => k) = id := by funext c; exact xrE_idf c
    rw [this, List.map_id]
  rw [e1, e2, List.take_append_drop]
theorem va_nd_range (n : Nat) : va_nd (List.range n) = true := by
  have key : ∀ l : List Nat, l.Nodup → va_nd l = true := by
    intro l hl
    induction l with
    | nil => rfl
    | cons a l ih =>
      rw [List.nodup_cons] at hl
      simp only [va_nd, Bool.and_eq_true, decide_eq_true_eq]
      exact ⟨hl.1, ih hl.2⟩
  exact key _ List.nodup_range
theorem range_map (X : List xE) : (List.range X.length).map (fun i => X[i]?) = X.map (fun c => some (xrE (xsg (List.range X.length) X.length) c)) := by
  rw [xsg_idf]
  apply List.ext_getElem?
  intro i
  rw [List.getElem?_map, List.getElem?_map]
  by_cases hi : i < X.length
  · rw [List.getElem?_range hi, List.getElem?_eq_getElem hi]
    simp only [Option.map_some]
    rw [xrE_idf, List.getElem?_eq_getElem hi]
  · rw [List.getElem?_eq_none (by rw [List.length_range]; omega), List.getElem?_eq_none (by omega)]; rfl
/-- a call of an instance's method over the caller's whole world -/
theorem AJ.callF {L : xLn} {M : xM} {d mc ms : Nat} {Q : Option Value → List xE → Prop} {n0 : Nat} {z : Nat × Nat} {pc : Nat} {ls : List (Option Value)} {st : List Value} {X : List xE} (hM : xMk M = true) {M' : xM} {d' q0 n : Nat} {as : List Value} {Qc : Option Value → List xE → Prop}
    (hC : CT L M' d' 0 0 (.ref q0 :: as) X Qc) (hcv : xcB M' 0 n = true) {idx nx tg : Nat} {v : Int32} {w : Int64} {a b t : Nat} {sw : List (Int32 × Nat)} (ho : xat M pc = some (.invokevirtual idx, nx, tg, v, w, a, b, t, sw)) (hlk : xmt t (.methodLink (xown M) idx M'.1) = true)
    (rest : List Value) (hst : st = as.reverse ++ .ref q0 :: rest) (hn : as.length = n) {ci : Nat} {fs : List Value} (hq : X[q0]? = some (.inr (.inr (ci, fs)))) {r : vw_C} (hci : vwCl[ci]? = some r) (hr1 : r.1 = M'.1.cls)
    (hwf : xwf X ls rest = true) (hd : Nat.blt d' d = true) (hmm : (Nat.ble z.1 mc && Nat.ble z.2 ms) = true)
    (kk : ∀ (r : Option Value) (Y : List xE), Qc r Y → Nat.ble X.length Y.length = true ∧ Nat.ble (X.length + Y.length) xB = true ∧ AJ L M d mc ms Q n0 z nx ls (r.toList ++ rest) Y) : AJ L M d mc ms Q n0 z pc ls st X := by
  refine AJ.callV hM hC hcv ho hlk (List.range X.length) rest ?_ hn (range_map X) hq hci hr1 (va_nd_range _) hwf hd hmm ?_
  · rw [hst, xsg_idf]
    have : (xv fun k : Nat => k) = id := by funext v; exact xv_idf v
    rw [this, List.map_id]
  · intro r Y hr
    obtain ⟨k1, k2, k3⟩ := kk r Y hr
    rw [xputs_range X Y (Nat.le_of_ble_eq_true k1)]
    exact ⟨k2, k3⟩
/-- a call of a static method that has no world -/
theorem AJ.callZ {L : xLn} {M : xM} {d mc ms : Nat} {Q : Option Value → List xE → Prop} {n0 : Nat} {z : Nat × Nat} {pc : Nat} {ls : List (Option Value)} {st : List Value} {X : List xE} (hM : xMk M = true) {M' : xM} {d' n : Nat} {as : List Value} {P : Option Value → Prop}
    (hC : CT L M' d' 0 0 as [] (fun r Y => P r ∧ Y = [])) (hcv : xcB M' 1 n = true) {idx nx tg : Nat} {v : Int32} {w : Int64} {a b t : Nat} {sw : List (Int32 × Nat)} (ho : xat M pc = some (.invokestatic idx, nx, tg, v, w, a, b, t, sw)) (hlk : xmt t (.methodLink (xown M) idx M'.1) = true)
    (rest : List Value) (hst : st = (as.map (xv (xsg [] X.length))).reverse ++ rest) (hn : as.length = n) (hwf : xwf X ls rest = true) (hd : Nat.blt d' d = true) (hmm : (Nat.ble z.1 mc && Nat.ble z.2 ms && Nat.ble X.length xB) = true)
    (kk : ∀ (r : Option Value), P r → AJ L M d mc ms Q n0 z nx ls (r.toList ++ rest) X) : AJ L M d mc ms Q n0 z pc ls st X := by
  simp only [Bool.and_eq_true] at hmm
  refine AJ.callS hM hC hcv ho hlk [] rest hst hn rfl rfl hwf hd (by simp only [Bool.and_eq_true]; exact hmm.1) ?_
  rintro r Y ⟨h1, rfl⟩
  refine ⟨?_, ?_⟩
  · simpa using hmm.2
  · have : xput [] X [] = X := by
      unfold xput
      show X ++ [] = X
      rw [List.append_nil]
    rw [this]
    exact kk r h1
end
section
/-! ===== the reference: what is foretold ===== -/
/-- all that a day needs of the told is the same -/
def eqT (s : xN) (a : Nat → xN) (s' : xN) (a' : Nat → xN) : Prop := (s' 0 = s 0 ∧ s' 3 = s 3 ∧ s' 4 = s 4 ∧ s' 5 = s 5 ∧ s' 7 = s 7 ∧ s' 30 = s 30 ∧ s' 31 = s 31) ∧ a' 6 = a 6 ∧ a' 8 = a 8 ∧ a' 10 = a 10
theorem minP_congr {s s' : xN} {a a' : Nat → xN} (h : eqT s a s' a') (m : Nat) (N : xN) : minP s' a' m N = minP s a m N := by
  obtain ⟨⟨h0, h3, h4, h5, h7, h30, h31⟩, a6, a8, a10⟩ := h
  have t : ∀ (N : xN) (k : Nat), tramF s' a' m N k = tramF s a m N k := by
    intro N k
    unfold tramF
    rw [h0, h3, h4, h5, h7, h30, h31, a6, a8, a10]
  unfold minP
  rw [t, t, a10]
theorem goL_congr {s s' : xN} {a a' : Nat → xN} (h : eqT s a s' a') (m : Nat) (N : xN) : ∀ n, goL s' a' m N n = goL s a m N n
  | 0 => rfl
  | n + 1 => by rw [goL, goL, goL_congr h m N n, minP_congr h]
theorem dq_congr {s s' : xN} {a a' : Nat → xN} (h : eqT s a s' a') (m : Nat) : dq s' a' m = dq s a m := by
  unfold dq dayP
  rw [goL_congr h, h.2.1, h.2.2.1]
/-- the object as it was, but for what nobody is told -/
def keptM (m : Nat) (s : xN) (a : Nat → xN) (s' : xN) (a' : Nat → xN) : Prop := (∀ i, i < 15 → s' i = s i) ∧ (a' 6 = a 6 ∧ a' 8 = a 8 ∧ a' 12 = a 12 ∧ a' 14 = a 14 ∧ a' 28 = a 28 ∧ a' 29 = a 29) ∧ (∀ i, i < 3 * m → a' 10 i = a 10 i) ∧ ∀ i, i < 573 → a' 26 i = a 26 i
theorem keptM.rf (m : Nat) (s : xN) (a : Nat → xN) : keptM m s a s a := ⟨fun _ _ => rfl, ⟨rfl, rfl, rfl, rfl, rfl, rfl⟩, fun _ _ => rfl, fun _ _ => rfl⟩
theorem put_back (N A D : xN) {i : Nat} (hi : i < 573) : cpL (cpL N 0 A 0 573) 0 D 0 573 i = N i := by
  rw [cpL_at, if_pos (by omega), cpL_at, if_pos (by omega)]
  congr 1
  omega
/-- the moods that are told -/
def okT (s : xN) (a : Nat → xN) (m : Nat) : Prop := s 9 = nI m ∧ m ≤ 24 ∧ ∀ k, k < m → ∃ p, p < 8 ∧ a 10 (3 * k) = nI p
theorem okT.d {s : xN} {a : Nat → xN} {m : Nat} (h : okT s a m) : okD (toldP s) a m := ⟨h.1, by have := h.2.1; omega, h.2.2⟩
theorem inP_nI {k : Int32} {n : Nat} (hn : n < 1000) (h : inP k 0 (nI n) = true) : ∃ p, p ≤ n ∧ k = nI p := by
  have h := of_decide_eq_true h
  refine nI_of2 (M := nI n) (nI_toInt (by omega)) ?_ h.2
  have := h.1
  simp only [i32_lt, i32_le] at this ⊢
  omega
theorem c8_dayA (L : xLn) (s : xN) (j : Int64) (a : Nat → xN) (m : Nat) (hok : okD s a m) : CT L mX8_goDay 3 0 0 [.ref 0] (modW s j a) (fun r Y => r = none ∧ ∃ N, isDay s a m N ∧ Y = modN s j (va_up a 27 (cpL (a 26) 0 (a 27) 0 573)) N) := by
  have h := c8_day L s j a (a 26) m hok
  exact h.mono (fun r Y h => ⟨h.1, dayP s a m (a 26), dayP_is s a m _ hok, h.2⟩)
theorem c8_home (L : xLn) (s : xN) (j : Int64) (a : Nat → xN) (m : Nat) (hok : okT s a m) (k : Int32) : CT L mX8_home 4 0 0 [.ref 0, .int k] (modW s j a) (fun r Y => r = some (.int (if isPersonP s k = true then dq (toldP s) a m (25 + k.toNatClampNeg) else -2)) ∧ ∃ s' j' a', Y = modW s' j' a' ∧ keptM m s a s' a') := by
  refine CT.of rfl (Nat.le_of_ble_eq_true rfl) (Nat.le_of_ble_eq_true rfl) ?_
  refine AJ.run kX8_home [] 60 ?_
  refine AJ.callF kX8_home (c8_isPerson L s j a k) bX8_isPerson rfl (by decide +kernel) [] rfl rfl rfl rfl rfl rfl rfl rfl ?_
  rintro r Y ⟨rfl, rfl⟩
  refine ⟨rfl, rfl, AJ.run kX8_home [] 60 ⟨fun h => ?_, fun h => ⟨by rw [bI_eq0] at h; rw [if_neg (by rw [h]; simp)], s, j, a, rfl, keptM.rf m s a⟩⟩⟩
  rw [bI_ne0] at h
  have hk : ∃ p, p ≤ 7 ∧ k = nI p := by
    have h2 := h
    simp only [isPersonP, Bool.and_eq_true] at h2
    exact inP_nI (n := 7) (by omega) h2.1
  obtain ⟨p, hp, rfl⟩ := hk
  refine AJ.callF kX8_home (c8_asTold L s j a) bX8_asTold rfl (by decide +kernel) [] rfl rfl rfl rfl rfl rfl rfl rfl ?_
  rintro r Y ⟨rfl, rfl⟩
  refine ⟨rfl, rfl, AJ.run kX8_home [] 60 ?_⟩
  refine AJ.callF kX8_home (c8_dayA L (toldP s) j a m hok.d) bX8_goDay rfl (by decide +kernel) [] rfl rfl rfl rfl rfl rfl rfl rfl ?_
  rintro r Y ⟨rfl, N, hN, rfl⟩
  refine ⟨rfl, rfl, AJ.run kX8_home [] 60 ⟨25 + p, nI_add 25 p, by omega, ?_⟩⟩
  refine AJ.callF kX8_home (c8_putBack L (toldP s) j (va_up a 27 (cpL (a 26) 0 (a 27) 0 573)) N) bX8_putBack rfl (by decide +kernel) [] rfl rfl rfl rfl rfl rfl rfl rfl ?_
  rintro r Y ⟨rfl, rfl⟩
  refine ⟨rfl, rfl, AJ.run kX8_home [] 60 ⟨?_, toldP s, j, va_up (va_up a 27 (cpL (a 26) 0 (a 27) 0 573)) 26 (cpL (cpL (a 26) 0 (a 27) 0 573) 0 N 0 573), rfl, ?_⟩⟩
  · obtain ⟨-, h', e1, e2, e3⟩ := hN
    show some (Value.int (N (25 + p))) = _
    rw [if_pos h, nI_clamp (by omega), e3 (25 + p) (by omega)]
  · refine ⟨fun i hi => ?_, ⟨rfl, rfl, rfl, rfl, rfl, rfl⟩, fun _ _ => rfl, fun i hi => put_back _ _ _ hi⟩
    show toldP s i = s i
    unfold toldP
    rw [pk_un (by omega), pk_un (by omega), pk_un (by omega)]
def wornL (N : xN) (q : Int32) : Nat → Int32
  | 0 => 0
  | i + 1 => wornL N q i + (if N (93 + 4 * i + 1) = q then 1 else 0)
theorem wornL_ag {h : Nat} {N B : xN} (hN : agN h N B) (q : Int32) : ∀ i, i ≤ h → wornL N q i = wornL B q i
  | 0, _ => rfl
  | i + 1, hi => by rw [wornL, wornL, wornL_ag hN q i (by omega), hN (93 + 4 * i + 1) (by omega)]
set_option maxHeartbeats 1000000 in
theorem c8_wornAt (L : xLn) (s : xN) (j : Int64) (a : Nat → xN) (N : xN) (q : Int32) (h : Nat) (hh : N 7 + N 8 = nI h) (h120 : h ≤ 120) : CT L mX8_wornAt 1 0 0 [.ref 0, .int q] (modN s j a N) (fun r Y => r = some (.int (wornL N q h)) ∧ Y = modN s j a N) := by
  refine CT.of rfl (Nat.le_of_ble_eq_true rfl) (Nat.le_of_ble_eq_true rfl) ?_
  have loop : ∀ (n i : Nat), i + n = h → AJ L mX8_wornAt 1 0 0 (fun r Y => r = some (.int (wornL N q h)) ∧ Y = modN s j a N) (modN s j a N).length (0, 0) 4 [some (.ref 0), some (.int q), some (.int (wornL N q i)), some (.int (nI i))] [] (modN s j a N) := by
    intro n
    induction n with
    | zero =>
      intro i hi
      obtain rfl : i = h := by omega
      refine AJ.run kX8_wornAt [4] 60 ?_
      refine AJ.callF kX8_wornAt (c8_haltMany L s j (va_up a 26 N)) bX8_haltMany rfl (by decide +kernel) [.int (nI i)] rfl rfl rfl rfl rfl rfl rfl rfl ?_
      rintro r Y ⟨rfl, rfl⟩
      refine ⟨rfl, rfl, AJ.run kX8_wornAt [4] 60 ⟨fun _ => ⟨rfl, rfl⟩, fun hz => absurd ?_ hz⟩⟩
      show N 7 + N 8 ≤ nI i
      rw [hh]; exact nI_le (by omega) (by omega)
    | succ n ih =>
      intro i hi
      have h2 := ih (i + 1) (by omega)
      rw [nI_succ] at h2
      refine AJ.run kX8_wornAt [4] 60 ?_
      refine AJ.callF kX8_wornAt (c8_haltMany L s j (va_up a 26 N)) bX8_haltMany rfl (by decide +kernel) [.int (nI i)] rfl rfl rfl rfl rfl rfl rfl rfl ?_
      rintro r Y ⟨rfl, rfl⟩
      refine ⟨rfl, rfl, AJ.run kX8_wornAt [4] 60 ⟨fun hz => absurd hz ?_, fun _ => ⟨93 + 4 * i + 1, by simp only [fa_lit, nI_add, pk_mul], by omega, fun h3 => ?_, fun h3 => ?_⟩⟩⟩
      · show ¬ N 7 + N 8 ≤ nI i
        rw [hh]; exact nI_ge (by omega) (by omega)
      · have h3 : ¬ N (93 + 4 * i + 1) = q := h3
        rw [show wornL N q (i + 1) = wornL N q i + (if N (93 + 4 * i + 1) = q then 1 else 0) from rfl, if_neg h3] at h2
        exact h2
      · have h3 : N (93 + 4 * i + 1) = q := h3
        rw [show wornL N q (i + 1) = wornL N q i + (if N (93 + 4 * i + 1) = q then 1 else 0) from rfl, if_pos h3] at h2
        exact h2
  exact AJ.run kX8_wornAt [4] 60 (loop h 0 (by omega))
/-- how many halts a day has -/
def hmP (N : xN) : Nat := (N 7 + N 8).toNatClampNeg
theorem isDay_hm {s : xN} {a : Nat → xN} {m : Nat} {N : xN} (h : isDay s a m N) : N 7 + N 8 = nI (hmP (dq s a m)) ∧ hmP (dq s a m) ≤ 120 ∧ agN (hmP (dq s a m)) N (dq s a m) := by
  obtain ⟨-, h', e1, e2, e3⟩ := h
  have : hmP (dq s a m) = h' := by
    unfold hmP
    rw [← e3 7 (by omega), ← e3 8 (by omega), e1, nI_clamp (by omega)]
  rw [this]
  exact ⟨e1, e2, e3⟩
theorem c8_worn (L : xLn) (s : xN) (j : Int64) (a : Nat → xN) (m : Nat) (hok : okT s a m) (q : Int32) : CT L mX8_worn 4 0 0 [.ref 0, .int q] (modW s j a) (fun r Y => r = some (.int (if inP q 0 (s 0 - 1) = true then wornL (dq (toldP s) a m) q (hmP (dq (toldP s) a m)) else -2)) ∧ ∃ s' j' a', Y = modW s' j' a' ∧ keptM m s a s' a') := by
  refine CT.of rfl (Nat.le_of_ble_eq_true rfl) (Nat.le_of_ble_eq_true rfl) ?_
  refine AJ.run kX8_worn [] 60 ?_
  refine AJ.callF kX8_worn (c8_isPlace L s j a q) bX8_isPlace rfl (by decide +kernel) [] rfl rfl rfl rfl rfl rfl rfl rfl ?_
  rintro r Y ⟨rfl, rfl⟩
  refine ⟨rfl, rfl, AJ.run kX8_worn [] 60 ⟨fun h => ?_, fun h => ⟨by rw [bI_eq0] at h; rw [if_neg (by rw [h]; simp)], s, j, a, rfl, keptM.rf m s a⟩⟩⟩
  rw [bI_ne0] at h
  refine AJ.callF kX8_worn (c8_asTold L s j a) bX8_asTold rfl (by decide +kernel) [] rfl rfl rfl rfl rfl rfl rfl rfl ?_
  rintro r Y ⟨rfl, rfl⟩
  refine ⟨rfl, rfl, AJ.run kX8_worn [] 60 ?_⟩
  refine AJ.callF kX8_worn (c8_dayA L (toldP s) j a m hok.d) bX8_goDay rfl (by decide +kernel) [] rfl rfl rfl rfl rfl rfl rfl rfl ?_
  rintro r Y ⟨rfl, N, hN, rfl⟩
  obtain ⟨e1, e2, e3⟩ := isDay_hm hN
  refine ⟨rfl, rfl, AJ.run kX8_worn [] 60 ?_⟩
  refine AJ.callF kX8_worn (c8_wornAt L (toldP s) j (va_up a 27 (cpL (a 26) 0 (a 27) 0 573)) N q _ e1 e2) bX8_wornAt rfl (by decide +kernel) [] rfl rfl rfl rfl rfl rfl rfl rfl ?_
  rintro r Y ⟨rfl, rfl⟩
  refine ⟨rfl, rfl, AJ.run kX8_worn [] 60 ?_⟩
  refine AJ.callF kX8_worn (c8_putBack L (toldP s) j (va_up a 27 (cpL (a 26) 0 (a 27) 0 573)) N) bX8_putBack rfl (by decide +kernel) [] rfl rfl rfl rfl rfl rfl rfl rfl ?_
  rintro r Y ⟨rfl, rfl⟩
  refine ⟨rfl, rfl, AJ.run kX8_worn [] 60 ⟨?_, toldP s, j, va_up (va_up a 27 (cpL (a 26) 0 (a 27) 0 573)) 26 (cpL (cpL (a 26) 0 (a 27) 0 573) 0 N 0 573), rfl, ?_⟩⟩
  · show some (Value.int (wornL N q _)) = _
    rw [if_pos h, wornL_ag e3 q _ (Nat.le_refl _)]
  · refine ⟨fun i hi => ?_, ⟨rfl, rfl, rfl, rfl, rfl, rfl⟩, fun _ _ => rfl, fun i hi => put_back _ _ _ hi⟩
    show toldP s i = s i
    unfold toldP
    rw [pk_un (by omega), pk_un (by omega), pk_un (by omega)]
end
section
/-! ===== the reference: more of what is foretold, and what is asked of today ===== -/
theorem toldP_lo (s : xN) {i : Nat} (hi : i < 15) : toldP s i = s i := by
  unfold toldP
  rw [pk_un (by omega), pk_un (by omega), pk_un (by omega)]
theorem kept_day (m : Nat) (s : xN) (a : Nat → xN) (N : xN) : keptM m s a (toldP s) (va_up (va_up a 27 (cpL (a 26) 0 (a 27) 0 573)) 26 (cpL (cpL (a 26) 0 (a 27) 0 573) 0 N 0 573)) := ⟨fun i hi => toldP_lo s hi, ⟨rfl, rfl, rfl, rfl, rfl, rfl⟩, fun _ _ => rfl, fun i hi => put_back _ _ _ hi⟩
def fareL (fo : Int32) (N : xN) : Nat → Int32
  | 0 => 0
  | q + 1 => fareL fo N q + (if hasP fo (nI q) = true then N (33 + q) else 0)
theorem fareL_ag {h : Nat} {N B : xN} (fo : Int32) (hN : agN h N B) : ∀ q, q ≤ 8 → fareL fo N q = fareL fo B q
  | 0, _ => rfl
  | q + 1, hq => by rw [fareL, fareL, fareL_ag fo hN q (by omega), hN (33 + q) (by omega)]
set_option maxHeartbeats 1000000 in
theorem c8_fares (L : xLn) (s : xN) (j : Int64) (a : Nat → xN) (m : Nat) (hok : okT s a m) : CT L mX8_fares 4 0 0 [.ref 0] (modW s j a) (fun r Y => r = some (.int (fareL (s 7) (dq (toldP s) a m) 8)) ∧ ∃ s' j' a', Y = modW s' j' a' ∧ keptM m s a s' a') := by
  refine CT.of rfl (Nat.le_of_ble_eq_true rfl) (Nat.le_of_ble_eq_true rfl) ?_
  refine AJ.run kX8_fares [] 60 ?_
  refine AJ.callF kX8_fares (c8_asTold L s j a) bX8_asTold rfl (by decide +kernel) [] rfl rfl rfl rfl rfl rfl rfl rfl ?_
  rintro r Y ⟨rfl, rfl⟩
  refine ⟨rfl, rfl, AJ.run kX8_fares [] 60 ?_⟩
  refine AJ.callF kX8_fares (c8_dayA L (toldP s) j a m hok.d) bX8_goDay rfl (by decide +kernel) [] rfl rfl rfl rfl rfl rfl rfl rfl ?_
  rintro r Y ⟨rfl, N, hN, rfl⟩
  obtain ⟨e1, e2, e3⟩ := isDay_hm hN
  refine ⟨rfl, rfl, ?_⟩
  have loop : ∀ (n q : Nat), q + n = 8 → AJ L mX8_fares 4 0 0 (fun r Y => r = some (.int (fareL (s 7) (dq (toldP s) a m) 8)) ∧ ∃ s' j' a', Y = modW s' j' a' ∧ keptM m s a s' a') (modW s j a).length (0, 0) 12 [some (.ref 0), some (.int (fareL (s 7) N q)), some (.int (nI q))] [] (modN (toldP s) j (va_up a 27 (cpL (a 26) 0 (a 27) 0 573)) N) := by
    intro n
    induction n with
    | zero =>
      intro q hq
      obtain rfl : q = 8 := by omega
      refine AJ.run kX8_fares [12] 60 ⟨fun _ => ?_, fun hz => absurd (by decide) hz⟩
      refine AJ.callF kX8_fares (c8_putBack L (toldP s) j (va_up a 27 (cpL (a 26) 0 (a 27) 0 573)) N) bX8_putBack rfl (by decide +kernel) [] rfl rfl rfl rfl rfl rfl rfl rfl ?_
      rintro r Y ⟨rfl, rfl⟩
      refine ⟨rfl, rfl, AJ.run kX8_fares [] 60 ⟨?_, toldP s, j, va_up (va_up a 27 (cpL (a 26) 0 (a 27) 0 573)) 26 (cpL (cpL (a 26) 0 (a 27) 0 573) 0 N 0 573), rfl, kept_day m s a N⟩⟩
      rw [fareL_ag (s 7) e3 8 (by omega)]
    | succ n ih =>
      intro q hq
      have h2 := ih (q + 1) (by omega)
      rw [nI_succ, show fareL (s 7) N (q + 1) = fareL (s 7) N q + (if hasP (s 7) (nI q) = true then N (33 + q) else 0) from rfl] at h2
      refine AJ.run kX8_fares [12] 60 ⟨fun hz => absurd hz (nI_ge (b := 8) (by omega) (by omega)), fun _ => ?_⟩
      refine AJ.callZ kX8_fares (c8_has L (s 7) (nI q)) bX8_has rfl (by decide +kernel) [.int (fareL (s 7) N q)] rfl rfl rfl rfl rfl ?_
      rintro r rfl
      refine AJ.run kX8_fares [12] 60 ⟨fun h3 => ?_, fun h3 => ⟨33 + q, nI_add 33 q, by omega, ?_⟩⟩
      · rw [bI_eq0] at h3
        rw [if_neg (by rw [h3]; simp)] at h2
        exact h2
      · rw [bI_ne0] at h3
        rw [if_pos h3] at h2
        exact h2
  exact AJ.run kX8_fares [12] 60 (loop 8 0 rfl)
def dryL (N : xN) (h : Nat) : Nat → Int32
  | 0 => 0
  | q + 1 => dryL N h q ||| (if wornL N (nI q) h = 0 then 1 <<< (nI q &&& 31) else 0)
theorem dryL_ag {h : Nat} {N B : xN} (hN : agN h N B) : ∀ q, dryL N h q = dryL B h q
  | 0 => rfl
  | q + 1 => by rw [dryL, dryL, dryL_ag hN q, wornL_ag hN (nI q) h (Nat.le_refl _)]
set_option maxHeartbeats 1000000 in
theorem c8_dry (L : xLn) (s : xN) (j : Int64) (a : Nat → xN) (m l : Nat) (hok : okT s a m) (hl : s 0 = nI l) (hl2 : l ≤ 12) : CT L mX8_dry 4 0 0 [.ref 0] (modW s j a) (fun r Y => r = some (.int (dryL (dq (toldP s) a m) (hmP (dq (toldP s) a m)) l)) ∧ ∃ s' j' a', Y = modW s' j' a' ∧ keptM m s a s' a') := by
  refine CT.of rfl (Nat.le_of_ble_eq_true rfl) (Nat.le_of_ble_eq_true rfl) ?_
  refine AJ.run kX8_dry [] 60 ?_
  refine AJ.callF kX8_dry (c8_asTold L s j a) bX8_asTold rfl (by decide +kernel) [] rfl rfl rfl rfl rfl rfl rfl rfl ?_
  rintro r Y ⟨rfl, rfl⟩
  refine ⟨rfl, rfl, AJ.run kX8_dry [] 60 ?_⟩
  refine AJ.callF kX8_dry (c8_dayA L (toldP s) j a m hok.d) bX8_goDay rfl (by decide +kernel) [] rfl rfl rfl rfl rfl rfl rfl rfl ?_
  rintro r Y ⟨rfl, N, hN, rfl⟩
  obtain ⟨e1, e2, e3⟩ := isDay_hm hN
  refine ⟨rfl, rfl, ?_⟩
  have loop : ∀ (n q : Nat), q + n = l → AJ L mX8_dry 4 0 0 (fun r Y => r = some (.int (dryL (dq (toldP s) a m) (hmP (dq (toldP s) a m)) l)) ∧ ∃ s' j' a', Y = modW s' j' a' ∧ keptM m s a s' a') (modW s j a).length (0, 0) 12 [some (.ref 0), some (.int (dryL N (hmP (dq (toldP s) a m)) q)), some (.int (nI q))] [] (modN (toldP s) j (va_up a 27 (cpL (a 26) 0 (a 27) 0 573)) N) := by
    intro n
    induction n with
    | zero =>
      intro q hq
      obtain rfl : q = l := by omega
      refine AJ.run kX8_dry [12] 60 ⟨fun _ => ?_, fun hz => absurd ?_ hz⟩
      · refine AJ.callF kX8_dry (c8_putBack L (toldP s) j (va_up a 27 (cpL (a 26) 0 (a 27) 0 573)) N) bX8_putBack rfl (by decide +kernel) [] rfl rfl rfl rfl rfl rfl rfl rfl ?_
        rintro r Y ⟨rfl, rfl⟩
        refine ⟨rfl, rfl, AJ.run kX8_dry [] 60 ⟨?_, toldP s, j, va_up (va_up a 27 (cpL (a 26) 0 (a 27) 0 573)) 26 (cpL (cpL (a 26) 0 (a 27) 0 573) 0 N 0 573), rfl, kept_day m s a N⟩⟩
        rw [dryL_ag e3 q]
      · show s 0 ≤ nI q
        rw [hl]; exact nI_le (by omega) (by omega)
    | succ n ih =>
      intro q hq
      have h2 := ih (q + 1) (by omega)
      rw [nI_succ, show dryL N (hmP (dq (toldP s) a m)) (q + 1) = dryL N (hmP (dq (toldP s) a m)) q ||| (if wornL N (nI q) (hmP (dq (toldP s) a m)) = 0 then 1 <<< (nI q &&& 31) else 0) from rfl] at h2
      refine AJ.run kX8_dry [12] 60 ⟨fun hz => absurd hz ?_, fun _ => ?_⟩
      · show ¬ s 0 ≤ nI q
        rw [hl]; exact nI_ge (by omega) (by omega)
      refine AJ.callF kX8_dry (c8_wornAt L (toldP s) j (va_up a 27 (cpL (a 26) 0 (a 27) 0 573)) N (nI q) _ e1 e2) bX8_wornAt rfl (by decide +kernel) [.int (dryL N (hmP (dq (toldP s) a m)) q)] rfl rfl rfl rfl rfl rfl rfl rfl ?_
      rintro r Y ⟨rfl, rfl⟩
      refine ⟨rfl, rfl, AJ.run kX8_dry [12] 60 ⟨fun h3 => ?_, fun h3 => ?_⟩⟩
      · have h3 : ¬ wornL N (nI q) (hmP (dq (toldP s) a m)) = 0 := h3
        rw [if_neg h3] at h2
        exact h2
      · have h3 : wornL N (nI q) (hmP (dq (toldP s) a m)) = 0 := h3
        rw [if_pos h3] at h2
        exact h2
  exact AJ.run kX8_dry [12] 60 (loop l 0 (by omega))
/-- Euclid's steps -/
def gcL : Nat → Nat → Nat → Nat
  | 0, x, _ => x
  | f + 1, x, y => if y = 0 then x else gcL f y (x % y)
theorem c8_divisor (L : xLn) (x y : Nat) (hx : x < 2 ^ 31) (hy : y < 2 ^ 31) : CT L mX8_divisor 0 0 0 [.int (nI x), .int (nI y)] [] (fun r Y => r = some (.int (nI (gcL (y + 1) x y))) ∧ Y = []) := by
  refine CT.of rfl (Nat.le_of_ble_eq_true rfl) (Nat.le_of_ble_eq_true rfl) ?_
  have loop : ∀ (f x' y' : Nat) (x4 : Option Value), x' < 2 ^ 31 → y' < 2 ^ 31 → y' < f → gcL f x' y' = gcL (y + 1) x y → AJ L mX8_divisor 0 0 0 (fun r Y => r = some (.int (nI (gcL (y + 1) x y))) ∧ Y = []) 0 (0, 0) 4 [some (.int (nI x)), some (.int (nI y)), some (.int (nI x')), some (.int (nI y')), x4] [] [] := by
    intro f
    induction f with
    | zero => intro x' y' x4 h1 h2 h3; omega
    | succ f ih =>
      intro x' y' x4 h1 h2 h3 h4
      refine AJ.run kX8_divisor [4] 60 ⟨fun h => ⟨?_, rfl⟩, fun h => ⟨h, ?_⟩⟩
      · have h5 : y' = 0 := by
          rcases Nat.eq_zero_or_pos y' with q | q
          · exact q
          · exact absurd h (nI_ne0 q h2)
        rw [← h4, gcL, if_pos h5]
      · have h5 : y' ≠ 0 := fun q => h (by rw [q]; rfl)
        have hm : x' % y' < y' := Nat.mod_lt _ (by omega)
        have := ih y' (x' % y') (some (.int (nI (x' % y')))) h2 (by omega) (by omega) (by rw [← h4, gcL, if_neg h5])
        rw [← pk_rem h1 (by omega) h2] at this
        exact this
  exact AJ.run kX8_divisor [4] 60 (loop (y + 1) x y none hx hy (by omega) rfl)
/-- what is asked by numbers -/
def cntP (s : xN) (a : Nat → xN) (k : Int32) : Int32 := if k = 0 then s 0 else if k = 1 then s 1 else if k = 2 then s 2 else if k = 3 then s 3 else if k = 4 then s 4 else if k = 5 then s 5 else if k = 6 then s 7 else if k = 7 then s 9 else if k = 8 then a 26 0 else if k = 9 then a 26 7 + a 26 8 else if k = 10 then s 11 else if k = 11 then s 13 else -3
theorem c8_count (L : xLn) (s : xN) (j : Int64) (a : Nat → xN) (k : Int32) : CT L mX8_count 1 0 0 [.ref 0, .int k] (modW s j a) (fun r Y => r = some (.int (cntP s a k)) ∧ Y = modW s j a) := by
  refine CT.of rfl (Nat.le_of_ble_eq_true rfl) (Nat.le_of_ble_eq_true rfl) ?_
  refine AJ.run kX8_count [] 60 ⟨fun h => ⟨by subst h; rfl, rfl⟩, fun h0 => ⟨fun h => ⟨by subst h; rfl, rfl⟩, fun h1 => ⟨fun h => ⟨by subst h; rfl, rfl⟩, fun h2 => ⟨fun h => ⟨by subst h; rfl, rfl⟩, fun h3 => ⟨fun h => ⟨by subst h; rfl, rfl⟩, fun h4 => ⟨fun h => ⟨by subst h; rfl, rfl⟩, fun h5 => ⟨fun h => ⟨by subst h; rfl, rfl⟩, fun h6 => ⟨fun h => ⟨by subst h; rfl, rfl⟩, fun h7 => ⟨fun h => ⟨0, rfl, by omega, by subst h; rfl, rfl⟩, fun h8 => ⟨fun h => ?_, fun h9 => ⟨fun h => ⟨by subst h; rfl, rfl⟩, fun h10 => ⟨fun h => ⟨by subst h; rfl, rfl⟩, fun h11 => ⟨?_, rfl⟩⟩⟩⟩⟩⟩⟩⟩⟩⟩⟩⟩⟩
  · refine AJ.callF kX8_count (c8_haltMany L s j a) bX8_haltMany rfl (by decide +kernel) [] rfl rfl rfl rfl rfl rfl rfl rfl ?_
    rintro r Y ⟨rfl, rfl⟩
    exact ⟨rfl, rfl, AJ.run kX8_count [] 60 ⟨by subst h; rfl, rfl⟩⟩
  · simp [cntP, h0, h1, h2, h3, h4, h5, h6, h7, h8, h9, h10, h11]
end
section
/-! ===== the reference: the law by which all are home soonest ===== -/
def lateP (N : xN) (p : Nat) : Int32 := if N (25 + p) = -1 then 60 else N (25 + p)
def lateL (fo : Int32) (N : xN) : Nat → Int32
  | 0 => 0
  | q + 1 => lateL fo N q + (if hasP fo (nI q) = true then lateP N q else 0)
theorem lateP_ag {h : Nat} {N B : xN} (hN : agN h N B) {q : Nat} (hq : q < 8) : lateP N q = lateP B q := by
  unfold lateP
  rw [hN (25 + q) (by omega)]
theorem lateL_ag {h : Nat} {N B : xN} (fo : Int32) (hN : agN h N B) : ∀ q, q ≤ 8 → lateL fo N q = lateL fo B q
  | 0, _ => rfl
  | q + 1, hq => by rw [lateL, lateL, lateL_ag fo hN q (by omega), lateP_ag hN (by omega)]
/-- like keptM, stronger: only now's rows behind, aside and what was tried may differ -/
def keptD (s : xN) (a : Nat → xN) (s' : xN) (a' : Nat → xN) : Prop := (∀ i, i < 15 → s' i = s i) ∧ (∀ i, i ≠ 26 → i ≠ 27 → a' i = a i) ∧ ∀ i, i < 573 → a' 26 i = a 26 i
theorem keptD.rf (s : xN) (a : Nat → xN) : keptD s a s a := ⟨fun _ _ => rfl, fun _ _ _ => rfl, fun _ _ => rfl⟩
theorem keptD.m {s s' : xN} {a a' : Nat → xN} (h : keptD s a s' a') (m : Nat) : keptM m s a s' a' := ⟨h.1, ⟨h.2.1 6 (by omega) (by omega), h.2.1 8 (by omega) (by omega), h.2.1 12 (by omega) (by omega), h.2.1 14 (by omega) (by omega), h.2.1 28 (by omega) (by omega), h.2.1 29 (by omega) (by omega)⟩, fun i _ => by rw [h.2.1 10 (by omega) (by omega)], h.2.2⟩
/-- the rows behind a day and its putting back -/
def aftA (a : Nat → xN) (N : xN) : Nat → xN := va_up (va_up a 27 (cpL (a 26) 0 (a 27) 0 573)) 26 (cpL (cpL (a 26) 0 (a 27) 0 573) 0 N 0 573)
theorem keptD.day {s s' s'' : xN} {a a' : Nat → xN} (h : keptD s a s' a') (hs : ∀ i, i < 15 → s'' i = s' i) (N : xN) : keptD s a s'' (aftA a' N) := by
  refine ⟨fun i hi => (hs i hi).trans (h.1 i hi), fun i h1 h2 => ?_, fun i hi => ?_⟩
  · show va_up (va_up a' 27 _) 26 _ i = a i
    unfold va_up
    rw [if_neg h1, if_neg h2]
    exact h.2.1 i h1 h2
  · exact (put_back _ _ _ hi).trans (h.2.2 i hi)
def lawN (s : xN) (a : Nat → xN) (m t : Nat) : xN := dq (upd (toldP s) 30 (nI t)) a m
def lawS (fo : Int32) (F : Nat → xN) : Nat → Int32 × Int32
  | 0 => (-1, 0)
  | t + 1 => if (lawS fo F t).1 = -1 ∨ lateL fo (F t) 8 < (lawS fo F t).2 then (nI t, lateL fo (F t) 8) else lawS fo F t
/-- the sum over those told, in the law's loop -/
theorem c8_law_sum (L : xLn) (Q : Option Value → List xE → Prop) (s : xN) (j : Int64) (a : Nat → xN) (N : xN) (n0 : Nat) (k x2 x3 x4 : Int32) (G : Nat → Int32) (hG : ∀ q, q < 8 → G (q + 1) = G q + (if hasP (s 7) (nI q) = true then lateP N q else 0))
    (nxt : AJ L mX8_law 4 0 0 Q n0 (0, 0) 86 [some (.ref 0), some (.int k), some (.int x2), some (.int x3), some (.int x4), some (.int (G 8)), some (.int (nI 8))] [] (modN s j a N)) :
    ∀ (n q : Nat), q + n = 8 → AJ L mX8_law 4 0 0 Q n0 (0, 0) 46 [some (.ref 0), some (.int k), some (.int x2), some (.int x3), some (.int x4), some (.int (G q)), some (.int (nI q))] [] (modN s j a N) := by
  intro n
  induction n with
  | zero =>
    intro q hq
    obtain rfl : q = 8 := by omega
    exact AJ.run kX8_law [46, 86] 60 ⟨fun _ => nxt, fun hz => absurd (by decide) hz⟩
  | succ n ih =>
    intro q hq
    have h2 := ih (q + 1) (by omega)
    rw [nI_succ, hG q (by omega)] at h2
    refine AJ.run kX8_law [46] 60 ⟨fun hz => absurd hz (nI_ge (b := 8) (by omega) (by omega)), fun _ => ?_⟩
    refine AJ.callZ kX8_law (c8_has L (s 7) (nI q)) bX8_has rfl (by decide +kernel) [.int (G q)] rfl rfl rfl rfl rfl ?_
    rintro r rfl
    refine AJ.run kX8_law [46] 60 ⟨fun h3 => ?_, fun h3 => ?_⟩
    · rw [bI_eq0] at h3
      rw [if_neg (by rw [h3]; simp)] at h2
      exact h2
    · rw [bI_ne0] at h3
      rw [if_pos h3] at h2
      refine AJ.callF kX8_law (c8_late L s j a N q (by omega)) bX8_late rfl (by decide +kernel) [.int (G q)] rfl rfl rfl rfl rfl rfl rfl rfl ?_
      rintro r Y ⟨rfl, rfl⟩
      exact ⟨rfl, rfl, AJ.run kX8_law [46] 60 h2⟩
/-- one law tried -/
theorem c8_law_one (L : xLn) (Q : Option Value → List xE → Prop) (s : xN) (j : Int64) (a : Nat → xN) (m t n0 : Nat) (k x2 x3 : Int32) (x5 x6 : Option Value) (h5 : x5 = none ∨ ∃ v, x5 = some (.int v)) (h6 : x6 = none ∨ ∃ v, x6 = some (.int v)) (ht : t < 8) (hokd : okD (upd (toldP s) 30 (nI t)) a m)
    (nxt : ∀ (N : xN) (g : Int32) (x6' : Int32), isDay (upd (toldP s) 30 (nI t)) a m N → g = lateL (s 7) N 8 → AJ L mX8_law 4 0 0 Q n0 (0, 0) 19 [some (.ref 0), some (.int k), some (.int (if x2 = -1 ∨ g < x3 then nI t else x2)), some (.int (if x2 = -1 ∨ g < x3 then g else x3)), some (.int (nI t + 1)), some (.int g), some (.int x6')] [] (modW (upd (toldP s) 30 (nI t)) j (aftA a N))) :
    AJ L mX8_law 4 0 0 Q n0 (0, 0) 19 [some (.ref 0), some (.int k), some (.int x2), some (.int x3), some (.int (nI t)), x5, x6] [] (modW s j a) := by
  have wf : ∀ X : List xE, xwf X [some (.ref 0), some (.int k), some (.int x2), some (.int x3), some (.int (nI t)), none, none] [] = true → xwf X [some (.ref 0), some (.int k), some (.int x2), some (.int x3), some (.int (nI t)), x5, x6] [] = true := by
    intro X hX
    rcases h5 with rfl | ⟨v5, rfl⟩ <;> rcases h6 with rfl | ⟨v6, rfl⟩ <;> simpa [xwf, xokv] using hX
  refine AJ.run kX8_law [19] 60 ⟨fun hz => absurd hz (nI_ge (b := 8) (by omega) (by omega)), fun _ => ?_⟩
  refine AJ.callF kX8_law (c8_asTold L s j a) bX8_asTold rfl (by decide +kernel) [] rfl rfl rfl rfl rfl (wf _ rfl) rfl rfl ?_
  rintro r Y ⟨rfl, rfl⟩
  refine ⟨rfl, rfl, AJ.run kX8_law [19] 60 ?_⟩
  refine AJ.callF kX8_law (c8_dayA L (upd (toldP s) 30 (nI t)) j a m hokd) bX8_goDay rfl (by decide +kernel) [] rfl rfl rfl rfl rfl (wf _ rfl) rfl rfl ?_
  rintro r Y ⟨rfl, N, hN, rfl⟩
  refine ⟨rfl, rfl, ?_⟩
  have nxt := fun g x6' hg => nxt N g x6' hN hg
  obtain ⟨G, hGe⟩ : ∃ G : Nat → Int32, G = lateL (s 7) N := ⟨_, rfl⟩
  have hG0 : G 0 = 0 := by rw [hGe]; rfl
  have hG : ∀ q, q < 8 → G (q + 1) = G q + (if hasP (s 7) (nI q) = true then lateP N q else 0) := fun q _ => by rw [hGe]; rfl
  have nxt := fun x6' => nxt (G 8) x6' (by rw [hGe])
  have at86 : AJ L mX8_law 4 0 0 Q n0 (0, 0) 86 [some (.ref 0), some (.int k), some (.int x2), some (.int x3), some (.int (nI t)), some (.int (G 8)), some (.int (nI 8))] [] (modN (upd (toldP s) 30 (nI t)) j (va_up a 27 (cpL (a 26) 0 (a 27) 0 573)) N) := by
    generalize G 8 = g at nxt
    refine AJ.run kX8_law [] 60 ?_
    refine AJ.callF kX8_law (c8_putBack L (upd (toldP s) 30 (nI t)) j (va_up a 27 (cpL (a 26) 0 (a 27) 0 573)) N) bX8_putBack rfl (by decide +kernel) [] rfl rfl rfl rfl rfl rfl rfl rfl ?_
    rintro r Y ⟨rfl, rfl⟩
    have tk : x2 = -1 ∨ g < x3 → AJ L mX8_law 4 0 0 Q n0 (0, 0) 106 [some (.ref 0), some (.int k), some (.int x2), some (.int x3), some (.int (nI t)), some (.int g), some (.int (nI 8))] [.int 1] (modN (upd (toldP s) 30 (nI t)) j (va_up a 27 (cpL (a 26) 0 (a 27) 0 573)) (cpL (cpL (a 26) 0 (a 27) 0 573) 0 N 0 573)) := by
      intro hc
      have nxt := nxt 1
      rw [if_pos hc, if_pos hc] at nxt
      exact AJ.run kX8_law [19] 60 ⟨fun hz => absurd hz (by decide), fun _ => ⟨fun hz => absurd hz (by decide), fun _ => nxt⟩⟩
    have nt : ¬ (x2 = -1 ∨ g < x3) → AJ L mX8_law 4 0 0 Q n0 (0, 0) 106 [some (.ref 0), some (.int k), some (.int x2), some (.int x3), some (.int (nI t)), some (.int g), some (.int (nI 8))] [.int 0] (modN (upd (toldP s) 30 (nI t)) j (va_up a 27 (cpL (a 26) 0 (a 27) 0 573)) (cpL (cpL (a 26) 0 (a 27) 0 573) 0 N 0 573)) := by
      intro hc
      have nxt := nxt 0
      rw [if_neg hc, if_neg hc] at nxt
      exact AJ.run kX8_law [19] 60 ⟨fun _ => ⟨fun _ => nxt, fun hz => absurd rfl hz⟩, fun hz => absurd rfl hz⟩
    refine ⟨rfl, rfl, AJ.run kX8_law [106] 60 ⟨fun h3 => tk (Or.inl h3), fun h3 => ⟨fun h4 => nt ?_, fun h4 => tk (Or.inr ?_)⟩⟩⟩
    · have h3 : ¬ x2 = -1 := h3
      have h4 : x3 ≤ g := h4
      rintro (h7 | h7)
      · exact h3 h7
      · simp only [i32_lt, i32_le] at h4 h7
        omega
    · have h4 : ¬ x3 ≤ g := h4
      simp only [i32_lt, i32_le] at h4 ⊢
      omega
  have := c8_law_sum L Q (upd (toldP s) 30 (nI t)) j (va_up a 27 (cpL (a 26) 0 (a 27) 0 573)) N n0 k x2 x3 (nI t) G hG at86 8 0 rfl
  rw [hG0] at this
  rcases h5 with rfl | ⟨v5, rfl⟩ <;> rcases h6 with rfl | ⟨v6, rfl⟩ <;> exact AJ.run kX8_law [46] 60 this
theorem lawS_1 (fo : Int32) (F : Nat → xN) (t : Nat) : (lawS fo F (t + 1)).1 = (if (lawS fo F t).1 = -1 ∨ lateL fo (F t) 8 < (lawS fo F t).2 then nI t else (lawS fo F t).1) ∧ (lawS fo F (t + 1)).2 = (if (lawS fo F t).1 = -1 ∨ lateL fo (F t) 8 < (lawS fo F t).2 then lateL fo (F t) 8 else (lawS fo F t).2) := by
  rw [lawS]
  split
  · exact ⟨rfl, rfl⟩
  · exact ⟨rfl, rfl⟩
theorem c8_law (L : xLn) (s : xN) (j : Int64) (a : Nat → xN) (m : Nat) (hok : okT s a m) (k : Int32) : CT L mX8_law 4 0 0 [.ref 0, .int k] (modW s j a) (fun r Y => r = some (.int (if inP k 0 1 = true then (if k = 0 then (lawS (s 7) (lawN s a m) 8).1 else (lawS (s 7) (lawN s a m) 8).2) else -3)) ∧ ∃ s' j' a', Y = modW s' j' a' ∧ keptM m s a s' a') := by
  have hdq : ∀ (t : Nat) (s' : xN) (a' : Nat → xN), keptD s a s' a' → dq (upd (toldP s') 30 (nI t)) a' m = lawN s a m t := by
    intro t s' a' hK
    unfold lawN
    have e : eqT (upd (toldP s) 30 (nI t)) a (upd (toldP s') 30 (nI t)) a' := by
     refine ⟨⟨?_, ?_, ?_, ?_, ?_, rfl, ?_⟩, hK.2.1 6 (by omega) (by omega), hK.2.1 8 (by omega) (by omega), hK.2.1 10 (by omega) (by omega)⟩
     · exact hK.1 0 (by omega)
     · exact hK.1 3 (by omega)
     · exact hK.1 4 (by omega)
     · exact hK.1 5 (by omega)
     · exact hK.1 7 (by omega)
     · exact hK.1 2 (by omega)
    exact dq_congr e m
  obtain ⟨S, hS⟩ : ∃ S : Nat → Int32 × Int32, S = lawS (s 7) (lawN s a m) := ⟨_, rfl⟩
  have hS0 : S 0 = (-1, 0) := by rw [hS]; rfl
  have hS1 : ∀ t, (S (t + 1)).1 = (if (S t).1 = -1 ∨ lateL (s 7) (lawN s a m t) 8 < (S t).2 then nI t else (S t).1) ∧ (S (t + 1)).2 = (if (S t).1 = -1 ∨ lateL (s 7) (lawN s a m t) 8 < (S t).2 then lateL (s 7) (lawN s a m t) 8 else (S t).2) := fun t => by rw [hS]; exact lawS_1 _ _ t
  rw [← hS]
  generalize lawN s a m = F at hdq hS1
  clear hS
  refine CT.of rfl (Nat.le_of_ble_eq_true rfl) (Nat.le_of_ble_eq_true rfl) ?_
  refine AJ.run kX8_law [] 60 ?_
  refine AJ.callZ kX8_law (c8_in L k 0 1) bX8_in rfl (by decide +kernel) [] rfl rfl rfl rfl rfl ?_
  rintro r rfl
  refine AJ.run kX8_law [19] 60 ⟨fun h => ?_, fun h => ⟨by rw [bI_eq0] at h; rw [if_neg (by rw [h]; simp)], s, j, a, rfl, keptM.rf m s a⟩⟩
  rw [bI_ne0] at h
  have loop : ∀ (n t : Nat) (s' : xN) (a' : Nat → xN) (x5 x6 : Option Value), t + n = 8 → keptD s a s' a' → (x5 = none ∨ ∃ v, x5 = some (.int v)) → (x6 = none ∨ ∃ v, x6 = some (.int v)) → AJ L mX8_law 4 0 0 (fun r Y => r = some (.int (if inP k 0 1 = true then (if k = 0 then (S 8).1 else (S 8).2) else -3)) ∧ ∃ s' j' a', Y = modW s' j' a' ∧ keptM m s a s' a') (modW s j a).length (0, 0) 19 [some (.ref 0), some (.int k), some (.int (S t).1), some (.int (S t).2), some (.int (nI t)), x5, x6] [] (modW s' j a') := by
    intro n
    induction n with
    | zero =>
      intro t s' a' x5 x6 ht hK h5 h6
      obtain rfl : t = 8 := by omega
      refine AJ.run kX8_law [19] 60 ⟨fun _ => ⟨fun h2 => ⟨?_, s', j, a', rfl, hK.m m⟩, fun h2 => ⟨?_, s', j, a', rfl, hK.m m⟩⟩, fun hz => absurd (by decide) hz⟩
      · rw [if_pos h, if_neg h2]
      · rw [if_pos h, if_pos h2]
    | succ n ih =>
      intro t s' a' x5 x6 ht hK h5 h6
      have hokd : okD (upd (toldP s') 30 (nI t)) a' m := by
        refine ⟨?_, by have := hok.2.1; omega, fun q hq => ?_⟩
        · show s' 9 = nI m
          rw [hK.1 9 (by omega)]; exact hok.1
        · rw [hK.2.1 10 (by omega) (by omega)]; exact hok.2.2 q hq
      refine c8_law_one L _ s' j a' m t _ k (S t).1 (S t).2 x5 x6 h5 h6 (by omega) hokd (fun N g x6' hN hg => ?_)
      obtain ⟨e1, e2, e3⟩ := isDay_hm hN
      rw [hdq t s' a' hK] at e3
      have eg : g = lateL (s 7) (F t) 8 := by rw [hg, hK.1 7 (by omega), lateL_ag (s 7) e3 8 (by omega)]
      rw [eg, ← (hS1 t).1, ← (hS1 t).2, ← nI_succ]
      exact ih (t + 1) _ _ _ _ (by omega) (hK.day (s'' := upd (toldP s') 30 (nI t)) (fun i hi => by rw [pk_un (by omega)]; exact toldP_lo s' hi) N) (Or.inr ⟨_, rfl⟩) (Or.inr ⟨_, rfl⟩)
  have := loop 8 0 s a none none rfl (keptD.rf s a) (Or.inl rfl) (Or.inl rfl)
  rw [hS0] at this
  exact this
end
section
/-! ===== the reference: what is asked of today; kept days; seen halts; the text ===== -/
theorem in_lt {k : Int32} {m : Nat} (hm : m < 1000) (h : inP k 0 (nI m - 1) = true) : ∃ p, p < m ∧ k = nI p := by
  have h := of_decide_eq_true h
  cases m with
  | zero =>
    exfalso
    obtain ⟨h1, h2⟩ := h
    have e : (nI 0 - 1 : Int32).toInt = -1 := rfl
    have e0 : (0 : Int32).toInt = 0 := rfl
    simp only [i32_le] at h1 h2
    omega
  | succ m =>
    rw [nI_pred] at h
    obtain ⟨p, hp, e⟩ := inP_nI (n := m) (by omega) (decide_eq_true h)
    exact ⟨p, by omega, e⟩
theorem lt_in {p m : Nat} (hm : m < 1000) (h : p < m) : inP (nI p) 0 (nI m - 1) = true := by
  obtain ⟨q, rfl⟩ : ∃ q, m = q + 1 := ⟨m - 1, by omega⟩
  rw [nI_pred]
  exact decide_eq_true ⟨nI_pos' (by omega), nI_le (by omega) (by omega)⟩
def moodP (s : xN) (a : Nat → xN) (k w : Int32) : Int32 := if inP k 0 (s 9 - 1) = true then (if w = 0 then a 10 (3 * k.toNatClampNeg) else if w = 1 then a 10 (3 * k.toNatClampNeg + 1) else if w = 2 then a 10 (3 * k.toNatClampNeg + 2) else if w = 3 then a 26 (41 + k.toNatClampNeg) else if w = 4 then a 26 (67 + k.toNatClampNeg) else -3) else -2
theorem c8_mood (L : xLn) (s : xN) (j : Int64) (a : Nat → xN) (m : Nat) (hok : okT s a m) (k w : Int32) : CT L mX8_mood 1 0 0 [.ref 0, .int k, .int w] (modW s j a) (fun r Y => r = some (.int (moodP s a k w)) ∧ Y = modW s j a) := by
  refine CT.of rfl (Nat.le_of_ble_eq_true rfl) (Nat.le_of_ble_eq_true rfl) ?_
  refine AJ.run kX8_mood [] 60 ?_
  refine AJ.callZ kX8_mood (c8_in L k 0 (s 9 - 1)) bX8_in rfl (by decide +kernel) [] rfl rfl rfl rfl rfl ?_
  rintro r rfl
  refine AJ.run kX8_mood [17] 60 ⟨fun h => ?_, fun h => ⟨by rw [bI_eq0] at h; rw [moodP, if_neg (by rw [h]; simp)], rfl⟩⟩
  rw [bI_ne0] at h
  have h1 := h
  rw [hok.1] at h1
  obtain ⟨p, hp, rfl⟩ := in_lt (by have := hok.2.1; omega) h1
  have hm := hok.2.1
  have cl : (nI p).toNatClampNeg = p := nI_clamp (by omega)
  rw [moodP, if_pos h, cl]
  refine AJ.run kX8_mood [] 60 ⟨fun e => ⟨3 * p, ?_, by omega, ?_, rfl⟩, fun n0 => ⟨fun e => ⟨3 * p + 1, ?_, by omega, ?_, rfl⟩, fun n1 => ⟨fun e => ⟨3 * p + 2, ?_, by omega, ?_, rfl⟩, fun n2 => ⟨fun e => ⟨41 + p, nI_add 41 p, by omega, ?_, rfl⟩, fun n3 => ⟨fun e => ⟨67 + p, nI_add 67 p, by omega, ?_, rfl⟩, fun n4 => ⟨?_, rfl⟩⟩⟩⟩⟩⟩
  · subst e; simp only [fa_lit, nI_add, pk_mul]; rfl
  · subst e; rfl
  · subst e; simp only [fa_lit, nI_add, pk_mul]
  · subst e; rfl
  · subst e; simp only [fa_lit, nI_add, pk_mul]
  · subst e; rfl
  · subst e; rfl
  · subst e; rfl
  · rw [if_neg n0, if_neg n1, if_neg n2, if_neg n3, if_neg n4]
def personP (s : xN) (a : Nat → xN) (k w : Int32) : Int32 := if isPersonP s k = true then (if w = 0 then plP (a 26) k.toNatClampNeg else if w = 1 then a 26 (17 + k.toNatClampNeg) else if w = 2 then a 26 (25 + k.toNatClampNeg) else if w = 3 then a 26 (33 + k.toNatClampNeg) else if w = 4 then a 8 (2 * k.toNatClampNeg + 1) else -3) else -2
theorem c8_person (L : xLn) (s : xN) (j : Int64) (a : Nat → xN) (hN : abO (a 26)) (k w : Int32) : CT L mX8_person 2 0 0 [.ref 0, .int k, .int w] (modW s j a) (fun r Y => r = some (.int (personP s a k w)) ∧ Y = modW s j a) := by
  refine CT.of rfl (Nat.le_of_ble_eq_true rfl) (Nat.le_of_ble_eq_true rfl) ?_
  refine AJ.run kX8_person [] 60 ?_
  refine AJ.callF kX8_person (c8_isPerson L s j a k) bX8_isPerson rfl (by decide +kernel) [] rfl rfl rfl rfl rfl rfl rfl rfl ?_
  rintro r Y ⟨rfl, rfl⟩
  refine ⟨rfl, rfl, AJ.run kX8_person [11] 60 ⟨fun h => ?_, fun h => ⟨by rw [bI_eq0] at h; rw [personP, if_neg (by rw [h]; simp)], rfl⟩⟩⟩
  rw [bI_ne0] at h
  have hk : ∃ p, p ≤ 7 ∧ k = nI p := by
    have h2 := h
    simp only [isPersonP, Bool.and_eq_true] at h2
    exact inP_nI (n := 7) (by omega) h2.1
  obtain ⟨p, hp, rfl⟩ := hk
  have cl : (nI p).toNatClampNeg = p := nI_clamp (by omega)
  rw [personP, if_pos h, cl]
  refine AJ.run kX8_person [] 60 ⟨fun e => ?_, fun n0 => ⟨fun e => ⟨17 + p, nI_add 17 p, by omega, ?_, rfl⟩, fun n1 => ⟨fun e => ⟨25 + p, nI_add 25 p, by omega, ?_, rfl⟩, fun n2 => ⟨fun e => ⟨33 + p, nI_add 33 p, by omega, ?_, rfl⟩, fun n3 => ⟨fun e => ⟨2 * p + 1, ?_, by omega, ?_, rfl⟩, fun n4 => ⟨?_, rfl⟩⟩⟩⟩⟩⟩
  · refine AJ.callF kX8_person (c8_placeNow L s j a (a 26) p (by omega) hN) bX8_placeNow rfl (by decide +kernel) [] rfl rfl rfl rfl rfl rfl rfl rfl ?_
    rintro r Y ⟨rfl, rfl⟩
    exact ⟨rfl, rfl, AJ.run kX8_person [] 60 ⟨by subst e; rfl, rfl⟩⟩
  · subst e; rfl
  · subst e; rfl
  · subst e; rfl
  · simp only [fa_lit, nI_add, pk_mul]
  · subst e; rfl
  · rw [if_neg n0, if_neg n1, if_neg n2, if_neg n3, if_neg n4]
def abrL (fo : Int32) (N : xN) (k : Int32) : Nat → Int32
  | 0 => 0
  | q + 1 => abrL fo N k q ||| (if hasP fo (nI q) = true ∧ N (17 + q) = k then 1 <<< (nI q &&& 31) else 0)
def tramP (s : xN) (a : Nat → xN) (k w : Int32) : Int32 := if (inP k 0 1 && hasP (s 5) k) = true then (if w = 0 then a 26 (1 + k.toNatClampNeg) else if w = 1 then a 26 (3 + k.toNatClampNeg) else if w = 2 then abrL (s 7) (a 26) k 8 else if w = 3 then a 26 (7 + k.toNatClampNeg) else -3) else -2
theorem c8_tram_set (L : xLn) (Q : Option Value → List xE → Prop) (s : xN) (j : Int64) (a : Nat → xN) (n0 : Nat) (k w : Int32) (G : Nat → Int32) (hG : ∀ q, q < 8 → G (q + 1) = G q ||| (if hasP (s 7) (nI q) = true ∧ a 26 (17 + q) = k then 1 <<< (nI q &&& 31) else 0))
    (nxt : AJ L mX8_tram 2 0 0 Q n0 (0, 0) 66 [some (.ref 0), some (.int k), some (.int w), some (.int (G 8)), some (.int (nI 8))] [] (modW s j a)) :
    ∀ (n q : Nat), q + n = 8 → AJ L mX8_tram 2 0 0 Q n0 (0, 0) 16 [some (.ref 0), some (.int k), some (.int w), some (.int (G q)), some (.int (nI q))] [] (modW s j a) := by
  intro n
  induction n with
  | zero =>
    intro q hq
    obtain rfl : q = 8 := by omega
    exact AJ.run kX8_tram [16, 66] 60 ⟨fun _ => nxt, fun hz => absurd (by decide) hz⟩
  | succ n ih =>
    intro q hq
    have h2 := ih (q + 1) (by omega)
    rw [nI_succ, hG q (by omega)] at h2
    refine AJ.run kX8_tram [16] 60 ⟨fun hz => absurd hz (nI_ge (b := 8) (by omega) (by omega)), fun _ => ?_⟩
    refine AJ.callZ kX8_tram (c8_has L (s 7) (nI q)) bX8_has rfl (by decide +kernel) [.int (G q)] rfl rfl rfl rfl rfl ?_
    rintro r rfl
    refine AJ.run kX8_tram [16] 60 ⟨fun h3 => ?_, fun h3 => ⟨17 + q, nI_add 17 q, by omega, fun h4 => ?_, fun h4 => ?_⟩⟩
    · rw [bI_eq0] at h3
      rw [if_neg (by rw [h3]; simp)] at h2
      exact h2
    · have h4 : ¬ a 26 (17 + q) = k := h4
      rw [if_neg (fun z => h4 z.2)] at h2
      exact h2
    · have h4 : a 26 (17 + q) = k := h4
      rw [bI_ne0] at h3
      rw [if_pos ⟨h3, h4⟩] at h2
      exact h2
theorem c8_tram (L : xLn) (s : xN) (j : Int64) (a : Nat → xN) (k w : Int32) : CT L mX8_tram 2 0 0 [.ref 0, .int k, .int w] (modW s j a) (fun r Y => r = some (.int (tramP s a k w)) ∧ Y = modW s j a) := by
  refine CT.of rfl (Nat.le_of_ble_eq_true rfl) (Nat.le_of_ble_eq_true rfl) ?_
  refine AJ.run kX8_tram [] 60 ?_
  refine AJ.callF kX8_tram (c8_isTram L s j a k) bX8_isTram rfl (by decide +kernel) [] rfl rfl rfl rfl rfl rfl rfl rfl ?_
  rintro r Y ⟨rfl, rfl⟩
  refine ⟨rfl, rfl, AJ.run kX8_tram [11] 60 ⟨fun h => ?_, fun h => ⟨by rw [bI_eq0] at h; rw [tramP, if_neg (by rw [h]; simp)], rfl⟩⟩⟩
  rw [bI_ne0] at h
  have h2 := h
  simp only [Bool.and_eq_true] at h2
  obtain ⟨p, hp, rfl⟩ := inP_nI (n := 1) (by omega) h2.1
  have cl : (nI p).toNatClampNeg = p := nI_clamp (by omega)
  rw [tramP, if_pos h, cl]
  obtain ⟨G, hGe⟩ : ∃ G : Nat → Int32, G = abrL (s 7) (a 26) (nI p) := ⟨_, rfl⟩
  have hG0 : G 0 = 0 := by rw [hGe]; rfl
  have hG : ∀ q, q < 8 → G (q + 1) = G q ||| (if hasP (s 7) (nI q) = true ∧ a 26 (17 + q) = nI p then 1 <<< (nI q &&& 31) else 0) := fun q _ => by rw [hGe]; rfl
  rw [← hGe]
  clear hGe
  have := c8_tram_set L (fun r Y => r = some (.int (if w = 0 then a 26 (1 + p) else if w = 1 then a 26 (3 + p) else if w = 2 then G 8 else if w = 3 then a 26 (7 + p) else -3)) ∧ Y = modW s j a) s j a (modW s j a).length (nI p) w G hG ?_ 8 0 rfl
  · rw [hG0] at this
    exact AJ.run kX8_tram [16] 60 this
  refine AJ.run kX8_tram [] 60 ⟨fun e => ⟨1 + p, nI_add 1 p, by omega, ?_, rfl⟩, fun n0 => ⟨fun e => ⟨3 + p, nI_add 3 p, by omega, ?_, rfl⟩, fun n1 => ⟨fun e => ⟨?_, rfl⟩, fun n2 => ⟨fun e => ⟨7 + p, nI_add 7 p, by omega, ?_, rfl⟩, fun n3 => ⟨?_, rfl⟩⟩⟩⟩⟩
  · subst e; rfl
  · subst e; rfl
  · subst e; rfl
  · subst e; rfl
  · rw [if_neg n0, if_neg n1, if_neg n2, if_neg n3]
def haltQ (a : Nat → xN) (i w : Int32) : Int32 := if ¬ i < 0 ∧ inP w 0 4 = true then (if i < a 26 7 + a 26 8 then (if w < 4 then a 26 (93 + 4 * i.toNatClampNeg + w.toNatClampNeg) else a 10 (3 * (a 26 (93 + 4 * i.toNatClampNeg + 3)).toNatClampNeg)) else -1) else -3
theorem c8_halt (L : xLn) (s : xN) (j : Int64) (a : Nat → xN) (h : Nat) (hh : a 26 7 + a 26 8 = nI h) (h120 : h ≤ 120) (hr : ∀ i, i < h → ∃ c, c < 26 ∧ a 26 (93 + 4 * i + 3) = nI c) (i w : Int32) : CT L mX8_halt 1 0 0 [.ref 0, .int i, .int w] (modW s j a) (fun r Y => r = some (.int (haltQ a i w)) ∧ Y = modW s j a) := by
  refine CT.of rfl (Nat.le_of_ble_eq_true rfl) (Nat.le_of_ble_eq_true rfl) ?_
  refine AJ.run kX8_halt [16] 60 ⟨fun h1 => ⟨by rw [haltQ, if_neg (fun z => z.1 h1)], rfl⟩, fun h1 => ?_⟩
  refine AJ.callZ kX8_halt (c8_in L w 0 4) bX8_in rfl (by decide +kernel) [] rfl rfl rfl rfl rfl ?_
  rintro r rfl
  refine AJ.run kX8_halt [16] 60 ⟨fun h2 => ?_, fun h2 => ⟨by rw [bI_eq0] at h2; rw [haltQ, if_neg (fun z => by rw [h2] at z; simp at z)], rfl⟩⟩
  rw [bI_ne0] at h2
  rw [haltQ, if_pos ⟨h1, h2⟩]
  obtain ⟨q, hq, rfl⟩ := inP_nI (n := 4) (by omega) h2
  refine AJ.run kX8_halt [] 60 ?_
  refine AJ.callF kX8_halt (c8_haltMany L s j a) bX8_haltMany rfl (by decide +kernel) [.int i] rfl rfl rfl rfl rfl rfl rfl rfl ?_
  rintro r Y ⟨rfl, rfl⟩
  refine ⟨rfl, rfl, AJ.run kX8_halt [26] 60 ⟨fun h3 => ?_, fun h3 => ⟨by rw [if_neg h3], rfl⟩⟩⟩
  rw [if_pos h3]
  obtain ⟨p, hp, rfl⟩ := nI_of h1
  have h3 : nI p < a 26 7 + a 26 8 := h3
  rw [hh] at h3
  have hph : p < h := (nI_ltI (by omega) (by omega)).mp h3
  rw [nI_clamp (by omega), nI_clamp (by omega)]
  obtain ⟨c, hc, ec⟩ := hr p hph
  refine AJ.run kX8_halt [] 60 ⟨fun h4 => ⟨93 + 4 * p + 3, by simp only [fa_lit, nI_add, pk_mul], by omega, 3 * c, ?_, by omega, ?_, rfl⟩, fun h4 => ⟨93 + 4 * p + q, by simp only [fa_lit, nI_add, pk_mul], by have h5 : ¬ nI 4 ≤ nI q := h4; rw [nI_leI (by omega) (by omega)] at h5; omega, ?_, rfl⟩⟩
  · show 3 * a 26 (93 + 4 * p + 3) = nI (3 * c)
    rw [ec]; simp only [fa_lit, pk_mul]
  · have h4 : (4 : Int32) ≤ nI q := h4
    rw [if_neg (by
      intro z
      simp only [i32_lt, i32_le] at h4 z
      omega), ec, nI_clamp (by omega)]
  · have h4 : ¬ (4 : Int32) ≤ nI q := h4
    rw [if_pos (by
      simp only [i32_lt, i32_le] at h4 ⊢
      omega)]
end
section
/-! ===== the reference: minutes that go; kept days; seen halts; the text; moods drawn ===== -/
theorem c8_seen (L : xLn) (s : xN) (j : Int64) (a : Nat → xN) (n : Nat) (hs : s 11 = nI n) (hn : n ≤ 8) (p t : Int32) : CT L mX8_seen 2 0 0 [.ref 0, .int p, .int t] (modW s j a) (fun r Y => (inP p 0 (s 0 - 1) = false ∧ r = some (.int (-2)) ∧ Y = modW s j a) ∨ (inP p 0 (s 0 - 1) = true ∧ inP t 0 59 = false ∧ r = some (.int (-3)) ∧ Y = modW s j a) ∨ (inP p 0 (s 0 - 1) = true ∧ inP t 0 59 = true ∧ n = 8 ∧ r = some (.int (-5)) ∧ Y = modW s j a) ∨ (inP p 0 (s 0 - 1) = true ∧ inP t 0 59 = true ∧ n < 8 ∧ r = some (.int (nI (n + 1))) ∧ Y = modW (upd s 11 (nI (n + 1))) j (va_up a 12 (upd (upd (a 12) (2 * n) p) (2 * n + 1) t)))) := by
  refine CT.of rfl (Nat.le_of_ble_eq_true rfl) (Nat.le_of_ble_eq_true rfl) ?_
  refine AJ.run kX8_seen [] 60 ?_
  refine AJ.callF kX8_seen (c8_isPlace L s j a p) bX8_isPlace rfl (by decide +kernel) [] rfl rfl rfl rfl rfl rfl rfl rfl ?_
  rintro r Y ⟨rfl, rfl⟩
  refine ⟨rfl, rfl, AJ.run kX8_seen [] 60 ⟨fun h => ?_, fun h => Or.inl ⟨(bI_eq0 _).mp h, rfl, rfl⟩⟩⟩
  have h := (bI_ne0 _).mp h
  refine AJ.callZ kX8_seen (c8_in L t 0 59) bX8_in rfl (by decide +kernel) [] rfl rfl rfl rfl rfl ?_
  rintro r rfl
  refine AJ.run kX8_seen [] 60 ⟨fun h2 => ⟨fun h3 => ?_, fun h3 => Or.inr (Or.inr (Or.inl ⟨h, (bI_ne0 _).mp h2, ?_, rfl, rfl⟩))⟩, fun h2 => Or.inr (Or.inl ⟨h, (bI_eq0 _).mp h2, rfl, rfl⟩)⟩
  · have h3 : ¬ s 11 = 8 := h3
    have hn8 : n < 8 := by
      rcases Nat.lt_or_ge n 8 with q | q
      · exact q
      · exact absurd (by rw [hs, show n = 8 by omega]; rfl) h3
    refine ⟨2 * n, by show 2 * s 11 = _; rw [hs]; simp only [fa_lit, pk_mul], by omega, 2 * n + 1, by show 2 * s 11 + 1 = _; rw [hs]; simp only [fa_lit, nI_add, pk_mul], by omega, Or.inr (Or.inr (Or.inr ⟨h, (bI_ne0 _).mp h2, hn8, ?_, ?_⟩))⟩
    · show some (Value.int (s 11 + 1)) = _
      rw [hs, nI_1]
    · rw [← nI_1, ← hs]; rfl
  · have h3 : s 11 = 8 := h3
    rw [hs] at h3
    exact (nI_eq (b := 8) (by omega) (by omega)).mp h3
theorem c8_keep (L : xLn) (s : xN) (j : Int64) (a : Nat → xN) (k : Int32) : CT L mX8_keep 1 0 0 [.ref 0, .int k] (modW s j a) (fun r Y => (inP k 0 1 = false ∧ r = some (.int (-2)) ∧ Y = modW s j a) ∨ (∃ p, p < 2 ∧ k = nI p ∧ r = some (.int (a 26 0)) ∧ Y = modW s j (va_up (va_up a 28 (cpL (a 26) 0 (a 28) (573 * p) 573)) 29 (upd (a 29) p 1)))) := by
  refine CT.of rfl (Nat.le_of_ble_eq_true rfl) (Nat.le_of_ble_eq_true rfl) ?_
  refine AJ.run kX8_keep [] 60 ?_
  refine AJ.callZ kX8_keep (c8_in L k 0 1) bX8_in rfl (by decide +kernel) [] rfl rfl rfl rfl rfl ?_
  rintro r rfl
  refine AJ.run kX8_keep [] 60 ⟨fun h => ?_, fun h => Or.inl ⟨(bI_eq0 _).mp h, rfl, rfl⟩⟩
  obtain ⟨p, hp, rfl⟩ := inP_nI (n := 1) (by omega) ((bI_ne0 _).mp h)
  have hC := c8_copy_573_1146 L (a 26) (a 28) 0 (573 * p) (by omega) (by omega)
  rw [show nI (573 * p) = 573 * nI p by simp only [fa_lit, pk_mul]] at hC
  refine AJ.callS kX8_keep hC bX8_copy rfl (by decide +kernel) [7, 9] [] rfl rfl rfl rfl rfl rfl rfl ?_
  rintro r Y ⟨rfl, rfl⟩
  refine ⟨rfl, ?_⟩
  show AJ L mX8_keep 1 0 0 _ _ (0, 0) 29 _ [] (modW s j (va_up a 28 (cpL (a 26) 0 (a 28) (573 * p) 573)))
  exact AJ.run kX8_keep [] 60 ⟨p, rfl, by omega, Or.inr rfl, 0, rfl, by omega, Or.inr ⟨p, by omega, rfl, rfl, rfl⟩⟩
theorem c8_back_aux (L : xLn) (s : xN) (j : Int64) (a : Nat → xN) (k : Int32) (C : Nat → xN) (hCC : ∀ p, C p = cpL (a 28) (573 * p) (a 26) 0 573) : CT L mX8_back 1 0 0 [.ref 0, .int k] (modW s j a) (fun r Y => (inP k 0 1 = false ∧ r = some (.int (-2)) ∧ Y = modW s j a) ∨ (∃ p, p < 2 ∧ k = nI p ∧ a 29 p = 0 ∧ r = some (.int (-4)) ∧ Y = modW s j a) ∨ (∃ p, p < 2 ∧ k = nI p ∧ ¬ a 29 p = 0 ∧ r = some (.int (a 28 (573 * p))) ∧ Y = modW s j (va_up a 26 (C p)))) := by
  refine CT.of rfl (Nat.le_of_ble_eq_true rfl) (Nat.le_of_ble_eq_true rfl) ?_
  refine AJ.run kX8_back [] 60 ?_
  refine AJ.callZ kX8_back (c8_in L k 0 1) bX8_in rfl (by decide +kernel) [] rfl rfl rfl rfl rfl ?_
  rintro r rfl
  refine AJ.run kX8_back [12] 60 ⟨fun h => ?_, fun h => Or.inl ⟨(bI_eq0 _).mp h, rfl, rfl⟩⟩
  obtain ⟨p, hp, rfl⟩ := inP_nI (n := 1) (by omega) ((bI_ne0 _).mp h)
  refine AJ.run kX8_back [] 60 ⟨p, rfl, by omega, fun h2 => ?_, fun h2 => Or.inr (Or.inl ⟨p, by omega, rfl, h2, rfl, rfl⟩)⟩
  have hC := c8_copy_1146_573 L (a 28) (a 26) (573 * p) 0 (by omega) (by omega)
  rw [show nI (573 * p) = 573 * nI p by simp only [fa_lit, pk_mul]] at hC
  have e0 : cpL (a 28) (573 * p) (a 26) 0 573 0 = a 28 (573 * p) := by
    rw [cpL_at, if_pos (by omega)]
    rfl
  rw [← hCC p] at hC e0
  refine AJ.callS kX8_back hC bX8_copy rfl (by decide +kernel) [9, 7] [] rfl rfl rfl rfl rfl rfl rfl ?_
  rintro r Y ⟨rfl, rfl⟩
  refine ⟨rfl, ?_⟩
  show AJ L mX8_back 1 0 0 _ _ (0, 0) 41 _ [] (modW s j (va_up a 26 (C p)))
  refine AJ.run kX8_back [] 60 ⟨0, rfl, by omega, Or.inr (Or.inr ⟨p, by omega, rfl, h2, ?_, rfl⟩)⟩
  show some (Value.int (C p 0)) = _
  rw [e0]
theorem c8_back (L : xLn) (s : xN) (j : Int64) (a : Nat → xN) (k : Int32) : CT L mX8_back 1 0 0 [.ref 0, .int k] (modW s j a) (fun r Y => (inP k 0 1 = false ∧ r = some (.int (-2)) ∧ Y = modW s j a) ∨ (∃ p, p < 2 ∧ k = nI p ∧ a 29 p = 0 ∧ r = some (.int (-4)) ∧ Y = modW s j a) ∨ (∃ p, p < 2 ∧ k = nI p ∧ ¬ a 29 p = 0 ∧ r = some (.int (a 28 (573 * p))) ∧ Y = modW s j (va_up a 26 (cpL (a 28) (573 * p) (a 26) 0 573)))) :=
  c8_back_aux L s j a k (fun p => cpL (a 28) (573 * p) (a 26) 0 573) (fun _ => rfl)
theorem goL_add (s : xN) (a : Nat → xN) (m : Nat) (N : xN) (n : Nat) : goL s a m N (n + 1) = if goL s a m N n 0 < 60 then minP s a m (goL s a m N n) else goL s a m N n := rfl
theorem c8_go (L : xLn) (s : xN) (j : Int64) (a : Nat → xN) (m : Nat) (hok : okT s a m) (hN : okN (a 26)) (k : Int32) : CT L mX8_go 3 0 0 [.ref 0, .int k] (modW s j a) (fun r Y => (inP k 1 60 = false ∧ r = some (.int (-3)) ∧ Y = modW s j a) ∨ (∃ n, 1 ≤ n ∧ n ≤ 60 ∧ k = nI n ∧ r = some (.int (goL (toldP s) a m (a 26) n 0)) ∧ Y = modN (toldP s) j a (goL (toldP s) a m (a 26) n))) := by
  obtain ⟨F, hF⟩ : ∃ F : Nat → xN, F = goL (toldP s) a m (a 26) := ⟨_, rfl⟩
  have hF0 : F 0 = a 26 := by rw [hF]; rfl
  have hF1 : ∀ n, F (n + 1) = if F n 0 < 60 then minP (toldP s) a m (F n) else F n := fun n => by rw [hF]; rfl
  have hFk : ∀ n, okN (F n) := fun n => by rw [hF]; exact goL_ok _ _ _ _ (by have := hok.2.1; omega) hN n
  have hFs : ∀ n k, ¬ F n 0 < 60 → F (n + k) = F n := fun n k h => by rw [hF] at h ⊢; exact goL_stop _ _ _ _ h k
  rw [← hF]
  clear hF
  refine CT.of rfl (Nat.le_of_ble_eq_true rfl) (Nat.le_of_ble_eq_true rfl) ?_
  refine AJ.run kX8_go [] 60 ?_
  refine AJ.callZ kX8_go (c8_in L k 1 60) bX8_in rfl (by decide +kernel) [] rfl rfl rfl rfl rfl ?_
  rintro r rfl
  refine AJ.run kX8_go [13] 60 ⟨fun h => ?_, fun h => Or.inl ⟨(bI_eq0 _).mp h, rfl, rfl⟩⟩
  have h := of_decide_eq_true ((bI_ne0 _).mp h)
  obtain ⟨n, hn, rfl⟩ : ∃ n, n ≤ 60 ∧ k = nI n := nI_of2 (M := 60) (n := 60) rfl (by have := h.1; have e1 : (1 : Int32).toInt = 1 := rfl; have e0 : (0 : Int32).toInt = 0 := rfl; simp only [i32_lt, i32_le] at this ⊢; omega) h.2
  have hn1 : 1 ≤ n := (nI_leI (a := 1) (by omega) (by omega)).mp h.1
  refine AJ.run kX8_go [] 60 ?_
  refine AJ.callF kX8_go (c8_asTold L s j a) bX8_asTold rfl (by decide +kernel) [] rfl rfl rfl rfl rfl rfl rfl rfl ?_
  rintro r Y ⟨rfl, rfl⟩
  refine ⟨rfl, rfl, ?_⟩
  have loop : ∀ (f i : Nat), i + f = n → AJ L mX8_go 3 0 0 (fun r Y => (inP (nI n) 1 60 = false ∧ r = some (.int (-3)) ∧ Y = modW s j a) ∨ (∃ q, 1 ≤ q ∧ q ≤ 60 ∧ nI n = nI q ∧ r = some (.int (F q 0)) ∧ Y = modN (toldP s) j a (F q))) (modW s j a).length (0, 0) 19 [some (.ref 0), some (.int (nI n)), some (.int (nI i))] [] (modN (toldP s) j a (F i)) := by
    intro f
    induction f with
    | zero =>
      intro i hi
      obtain rfl : i = n := by omega
      refine AJ.run kX8_go [19] 60 ⟨fun _ => ⟨0, rfl, by omega, Or.inr ⟨i, hn1, hn, rfl, rfl, rfl⟩⟩, fun hz => absurd (nI_le (Nat.le_refl _) (by omega)) hz⟩
    | succ f ih =>
      intro i hi
      refine AJ.run kX8_go [19] 60 ⟨fun hz => absurd hz (nI_ge (by omega) (by omega)), fun _ => ⟨0, rfl, by omega, fun h2 => ⟨0, rfl, by omega, Or.inr ⟨n, hn1, hn, rfl, ?_, ?_⟩⟩, fun h2 => ?_⟩⟩
      · have h2 : (60 : Int32) ≤ F i 0 := h2
        have h3 : ¬ F i 0 < 60 := by simp only [i32_lt, i32_le] at h2 ⊢; omega
        rw [show n = i + (f + 1) by omega, hFs i (f + 1) h3]; (try rfl)
      · have h2 : (60 : Int32) ≤ F i 0 := h2
        have h3 : ¬ F i 0 < 60 := by simp only [i32_lt, i32_le] at h2 ⊢; omega
        rw [show n = i + (f + 1) by omega, hFs i (f + 1) h3]; (try rfl)
      · have h2 : ¬ (60 : Int32) ≤ F i 0 := h2
        have h3 : F i 0 < 60 := by simp only [i32_lt, i32_le] at h2 ⊢; omega
        obtain ⟨ab, g, h', e1, e2, e3, e4⟩ := hFk i
        have hg : g < 60 := by
          rw [e1, i32_lt, nI_toInt (by omega)] at h3
          have : (60 : Int32).toInt = 60 := rfl
          omega
        have n2 := ih (i + 1) (by omega)
        rw [hF1 i, if_pos h3, nI_succ] at n2
        refine AJ.callF kX8_go (c8_goMinute L (toldP s) j a (F i) m h' hok.d ab e3 (by omega)) bX8_goMinute rfl (by decide +kernel) [] rfl rfl rfl rfl rfl rfl rfl rfl ?_
        rintro r Y ⟨rfl, rfl⟩
        exact ⟨rfl, rfl, AJ.run kX8_go [19] 60 n2⟩
  have := loop n 0 (by omega)
  rw [hF0] at this
  exact AJ.run kX8_go [19] 60 this
def wrB (w : Int64) (i : Nat) : Int32 := (w >>> ((8 * nI i).toInt64 &&& 63) &&& 255).toInt32
def wrL (w : Int64) (b : Nat) (f : xN) : Nat → xN
  | 0 => f
  | i + 1 => upd (wrL w b f i) (b + i) (wrB w i)
theorem c8_write (L : xLn) (s : xN) (j : Int64) (a : Nat → xN) (b : Nat) (hs : s 13 = nI b) (hb : b ≤ 200) (w : Int64) (k : Int32) : CT L mX8_write 1 0 0 [.ref 0, .long w, .int k] (modW s j a) (fun r Y => (inP k 1 8 = false ∧ r = some (.int (-3)) ∧ Y = modW s j a) ∨ (∃ n, 1 ≤ n ∧ n ≤ 8 ∧ k = nI n ∧ 200 < b + n ∧ r = some (.int (-5)) ∧ Y = modW s j a) ∨ (∃ n, 1 ≤ n ∧ n ≤ 8 ∧ k = nI n ∧ b + n ≤ 200 ∧ r = some (.int (nI (b + n))) ∧ Y = modW (upd s 13 (nI (b + n))) j (va_up a 14 (wrL w b (a 14) n)))) := by
  refine CT.of rfl (Nat.le_of_ble_eq_true rfl) (Nat.le_of_ble_eq_true rfl) ?_
  refine AJ.run kX8_write [] 60 ?_
  refine AJ.callZ kX8_write (c8_in L k 1 8) bX8_in rfl (by decide +kernel) [] rfl rfl rfl rfl rfl ?_
  rintro r rfl
  refine AJ.run kX8_write [13] 60 ⟨fun h => ?_, fun h => Or.inl ⟨(bI_eq0 _).mp h, rfl, rfl⟩⟩
  have h := of_decide_eq_true ((bI_ne0 _).mp h)
  obtain ⟨n, hn, rfl⟩ : ∃ n, n ≤ 8 ∧ k = nI n := nI_of2 (M := 8) (n := 8) rfl (by have := h.1; have e1 : (1 : Int32).toInt = 1 := rfl; have e0 : (0 : Int32).toInt = 0 := rfl; simp only [i32_lt, i32_le] at this ⊢; omega) h.2
  have hn1 : 1 ≤ n := (nI_leI (a := 1) (by omega) (by omega)).mp h.1
  have e2 : s 13 + nI n = nI (b + n) := by rw [hs, nI_add]
  have loop : ∀ (f i : Nat), i + f = n → b + n ≤ 200 → AJ L mX8_write 1 0 0 (fun r Y => (inP (nI n) 1 8 = false ∧ r = some (.int (-3)) ∧ Y = modW s j a) ∨ (∃ q, 1 ≤ q ∧ q ≤ 8 ∧ nI n = nI q ∧ 200 < b + q ∧ r = some (.int (-5)) ∧ Y = modW s j a) ∨ (∃ q, 1 ≤ q ∧ q ≤ 8 ∧ nI n = nI q ∧ b + q ≤ 200 ∧ r = some (.int (nI (b + q))) ∧ Y = modW (upd s 13 (nI (b + q))) j (va_up a 14 (wrL w b (a 14) q)))) (modW s j a).length (0, 0) 31 [some (.ref 0), some (.long w), none, some (.int (nI n)), some (.int (nI i))] [] (modW s j (va_up a 14 (wrL w b (a 14) i))) := by
    intro f
    induction f with
    | zero =>
      intro i hi hbn
      obtain rfl : i = n := by omega
      refine AJ.run kX8_write [31] 60 ⟨fun _ => Or.inr (Or.inr ⟨i, hn1, hn, rfl, hbn, ?_, ?_⟩), fun hz => absurd (nI_le (Nat.le_refl _) (by omega)) hz⟩
      · show some (Value.int (s 13 + nI i)) = _
        rw [e2]
      · rw [← e2]; rfl
    | succ f ih =>
      intro i hi hbn
      have n2 := ih (i + 1) (by omega) hbn
      rw [nI_succ] at n2
      refine AJ.run kX8_write [31] 60 ⟨fun hz => absurd hz (nI_ge (by omega) (by omega)), fun _ => ⟨b + i, ?_, by omega, n2⟩⟩
      show s 13 + nI i = nI (b + i)
      rw [hs, nI_add]
  refine AJ.run kX8_write [28] 60 ⟨fun h3 => ?_, fun h3 => Or.inr (Or.inl ⟨n, hn1, hn, rfl, ?_, rfl, rfl⟩)⟩
  · have h3 : s 13 + nI n ≤ nI 200 := h3
    rw [e2, nI_leI (by omega) (by omega)] at h3
    exact AJ.run kX8_write [31] 60 (loop n 0 (by omega) h3)
  · have h3 : ¬ s 13 + nI n ≤ nI 200 := h3
    rw [e2, nI_leI (by omega) (by omega)] at h3
    omega
end
section
/-! ===== the reference: moods drawn; halts that were seen ===== -/
def poL (fo : Int32) : Nat → Nat → Nat → Int32
  | 0, _, _ => -1
  | f + 1, k, l => if hasP fo (nI k) = true then (if l = 0 then nI k else poL fo f (k + 1) (l - 1)) else poL fo f (k + 1) l
theorem c8_personOf (L : xLn) (s : xN) (j : Int64) (a : Nat → xN) (i : Nat) (hi : i < 2 ^ 31) : CT L mX8_personOf 1 0 0 [.ref 0, .int (nI i)] (modW s j a) (fun r Y => r = some (.int (poL (s 7) 8 0 i)) ∧ Y = modW s j a) := by
  refine CT.of rfl (Nat.le_of_ble_eq_true rfl) (Nat.le_of_ble_eq_true rfl) ?_
  obtain ⟨R, hR⟩ : ∃ R : Int32, R = poL (s 7) 8 0 i := ⟨_, rfl⟩
  rw [← hR]
  have loop : ∀ (f k l : Nat), k + f = 8 → l < 2 ^ 31 → poL (s 7) f k l = R → AJ L mX8_personOf 1 0 0 (fun r Y => r = some (.int R) ∧ Y = modW s j a) (modW s j a).length (0, 0) 4 [some (.ref 0), some (.int (nI i)), some (.int (nI l)), some (.int (nI k))] [] (modW s j a) := by
    intro f
    induction f with
    | zero =>
      intro k l hk hl hp
      obtain rfl : k = 8 := by omega
      exact AJ.run kX8_personOf [4] 60 ⟨fun _ => ⟨by rw [← hp]; rfl, rfl⟩, fun hz => absurd (by decide) hz⟩
    | succ f ih =>
      intro k l hk hl hp
      rw [poL] at hp
      refine AJ.run kX8_personOf [4] 60 ⟨fun hz => absurd hz (nI_ge (b := 8) (by omega) (by omega)), fun _ => ?_⟩
      refine AJ.callZ kX8_personOf (c8_has L (s 7) (nI k)) bX8_has rfl (by decide +kernel) [] rfl rfl rfl rfl rfl ?_
      rintro r rfl
      refine AJ.run kX8_personOf [4] 60 ⟨fun h => ?_, fun h => ⟨fun h2 => ?_, fun h2 => ⟨?_, rfl⟩⟩⟩
      · rw [bI_eq0] at h
        rw [if_neg (by rw [h]; simp)] at hp
        have := ih (k + 1) l (by omega) hl hp
        rw [nI_succ] at this
        exact this
      · rw [bI_ne0] at h
        have h3 : l ≠ 0 := fun q => h2 (by rw [q]; rfl)
        rw [if_pos h, if_neg h3] at hp
        have := ih (k + 1) (l - 1) (by omega) (by omega) hp
        rw [nI_succ, ← sb_m1 (by omega)] at this
        exact this
      · rw [bI_ne0] at h
        have h3 : l = 0 := by
          rcases Nat.eq_zero_or_pos l with q | q
          · exact q
          · exact absurd h2 (nI_ne0 q hl)
        rw [if_pos h, if_pos h3] at hp
        rw [← hp]
  exact AJ.run kX8_personOf [4] 60 (loop 8 0 i rfl hi hR.symm)
/-- the numbers that are drawn -/
def dxP (z : Nat) : Nat → Nat
  | 0 => z
  | i + 1 => 16807 * dxP z i % 65521
theorem dxP_lt {z : Nat} (hz : z < 65521) : ∀ i, dxP z i < 65521
  | 0 => hz
  | i + 1 => Nat.mod_lt _ (by omega)
/-- the moods' row behind i of them -/
def dmP (fo : Int32) (c z m : Nat) (f : xN) : Nat → xN
  | 0 => f
  | i + 1 => upd (upd (upd (dmP fo c z m f i) (3 * (m + i)) (poL fo 8 0 (dxP z (i + 1) % c))) (3 * (m + i) + 1) (nI (dxP z (i + 1) / 8 % 3))) (3 * (m + i) + 2) (nI (dxP z (i + 1) / 32 % 60))
set_option maxHeartbeats 1000000 in
theorem c8_drawn (L : xLn) (s : xN) (j : Int64) (a : Nat → xN) (m c : Nat) (hs : s 9 = nI m) (hm : m ≤ 24) (hc : s 7 ≠ 0 → bitsP (s 7) 8 = nI c ∧ 0 < c ∧ c ≤ 8) (zz nn : Int32) : CT L mX8_drawn 2 0 0 [.ref 0, .int zz, .int nn] (modW s j a) (fun r Y => ((inP zz 1 9999 && inP nn 1 24) = false ∧ r = some (.int (-3)) ∧ Y = modW s j a) ∨ ((inP zz 1 9999 && inP nn 1 24) = true ∧ (0 < a 26 0 ∨ s 7 = 0) ∧ r = some (.int (-4)) ∧ Y = modW s j a) ∨ ∃ z n, 1 ≤ z ∧ z ≤ 9999 ∧ 1 ≤ n ∧ n ≤ 24 ∧ zz = nI z ∧ nn = nI n ∧ ¬ 0 < a 26 0 ∧ s 7 ≠ 0 ∧ ((24 < m + n ∧ r = some (.int (-5)) ∧ Y = modW s j a) ∨ (m + n ≤ 24 ∧ r = some (.int (nI (m + n))) ∧ Y = modW (upd s 9 (nI (m + n))) j (va_up (va_up a 10 (dmP (s 7) c z m (a 10) n)) 29 (upd (upd (a 29) 0 0) 1 0))))) := by
  obtain ⟨E, hE⟩ : ∃ E : Nat → Nat → xN → Nat → xN, E = dmP (s 7) c := ⟨_, rfl⟩
  have hE0 : ∀ z m f, E z m f 0 = f := fun z m f => by rw [hE]; rfl
  have hE1 : ∀ z m f i, E z m f (i + 1) = upd (upd (upd (E z m f i) (3 * (m + i)) (poL (s 7) 8 0 (dxP z (i + 1) % c))) (3 * (m + i) + 1) (nI (dxP z (i + 1) / 8 % 3))) (3 * (m + i) + 2) (nI (dxP z (i + 1) / 32 % 60)) := fun z m f i => by rw [hE]; rfl
  rw [← hE]
  clear hE
  refine CT.of rfl (Nat.le_of_ble_eq_true rfl) (Nat.le_of_ble_eq_true rfl) ?_
  refine AJ.run kX8_drawn [] 60 ?_
  refine AJ.callZ kX8_drawn (c8_in L zz 1 9999) bX8_in rfl (by decide +kernel) [] rfl rfl rfl rfl rfl ?_
  rintro r rfl
  refine AJ.run kX8_drawn [24] 60 ⟨fun h => Or.inl ⟨by rw [(bI_eq0 _).mp h]; rfl, rfl, rfl⟩, fun h => ?_⟩
  have h1 := (bI_ne0 _).mp h
  refine AJ.callZ kX8_drawn (c8_in L nn 1 24) bX8_in rfl (by decide +kernel) [] rfl rfl rfl rfl rfl ?_
  rintro r rfl
  refine AJ.run kX8_drawn [24] 60 ⟨fun h => ?_, fun h => Or.inl ⟨by rw [(bI_eq0 _).mp h, Bool.and_false], rfl, rfl⟩⟩
  have h2 := (bI_ne0 _).mp h
  have h12 : (inP zz 1 9999 && inP nn 1 24) = true := by rw [h1, h2]; rfl
  have g1 := of_decide_eq_true h1
  have g2 := of_decide_eq_true h2
  have e1 : (1 : Int32).toInt = 1 := rfl
  have e0 : (0 : Int32).toInt = 0 := rfl
  obtain ⟨z, hz, rfl⟩ : ∃ z, z ≤ 9999 ∧ zz = nI z := nI_of2 (M := 9999) (n := 9999) rfl (by have := g1.1; simp only [i32_lt, i32_le] at this ⊢; omega) g1.2
  obtain ⟨n, hn, rfl⟩ : ∃ n, n ≤ 24 ∧ nn = nI n := nI_of2 (M := 24) (n := 24) rfl (by have := g2.1; simp only [i32_lt, i32_le] at this ⊢; omega) g2.2
  have hz1 : 1 ≤ z := (nI_leI (a := 1) (by omega) (by omega)).mp g1.1
  have hn1 : 1 ≤ n := (nI_leI (a := 1) (by omega) (by omega)).mp g2.1
  refine AJ.run kX8_drawn [43] 60 ⟨0, rfl, by omega, fun h3 => Or.inr (Or.inl ⟨h12, Or.inl h3, rfl, rfl⟩), fun h3 => ⟨fun h4 => ?_, fun h4 => Or.inr (Or.inl ⟨h12, Or.inr h4, rfl, rfl⟩)⟩⟩
  have h3 : ¬ 0 < a 26 0 := h3
  have h4 : s 7 ≠ 0 := h4
  obtain ⟨hb, hc0, hc8⟩ := hc h4
  have e2 : s 9 + nI n = nI (m + n) := by rw [hs, nI_add]
  refine AJ.run kX8_drawn [57] 60 ⟨fun h5 => ?_, fun h5 => Or.inr (Or.inr ⟨z, n, hz1, hz, hn1, hn, rfl, rfl, h3, h4, Or.inl ⟨by have h5 : ¬ s 9 + nI n ≤ nI 24 := h5; rw [e2, nI_leI (by omega) (by omega)] at h5; omega, rfl, rfl⟩⟩)⟩
  have h5 : s 9 + nI n ≤ nI 24 := h5
  rw [e2, nI_leI (by omega) (by omega)] at h5
  have hD0 : E z m (a 10) 0 = a 10 := hE0 z m (a 10)
  have hD1 := hE1 z m (a 10)
  have hx : ∀ i, dxP z i < 65521 := dxP_lt (by omega)
  have hx1 : ∀ i, dxP z (i + 1) = 16807 * dxP z i % 65521 := fun i => rfl
  have hx0 : dxP z 0 = z := rfl
  generalize dxP z = X at hD1 hx hx1 hx0
  have loop : ∀ (f i : Nat), i + f = n → AJ L mX8_drawn 2 0 0 (fun r Y => ((inP (nI z) 1 9999 && inP (nI n) 1 24) = false ∧ r = some (.int (-3)) ∧ Y = modW s j a) ∨ ((inP (nI z) 1 9999 && inP (nI n) 1 24) = true ∧ (0 < a 26 0 ∨ s 7 = 0) ∧ r = some (.int (-4)) ∧ Y = modW s j a) ∨ ∃ z' n', 1 ≤ z' ∧ z' ≤ 9999 ∧ 1 ≤ n' ∧ n' ≤ 24 ∧ nI z = nI z' ∧ nI n = nI n' ∧ ¬ 0 < a 26 0 ∧ s 7 ≠ 0 ∧ ((24 < m + n' ∧ r = some (.int (-5)) ∧ Y = modW s j a) ∨ (m + n' ≤ 24 ∧ r = some (.int (nI (m + n'))) ∧ Y = modW (upd s 9 (nI (m + n'))) j (va_up (va_up a 10 (E z' m (a 10) n')) 29 (upd (upd (a 29) 0 0) 1 0))))) (modW s j a).length (0, 0) 62 [some (.ref 0), some (.int (nI z)), some (.int (nI n)), some (.int (nI (X i))), some (.int (nI i))] [] (modW (upd s 9 (nI (m + i))) j (va_up a 10 (E z m (a 10) i))) := by
    intro f
    induction f with
    | zero =>
      intro i hi
      obtain rfl : i = n := by omega
      exact AJ.run kX8_drawn [62] 60 ⟨fun _ => ⟨0, rfl, by omega, Or.inl rfl, 1, rfl, by omega, Or.inl rfl, Or.inr (Or.inr ⟨z, i, hz1, hz, hn1, hn, rfl, rfl, h3, h4, Or.inr ⟨h5, rfl, rfl⟩⟩)⟩, fun hz => absurd (nI_le (Nat.le_refl _) (by omega)) hz⟩
    | succ f ih =>
      intro i hi
      have n2 := ih (i + 1) (by omega)
      rw [nI_succ, hD1 i] at n2
      have hxi := hx i
      have hxi1 := hx (i + 1)
      have ex : 16807 * nI (X i) - 16807 * nI (X i) / 65521 * 65521 = nI (X (i + 1)) := by
        rw [show (16807 : Int32) * nI (X i) = nI (16807 * X i) by simp only [fa_lit, pk_mul], hx1 i]
        exact pk_rem (d := 65521) (by omega) (by omega) (by omega)
      refine AJ.run kX8_drawn [62, 76] 60 ⟨fun hz => absurd hz (nI_ge (by omega) (by omega)), fun _ => ⟨by decide, ?_⟩⟩
      have at76 : AJ L mX8_drawn 2 0 0 (fun r Y => ((inP (nI z) 1 9999 && inP (nI n) 1 24) = false ∧ r = some (.int (-3)) ∧ Y = modW s j a) ∨ ((inP (nI z) 1 9999 && inP (nI n) 1 24) = true ∧ (0 < a 26 0 ∨ s 7 = 0) ∧ r = some (.int (-4)) ∧ Y = modW s j a) ∨ ∃ z' n', 1 ≤ z' ∧ z' ≤ 9999 ∧ 1 ≤ n' ∧ n' ≤ 24 ∧ nI z = nI z' ∧ nI n = nI n' ∧ ¬ 0 < a 26 0 ∧ s 7 ≠ 0 ∧ ((24 < m + n' ∧ r = some (.int (-5)) ∧ Y = modW s j a) ∨ (m + n' ≤ 24 ∧ r = some (.int (nI (m + n'))) ∧ Y = modW (upd s 9 (nI (m + n'))) j (va_up (va_up a 10 (E z' m (a 10) n')) 29 (upd (upd (a 29) 0 0) 1 0))))) (modW s j a).length (0, 0) 76 [some (.ref 0), some (.int (nI z)), some (.int (nI n)), some (.int (nI (X i))), some (.int (nI i))] [.int (nI (X (i + 1)))] (modW (upd s 9 (nI (m + i))) j (va_up a 10 (E z m (a 10) i))) := by
        generalize X (i + 1) = y at n2 hxi1
        refine AJ.run kX8_drawn [] 60 ?_
        refine AJ.callZ kX8_drawn (c8_bits L (s 7)) bX8_bits rfl (by decide +kernel) [.int (nI y), .ref 0, .ref 0] rfl rfl rfl rfl rfl ?_
        rintro r rfl
        have hcn : ¬ bitsP (s 7) 8 = 0 := by rw [hb]; exact nI_ne0 hc0 (by omega)
        refine AJ.run kX8_drawn [88] 60 ⟨hcn, ?_⟩
        have er : nI y - nI y / bitsP (s 7) 8 * bitsP (s 7) 8 = nI (y % c) := by rw [hb]; exact pk_rem (by omega) hc0 (by omega)
        rw [er]
        have hym : y % c < c := Nat.mod_lt _ hc0
        refine AJ.callF kX8_drawn (c8_personOf L (upd s 9 (nI (m + i))) j (va_up a 10 (E z m (a 10) i)) (y % c) (by omega)) bX8_personOf rfl (by decide +kernel) [.ref 0] rfl rfl rfl rfl rfl rfl rfl rfl ?_
        rintro r Y ⟨rfl, rfl⟩
        have e3 : nI y / 8 - nI y / 8 / 3 * 3 = nI (y / 8 % 3) := by
          rw [show nI y / 8 = nI (y / 8) from pk_div (d := 8) (by omega) (by omega) (by omega)]
          exact pk_rem (d := 3) (by omega) (by omega) (by omega)
        have e4 : nI y / 32 - nI y / 32 / 60 * 60 = nI (y / 32 % 60) := by
          rw [show nI y / 32 = nI (y / 32) from pk_div (d := 32) (by omega) (by omega) (by omega)]
          exact pk_rem (d := 60) (by omega) (by omega) (by omega)
        refine ⟨rfl, rfl, AJ.run kX8_drawn [] 60 ⟨by decide, by decide, by decide, by decide, ?_⟩⟩
        have hA := c8_addMood L (upd s 9 (nI (m + i))) j (va_up a 10 (E z m (a 10) i)) (poL (s 7) 8 0 (y % c)) (nI (y / 8 % 3)) (nI (y / 32 % 60)) (m + i) rfl (by omega)
        rw [← e3, ← e4] at hA
        refine AJ.callF kX8_drawn hA bX8_addMood rfl (by decide +kernel) [] rfl rfl rfl rfl rfl rfl rfl rfl ?_
        rintro r Y ⟨rfl, rfl⟩
        rw [e3, e4]
        refine ⟨rfl, rfl, ?_⟩
        have em : nI (m + i) + 1 = nI (m + (i + 1)) := nI_1 (m + i)
        rw [← em] at n2
        exact AJ.run kX8_drawn [62] 60 n2
      rw [← ex] at at76
      exact at76
  have := loop n 0 (by omega)
  rw [hx0, hD0, Nat.add_zero, ← hs] at this
  exact AJ.run kX8_drawn [62] 60 this
end
section
/-! ===== the reference: laws read back ===== -/
def seenO (N sn : xN) (k : Nat) : Nat → Bool
  | 0 => false
  | i + 1 => seenO N sn k i || (decide (N (93 + 4 * i + 1) = sn (2 * k)) && decide (N (93 + 4 * i + 2) = sn (2 * k + 1)))
def seenA (N sn : xN) (h : Nat) : Nat → Bool
  | 0 => true
  | k + 1 => seenA N sn h k && seenO N sn k h
theorem seenO_ag {h : Nat} {N B : xN} (hN : agN h N B) (sn : xN) (k : Nat) : ∀ i, i ≤ h → seenO N sn k i = seenO B sn k i
  | 0, _ => rfl
  | i + 1, hi => by rw [seenO, seenO, seenO_ag hN sn k i (by omega), hN (93 + 4 * i + 1) (by omega), hN (93 + 4 * i + 2) (by omega)]
theorem seenA_ag {h : Nat} {N B : xN} (hN : agN h N B) (sn : xN) : ∀ k, seenA N sn h k = seenA B sn h k
  | 0 => rfl
  | k + 1 => by rw [seenA, seenA, seenA_ag hN sn k, seenO_ag hN sn k h (Nat.le_refl _)]
theorem c8_areSeen_in (L : xLn) (Q : Option Value → List xE → Prop) (s : xN) (j : Int64) (a : Nat → xN) (N : xN) (n0 k h : Nat) (x1 : Int32) (hk : k < 8) (hh : N 7 + N 8 = nI h) (h120 : h ≤ 120) (G : Nat → Bool) (hG : ∀ i, i < h → G (i + 1) = (G i || (decide (N (93 + 4 * i + 1) = a 12 (2 * k)) && decide (N (93 + 4 * i + 2) = a 12 (2 * k + 1)))))
    (nxt : AJ L mX8_areSeen 1 0 0 Q n0 (0, 0) 94 [some (.ref 0), some (.int x1), some (.int (nI k)), some (.int (bI (G h))), some (.int (nI h))] [] (modN s j a N)) :
    ∀ (n i : Nat), i + n = h → AJ L mX8_areSeen 1 0 0 Q n0 (0, 0) 17 [some (.ref 0), some (.int x1), some (.int (nI k)), some (.int (bI (G i))), some (.int (nI i))] [] (modN s j a N) := by
  intro n
  induction n with
  | zero =>
    intro i hi
    obtain rfl : i = h := by omega
    refine AJ.run kX8_areSeen [17] 60 ?_
    refine AJ.callF kX8_areSeen (c8_haltMany L s j (va_up a 26 N)) bX8_haltMany rfl (by decide +kernel) [.int (nI i)] rfl rfl rfl rfl rfl rfl rfl rfl ?_
    rintro r Y ⟨rfl, rfl⟩
    refine ⟨rfl, rfl, AJ.run kX8_areSeen [94] 60 ⟨fun _ => nxt, fun hz => absurd ?_ hz⟩⟩
    show N 7 + N 8 ≤ nI i
    rw [hh]; exact nI_le (by omega) (by omega)
  | succ n ih =>
    intro i hi
    have h2 := ih (i + 1) (by omega)
    rw [nI_succ, hG i (by omega)] at h2
    refine AJ.run kX8_areSeen [17] 60 ?_
    refine AJ.callF kX8_areSeen (c8_haltMany L s j (va_up a 26 N)) bX8_haltMany rfl (by decide +kernel) [.int (nI i)] rfl rfl rfl rfl rfl rfl rfl rfl ?_
    rintro r Y ⟨rfl, rfl⟩
    refine ⟨rfl, rfl, AJ.run kX8_areSeen [17] 60 ⟨fun hz => absurd hz ?_, fun _ => ⟨fun h3 => ?_, fun h3 => ⟨93 + 4 * i + 1, by simp only [fa_lit, nI_add, pk_mul], by omega, 2 * k, by simp only [fa_lit, pk_mul], by omega, fun h4 => ?_, fun h4 => ⟨93 + 4 * i + 2, by simp only [fa_lit, nI_add, pk_mul], by omega, 2 * k + 1, by simp only [fa_lit, nI_add, pk_mul], by omega, fun h5 => ?_, fun h5 => ?_⟩⟩⟩⟩⟩
    · show ¬ N 7 + N 8 ≤ nI i
      rw [hh]; exact nI_ge (by omega) (by omega)
    · rw [bI_ne0] at h3
      rw [h3, Bool.true_or] at h2
      exact h2
    · have h4 : ¬ N (93 + 4 * i + 1) = a 12 (2 * k) := h4
      rw [bI_eq0] at h3
      rw [h3, decide_eq_false h4] at h2
      exact h2
    · have h5 : ¬ N (93 + 4 * i + 2) = a 12 (2 * k + 1) := h5
      rw [bI_eq0] at h3
      rw [h3, decide_eq_false h5, Bool.and_false] at h2
      exact h2
    · have h4 : N (93 + 4 * i + 1) = a 12 (2 * k) := h4
      have h5 : N (93 + 4 * i + 2) = a 12 (2 * k + 1) := h5
      rw [bI_eq0] at h3
      rw [h3, decide_eq_true h4, decide_eq_true h5] at h2
      exact h2
theorem c8_areSeen (L : xLn) (s : xN) (j : Int64) (a : Nat → xN) (N : xN) (n h : Nat) (hs : s 11 = nI n) (hn : n ≤ 8) (hh : N 7 + N 8 = nI h) (h120 : h ≤ 120) : CT L mX8_areSeen 1 0 0 [.ref 0] (modN s j a N) (fun r Y => r = some (.int (bI (seenA N (a 12) h n))) ∧ Y = modN s j a N) := by
  refine CT.of rfl (Nat.le_of_ble_eq_true rfl) (Nat.le_of_ble_eq_true rfl) ?_
  have loop : ∀ (f k : Nat) (x3 x4 : Option Value), k + f = n → (x3 = none ∨ ∃ v, x3 = some (.int v)) → (x4 = none ∨ ∃ v, x4 = some (.int v)) → AJ L mX8_areSeen 1 0 0 (fun r Y => r = some (.int (bI (seenA N (a 12) h n))) ∧ Y = modN s j a N) (modN s j a N).length (0, 0) 4 [some (.ref 0), some (.int (bI (seenA N (a 12) h k))), some (.int (nI k)), x3, x4] [] (modN s j a N) := by
    intro f
    induction f with
    | zero =>
      intro k x3 x4 hk h3 h4
      obtain rfl : k = n := by omega
      refine AJ.run kX8_areSeen [4] 60 ⟨fun _ => ⟨bI_or _, rfl, rfl⟩, fun hz => absurd ?_ hz⟩
      show s 11 ≤ nI k
      rw [hs]; exact nI_le (by omega) (by omega)
    | succ f ih =>
      intro k x3 x4 hk h3 h4
      have h2 := fun x3' x4' p3 p4 => ih (k + 1) x3' x4' (by omega) p3 p4
      rw [nI_succ, show seenA N (a 12) h (k + 1) = (seenA N (a 12) h k && seenO N (a 12) k h) from rfl] at h2
      obtain ⟨G, hGe⟩ : ∃ G : Nat → Bool, G = seenO N (a 12) k := ⟨_, rfl⟩
      have hG0 : G 0 = false := by rw [hGe]; rfl
      have hG : ∀ i, i < h → G (i + 1) = (G i || (decide (N (93 + 4 * i + 1) = a 12 (2 * k)) && decide (N (93 + 4 * i + 2) = a 12 (2 * k + 1)))) := fun i _ => by rw [hGe]; rfl
      rw [← hGe] at h2
      clear hGe
      have tail := c8_areSeen_in L (fun r Y => r = some (.int (bI (seenA N (a 12) h n))) ∧ Y = modN s j a N) s j a N (modN s j a N).length k h (bI (seenA N (a 12) h k)) (by omega) hh h120 G hG ?_ h 0 (by omega)
      · rw [hG0] at tail
        rcases h3 with rfl | ⟨v3, rfl⟩ <;> rcases h4 with rfl | ⟨v4, rfl⟩ <;>
          (refine AJ.run kX8_areSeen [17] 60 ⟨fun hz => absurd hz ?_, fun _ => tail⟩
           show ¬ s 11 ≤ nI k
           rw [hs]; exact nI_ge (by omega) (by omega))
      · have h2 := h2 (some (.int (bI (G h)))) (some (.int (nI h))) (Or.inr ⟨_, rfl⟩) (Or.inr ⟨_, rfl⟩)
        generalize G h = g at h2 ⊢
        generalize seenA N (a 12) h k = b at h2 ⊢
        refine AJ.run kX8_areSeen [4] 60 ⟨fun h5 => ?_, fun h5 => ⟨fun h6 => ?_, fun h6 => ?_⟩⟩
        · rw [bI_eq0] at h5
          rw [h5] at h2
          rw [h5]
          exact h2
        · rw [bI_eq0] at h6
          rw [h6, Bool.and_false] at h2
          rw [h6]
          exact h2
        · rw [bI_ne0] at h5 h6
          rw [h5, h6] at h2
          rw [h5, h6]
          exact h2
  exact AJ.run kX8_areSeen [4] 60 (loop n 0 none none (by omega) (Or.inl rfl) (Or.inl rfl))
/-- the laws' counts: how many of the first t fit, the first, how many have kind k -/
def mnS (fit : Nat → Bool) : Nat → Nat
  | 0 => 0
  | t + 1 => if fit t = true then mnS fit t + 1 else mnS fit t
def fiS (fit : Nat → Bool) : Nat → Int32
  | 0 => -1
  | t + 1 => if fit t = true then (if mnS fit t = 0 then nI (30 + t) else fiS fit t) else fiS fit t
def hkS (fit : Nat → Bool) (k : Nat) : Nat → Int32
  | 0 => 0
  | t + 1 => if fit t = true then hkS fit k t + (nI ((30 + t) / 30) >>> (nI k &&& 31) &&& 1) else hkS fit k t
theorem mnS_le (fit : Nat → Bool) : ∀ t, mnS fit t ≤ t
  | 0 => Nat.le_refl _
  | t + 1 => by
    have := mnS_le fit t
    rw [mnS]
    split <;> omega
end
section
/-! ===== the reference: laws read back, all of them ===== -/
def lwS (s : xN) (c : Nat) : xN := upd (upd (toldP s) 30 (nI (c / 30))) 31 (nI (c % 30 + 1))
/-- the counts of kinds, one law more -/
def hkA (c : Nat) (f : xN) : Nat → xN
  | 0 => f
  | k + 1 => upd (hkA c f k) k (hkA c f k k + (nI (c / 30) >>> (nI k &&& 31) &&& 1))
theorem hkA_at (c : Nat) (f : xN) (i : Nat) : ∀ k, hkA c f k i = if i < k then f i + (nI (c / 30) >>> (nI i &&& 31) &&& 1) else f i
  | 0 => by rw [hkA, if_neg (by omega)]
  | k + 1 => by
    rw [hkA]
    by_cases h : i = k
    · subst h
      rw [pk_us, hkA_at c f i i, if_neg (by omega), if_pos (by omega)]
    · rw [pk_un h, hkA_at c f i k]
      by_cases h2 : i < k
      · rw [if_pos h2, if_pos (by omega)]
      · rw [if_neg h2, if_neg (by omega)]
theorem c8_ll_has (L : xLn) (Q : Option Value → List xE → Prop) (s : xN) (j : Int64) (a : Nat → xN) (n0 c : Nat) (hc : c < 240) (G : Nat → xN) (hG : ∀ k, k < 3 → G (k + 1) = upd (G k) k (G k k + (nI (c / 30) >>> (nI k &&& 31) &&& 1)))
    (nxt : AJ L mX8_layLaws 4 0 0 Q n0 (0, 0) 132 [some (.ref 0), some (.int (nI c)), some (.int (nI 3))] [] (modW s j (va_up a 36 (G 3)))) :
    ∀ (n k : Nat), k + n = 3 → AJ L mX8_layLaws 4 0 0 Q n0 (0, 0) 104 [some (.ref 0), some (.int (nI c)), some (.int (nI k))] [] (modW s j (va_up a 36 (G k))) := by
  intro n
  induction n with
  | zero =>
    intro k hk
    obtain rfl : k = 3 := by omega
    exact AJ.run kX8_layLaws [104, 132] 60 ⟨fun _ => nxt, fun hz => absurd (by decide) hz⟩
  | succ n ih =>
    intro k hk
    have h2 := ih (k + 1) (by omega)
    rw [nI_succ, hG k (by omega), ← pk_div (d := 30) (by omega : c < 2 ^ 31) (by omega) (by omega)] at h2
    exact AJ.run kX8_layLaws [104] 60 ⟨fun hz => absurd hz (nI_ge (b := 3) (by omega) (by omega)), fun _ => ⟨k, rfl, by omega, by decide, k, rfl, by omega, h2⟩⟩
/-- one law -/
theorem c8_ll_one (L : xLn) (Q : Option Value → List xE → Prop) (s : xN) (j : Int64) (a : Nat → xN) (m n n0 c mn : Nat) (x2 : Option Value) (hx2 : x2 = none ∨ ∃ v, x2 = some (.int v)) (hc : c < 240) (hokd : okD (lwS s c) a m) (hs : s 11 = nI n) (hn : n ≤ 8) (hmn : s 34 = nI mn) (hmn2 : mn ≤ 240)
    (nxt : ∀ (N : xN) (x2' : Option Value), isDay (lwS s c) a m N → (x2' = none ∨ ∃ v, x2' = some (.int v)) → AJ L mX8_layLaws 4 0 0 Q n0 (0, 0) 33 [some (.ref 0), some (.int (nI (c + 1))), x2'] [] (if seenA N (a 12) (hmP N) n = true then modW (upd (upd (lwS s c) 35 (if mn = 0 then nI c else s 35)) 34 (nI (mn + 1))) j (va_up (aftA a N) 36 (hkA c (a 36) 3)) else modW (lwS s c) j (aftA a N))) :
    AJ L mX8_layLaws 4 0 0 Q n0 (0, 0) 33 [some (.ref 0), some (.int (nI c)), x2] [] (modW s j a) := by
  have wf : ∀ X : List xE, xwf X [some (.ref 0), some (.int (nI c)), none] [] = true → xwf X [some (.ref 0), some (.int (nI c)), x2] [] = true := by
    intro X hX
    rcases hx2 with rfl | ⟨v, rfl⟩
    · exact hX
    · simpa [xwf, xokv] using hX
  refine AJ.run kX8_layLaws [33] 60 ⟨fun hz => absurd hz (nI_ge (b := 240) (by omega) (by omega)), fun _ => ?_⟩
  refine AJ.callF kX8_layLaws (c8_asTold L s j a) bX8_asTold rfl (by decide +kernel) [] rfl rfl rfl rfl rfl (wf _ rfl) rfl rfl ?_
  rintro r Y ⟨rfl, rfl⟩
  refine ⟨rfl, rfl, AJ.run kX8_layLaws [62] 60 ⟨by decide, by decide, ?_⟩⟩
  have e1 : nI c / 30 = nI (c / 30) := pk_div (d := 30) (by omega) (by omega) (by omega)
  have e2 : nI c - nI c / 30 * 30 = nI (c % 30) := pk_rem (d := 30) (by omega) (by omega) (by omega)
  have e3 : nI c - nI c / 30 * 30 + 1 = nI (c % 30 + 1) := by rw [e2, nI_1]
  have at62 : AJ L mX8_layLaws 4 0 0 Q n0 (0, 0) 62 [some (.ref 0), some (.int (nI c)), x2] [] (modW (lwS s c) j a) := by
    refine AJ.run kX8_layLaws [] 60 ?_
    refine AJ.callF kX8_layLaws (c8_dayA L (lwS s c) j a m hokd) bX8_goDay rfl (by decide +kernel) [] rfl rfl rfl rfl rfl (wf _ rfl) rfl rfl ?_
    rintro r Y ⟨rfl, N, hN, rfl⟩
    have nxt := fun x2' h => nxt N x2' hN h
    obtain ⟨e4, e5, e6⟩ := isDay_hm hN
    have ehm : hmP (dq (lwS s c) a m) = hmP N := by
      unfold hmP
      rw [e6 7 (by omega), e6 8 (by omega)]
    rw [ehm] at e4 e5
    clear e6 ehm hN
    refine ⟨rfl, rfl, AJ.run kX8_layLaws [] 60 ?_⟩
    refine AJ.callF kX8_layLaws (c8_areSeen L (lwS s c) j (va_up a 27 (cpL (a 26) 0 (a 27) 0 573)) N n (hmP N) hs hn e4 e5) bX8_areSeen rfl (by decide +kernel) [] rfl rfl rfl rfl rfl (wf _ rfl) rfl rfl ?_
    rintro r Y ⟨rfl, rfl⟩
    have hse : seenA N ((va_up a 27 (cpL (a 26) 0 (a 27) 0 573)) 12) (hmP N) n = seenA N (a 12) (hmP N) n := rfl
    rw [hse]
    clear hse
    generalize seenA N (a 12) (hmP N) n = b at nxt
    have pb : ∀ (s' : xN) (a' : Nat → xN) (x2' : Option Value), (x2' = none ∨ ∃ v, x2' = some (.int v)) → (∀ i, i ≠ 36 → a' i = va_up a 27 (cpL (a 26) 0 (a 27) 0 573) i) → AJ L mX8_layLaws 4 0 0 Q n0 (0, 0) 33 [some (.ref 0), some (.int (nI c + 1)), x2'] [] (modW s' j (va_up a' 26 (cpL (cpL (a 26) 0 (a 27) 0 573) 0 N 0 573))) → AJ L mX8_layLaws 4 0 0 Q n0 (0, 0) 132 [some (.ref 0), some (.int (nI c)), x2'] [] (modN s' j a' N) := by
      intro s' a' x2' hx' ha' h2
      have wf' : xwf (modN s' j a' N) [some (.ref 0), some (.int (nI c)), x2'] [] = true := by
        rcases hx' with rfl | ⟨v, rfl⟩ <;> rfl
      refine AJ.run kX8_layLaws [] 60 ?_
      refine AJ.callF kX8_layLaws (c8_putBack L s' j a' N) bX8_putBack rfl (by decide +kernel) [] rfl rfl rfl rfl rfl wf' rfl rfl ?_
      rintro r Y ⟨rfl, rfl⟩
      have e27 : a' 27 = cpL (a 26) 0 (a 27) 0 573 := ha' 27 (by omega)
      rw [e27]
      exact ⟨rfl, rfl, AJ.run kX8_layLaws [33] 60 h2⟩
    refine ⟨rfl, rfl, AJ.run kX8_layLaws [132, 89] 60 ⟨fun h3 => ?_, fun h3 => ?_⟩⟩
    · rw [bI_eq0] at h3
      have nxt := nxt x2 hx2
      rw [h3, if_neg (by simp), nI_succ] at nxt
      exact pb (lwS s c) _ x2 hx2 (fun i _ => rfl) nxt
    · rw [bI_ne0] at h3
      have nxt := nxt (some (.int (nI 3))) (Or.inr ⟨_, rfl⟩)
      rw [h3, if_pos rfl, nI_succ] at nxt
      have at89 : ∀ v : Int32, v = (if mn = 0 then nI c else s 35) → AJ L mX8_layLaws 4 0 0 Q n0 (0, 0) 89 [some (.ref 0), some (.int (nI c)), x2] [.int v, .ref 0] (modN (lwS s c) j (va_up a 27 (cpL (a 26) 0 (a 27) 0 573)) N) := by
        intro v hv
        subst hv
        have h4 := pb (upd (upd (lwS s c) 35 (if mn = 0 then nI c else s 35)) 34 (nI (mn + 1))) (va_up (va_up a 27 (cpL (a 26) 0 (a 27) 0 573)) 36 (hkA c (a 36) 3)) (some (.int (nI 3))) (Or.inr ⟨_, rfl⟩) (fun i hi => by unfold va_up; rw [if_neg hi]) nxt
        obtain ⟨G, hGe⟩ : ∃ G : Nat → xN, G = hkA c (a 36) := ⟨_, rfl⟩
        have hG0 : G 0 = a 36 := by rw [hGe]; rfl
        have hG : ∀ k, k < 3 → G (k + 1) = upd (G k) k (G k k + (nI (c / 30) >>> (nI k &&& 31) &&& 1)) := fun k _ => by rw [hGe]; rfl
        rw [← hGe] at h4
        clear hGe nxt pb
        have h5 := c8_ll_has L Q (upd (upd (lwS s c) 35 (if mn = 0 then nI c else s 35)) 34 (nI (mn + 1))) j (va_up (va_up a 27 (cpL (a 26) 0 (a 27) 0 573)) 26 N) n0 c hc G hG h4 3 0 rfl
        rw [hG0, ← nI_1, ← hmn] at h5
        rcases hx2 with rfl | ⟨v, rfl⟩ <;> exact AJ.run kX8_layLaws [104] 60 h5
      refine ⟨fun h4 => at89 _ ?_, fun h4 => at89 _ ?_⟩
      · have h4 : ¬ s 34 = 0 := h4
        rw [if_neg (fun q => h4 (by rw [hmn, q]; rfl))]; rfl
      · have h4 : s 34 = 0 := h4
        rw [hmn] at h4
        rw [if_pos]
        rcases Nat.eq_zero_or_pos mn with q | q
        · exact q
        · exact absurd h4 (nI_ne0 q (by omega))
  rw [lwS, ← e1, ← e3] at at62
  exact at62
end
section
/-! ===== the reference: layLaws, read, odds ===== -/
def fitP (s : xN) (a : Nat → xN) (m n t : Nat) : Bool := seenA (dq (lwS s (30 + t)) a m) (a 12) (hmP (dq (lwS s (30 + t)) a m)) n
def lawsOk (fit : Nat → Bool) (t : Nat) (s' : xN) (a' : Nat → xN) : Prop := s' 34 = nI (mnS fit t) ∧ s' 35 = fiS fit t ∧ ∀ k, k < 3 → a' 36 k = hkS fit k t
def keptE (s : xN) (a : Nat → xN) (s' : xN) (a' : Nat → xN) : Prop := (∀ i, i < 15 → s' i = s i) ∧ (∀ i, i ≠ 26 → i ≠ 27 → i ≠ 36 → a' i = a i) ∧ ∀ i, i < 573 → a' 26 i = a 26 i
theorem keptE.m {s s' : xN} {a a' : Nat → xN} (h : keptE s a s' a') (m : Nat) : keptM m s a s' a' := ⟨h.1, ⟨h.2.1 6 (by omega) (by omega) (by omega), h.2.1 8 (by omega) (by omega) (by omega), h.2.1 12 (by omega) (by omega) (by omega), h.2.1 14 (by omega) (by omega) (by omega), h.2.1 28 (by omega) (by omega) (by omega), h.2.1 29 (by omega) (by omega) (by omega)⟩, fun i _ => by rw [h.2.1 10 (by omega) (by omega) (by omega)], h.2.2⟩
theorem lwS_lo (s : xN) (c : Nat) {i : Nat} (hi : i < 15) : lwS s c i = s i := by
  unfold lwS
  rw [pk_un (by omega), pk_un (by omega)]
  exact toldP_lo s hi
theorem lwS_34 (s : xN) (c : Nat) : lwS s c 34 = s 34 ∧ lwS s c 35 = s 35 := ⟨rfl, rfl⟩
theorem c8_layLaws (L : xLn) (s : xN) (j : Int64) (a : Nat → xN) (m n : Nat) (hok : okT s a m) (hs : s 11 = nI n) (hn : n ≤ 8) : CT L mX8_layLaws 4 0 0 [.ref 0] (modW s j a) (fun r Y => r = none ∧ ∃ s' a', Y = modW s' j a' ∧ keptE s a s' a' ∧ lawsOk (fitP s a m n) 210 s' a') := by
  have hdq : ∀ (t : Nat) (s' : xN) (a' : Nat → xN), keptE s a s' a' → dq (lwS s' (30 + t)) a' m = dq (lwS s (30 + t)) a m := by
    intro t s' a' hK
    have e : eqT (lwS s (30 + t)) a (lwS s' (30 + t)) a' := by
      refine ⟨⟨?_, ?_, ?_, ?_, ?_, rfl, rfl⟩, hK.2.1 6 (by omega) (by omega) (by omega), hK.2.1 8 (by omega) (by omega) (by omega), hK.2.1 10 (by omega) (by omega) (by omega)⟩
      · exact hK.1 0 (by omega)
      · exact hK.1 3 (by omega)
      · exact hK.1 4 (by omega)
      · exact hK.1 5 (by omega)
      · exact hK.1 7 (by omega)
    exact dq_congr e m
  have hfit : ∀ (t : Nat) (s' : xN) (a' : Nat → xN) (N : xN), keptE s a s' a' → isDay (lwS s' (30 + t)) a' m N → seenA N (a' 12) (hmP N) n = fitP s a m n t := by
    intro t s' a' N hK hN
    obtain ⟨e1, e2, e3⟩ := isDay_hm hN
    have e4 : hmP N = hmP (dq (lwS s' (30 + t)) a' m) := by
      unfold hmP
      rw [e3 7 (by omega), e3 8 (by omega)]
    rw [e4, seenA_ag e3, hdq t s' a' hK, hK.2.1 12 (by omega) (by omega) (by omega)]
    rfl
  generalize fitP s a m n = fit at hfit ⊢
  refine CT.of rfl (Nat.le_of_ble_eq_true rfl) (Nat.le_of_ble_eq_true rfl) ?_
  have loop : ∀ (f t : Nat) (s' : xN) (a' : Nat → xN) (x2 : Option Value), t + f = 210 → keptE s a s' a' → lawsOk fit t s' a' → (x2 = none ∨ ∃ v, x2 = some (.int v)) → AJ L mX8_layLaws 4 0 0 (fun r Y => r = none ∧ ∃ s' a', Y = modW s' j a' ∧ keptE s a s' a' ∧ lawsOk fit 210 s' a') (modW s j a).length (0, 0) 33 [some (.ref 0), some (.int (nI (30 + t))), x2] [] (modW s' j a') := by
    intro f
    induction f with
    | zero =>
      intro t s' a' x2 ht hK hL hx
      obtain rfl : t = 210 := by omega
      exact AJ.run kX8_layLaws [33] 60 ⟨fun _ => ⟨rfl, s', a', rfl, hK, hL⟩, fun hz => absurd (by decide) hz⟩
    | succ f ih =>
      intro t s' a' x2 ht hK hL hx
      obtain ⟨l1, l2, l3⟩ := hL
      have hmn := mnS_le fit t
      refine c8_ll_one L _ s' j a' m n _ (30 + t) (mnS fit t) x2 hx (by omega) ⟨?_, by have := hok.2.1; omega, fun q hq => ?_⟩ ((hK.1 11 (by omega)).trans hs) hn l1 (by omega) (fun N x2' hN hx' => ?_)
      · show s' 9 = nI m
        rw [hK.1 9 (by omega)]; exact hok.1
      · rw [hK.2.1 10 (by omega) (by omega) (by omega)]; exact hok.2.2 q hq
      · have hft := hfit t s' a' N hK hN
        rw [hft]
        have hK2 : ∀ g : xN, keptE s a (lwS s' (30 + t)) (va_up (aftA a' N) 36 g) := by
          intro g
          refine ⟨fun i hi => (lwS_lo s' (30 + t) hi).trans (hK.1 i hi), fun i h1 h2 h3 => ?_, fun i hi => (put_back _ _ _ hi).trans (hK.2.2 i hi)⟩
          show va_up (va_up (va_up a' 27 _) 26 _) 36 _ i = a i
          unfold va_up
          rw [if_neg h3, if_neg h1, if_neg h2]
          exact hK.2.1 i h1 h2 h3
        have hK3 : keptE s a (lwS s' (30 + t)) (aftA a' N) := by
          refine ⟨fun i hi => (lwS_lo s' (30 + t) hi).trans (hK.1 i hi), fun i h1 h2 h3 => ?_, fun i hi => (put_back _ _ _ hi).trans (hK.2.2 i hi)⟩
          show va_up (va_up a' 27 _) 26 _ i = a i
          unfold va_up
          rw [if_neg h1, if_neg h2]
          exact hK.2.1 i h1 h2 h3
        by_cases hf : fit t = true
        · rw [if_pos hf]
          refine ih (t + 1) _ _ x2' (by omega) ⟨fun i hi => ?_, (hK2 _).2.1, (hK2 (a' 36)).2.2⟩ ⟨?_, ?_, fun k hk => ?_⟩ hx'
          · rw [pk_un (by omega), pk_un (by omega)]; exact (hK2 (a' 36)).1 i hi
          · show nI (mnS fit t + 1) = _
            rw [mnS, if_pos hf]
          · show (if mnS fit t = 0 then nI (30 + t) else s' 35) = _
            rw [fiS, if_pos hf, l2]
          · show hkA (30 + t) (a' 36) 3 k = _
            rw [hkA_at, if_pos hk, hkS, if_pos hf, l3 k hk]
        · rw [if_neg hf]
          refine ih (t + 1) _ _ x2' (by omega) hK3 ⟨?_, ?_, fun k hk => ?_⟩ hx'
          · show s' 34 = _
            rw [mnS, if_neg hf]; exact l1
          · show s' 35 = _
            rw [fiS, if_neg hf]; exact l2
          · show a' 36 k = _
            rw [hkS, if_neg hf]; exact l3 k hk
  have start := loop 210 0 (upd (upd s 34 0) 35 (-1)) (va_up a 36 (upd (upd (upd (a 36) 0 0) 1 0) 2 0)) none rfl ⟨fun i hi => by rw [pk_un (by omega), pk_un (by omega)], fun i h1 h2 h3 => by unfold va_up; rw [if_neg h3], fun _ _ => rfl⟩ ⟨rfl, rfl, fun k hk => ?_⟩ (Or.inl rfl)
  · refine AJ.run kX8_layLaws [12] 60 ?_
    refine AJ.run kX8_layLaws [12] 60 ⟨fun hz => absurd hz (by decide), fun _ => ⟨0, rfl, by omega, ?_⟩⟩
    refine AJ.run kX8_layLaws [12] 60 ⟨fun hz => absurd hz (by decide), fun _ => ⟨1, rfl, by omega, ?_⟩⟩
    refine AJ.run kX8_layLaws [12] 60 ⟨fun hz => absurd hz (by decide), fun _ => ⟨2, rfl, by omega, ?_⟩⟩
    exact AJ.run kX8_layLaws [33] 60 ⟨fun _ => start, fun hz => absurd (by decide) hz⟩
  · rcases (show k = 0 ∨ k = 1 ∨ k = 2 by omega) with rfl | rfl | rfl <;> rfl
def readP (fit : Nat → Bool) (w : Int32) : Int32 := if inP w 0 2 = true then (if w = 0 then nI (mnS fit 210) else if mnS fit 210 = 0 then -1 else if w = 1 then fiS fit 210 / 30 else (fiS fit 210 - fiS fit 210 / 30 * 30) + 1) else -3
theorem c8_read (L : xLn) (s : xN) (j : Int64) (a : Nat → xN) (m n : Nat) (hok : okT s a m) (hs : s 11 = nI n) (hn : n ≤ 8) (w : Int32) : CT L mX8_read 5 0 0 [.ref 0, .int w] (modW s j a) (fun r Y => r = some (.int (readP (fitP s a m n) w)) ∧ ∃ s' j' a', Y = modW s' j' a' ∧ keptM m s a s' a') := by
  have hLL := c8_layLaws L s j a m n hok hs hn
  have hle := mnS_le (fitP s a m n) 210
  generalize fitP s a m n = fit at hLL hle ⊢
  unfold readP
  unfold lawsOk at hLL
  generalize mnS fit 210 = mn at hLL hle ⊢
  generalize fiS fit 210 = fi at hLL ⊢
  refine CT.of rfl (Nat.le_of_ble_eq_true rfl) (Nat.le_of_ble_eq_true rfl) ?_
  refine AJ.run kX8_read [] 60 ?_
  refine AJ.callZ kX8_read (c8_in L w 0 2) bX8_in rfl (by decide +kernel) [] rfl rfl rfl rfl rfl ?_
  rintro r rfl
  refine AJ.run kX8_read [12] 60 ⟨fun h => ?_, fun h => ⟨by rw [if_neg (by rw [(bI_eq0 _).mp h]; simp)], s, j, a, rfl, keptM.rf m s a⟩⟩
  rw [if_pos ((bI_ne0 _).mp h)]
  refine AJ.run kX8_read [] 60 ?_
  refine AJ.callF kX8_read hLL bX8_layLaws rfl (by decide +kernel) [] rfl rfl rfl rfl rfl rfl rfl rfl ?_
  rintro r Y ⟨rfl, s', a', rfl, hK, l1, l2, -⟩
  have hz : s' 34 = 0 ↔ mn = 0 := by
    rw [l1]
    constructor
    · intro q
      rcases Nat.eq_zero_or_pos mn with z | z
      · exact z
      · exact absurd q (nI_ne0 z (by omega))
    · intro q; rw [q]; rfl
  refine ⟨rfl, rfl, AJ.run kX8_read [] 60 ⟨fun h1 => ⟨fun h2 => ⟨fun h3 => ⟨by decide, ?_, s', j, a', rfl, hK.m m⟩, fun h3 => ⟨by decide, ?_, s', j, a', rfl, hK.m m⟩⟩, fun h2 => ⟨?_, s', j, a', rfl, hK.m m⟩⟩, fun h1 => ⟨?_, s', j, a', rfl, hK.m m⟩⟩⟩
  · have h2 : ¬ s' 34 = 0 := h2
    rw [if_neg h1, if_neg (fun q => h2 (hz.mpr q)), if_neg h3, ← l2]
  · have h2 : ¬ s' 34 = 0 := h2
    rw [if_neg h1, if_neg (fun q => h2 (hz.mpr q)), if_pos h3, ← l2]
  · have h2 : s' 34 = 0 := h2
    rw [if_neg h1, if_pos (hz.mp h2)]
  · rw [if_pos h1, ← l1]
theorem gcL_pos : ∀ (f x y : Nat), y < f → (0 < x ∨ 0 < y) → 0 < gcL f x y
  | 0, _, _, h, _ => by omega
  | f + 1, x, y, h, hp => by
    rw [gcL]
    split
    · omega
    · next hy =>
      have : x % y < y := Nat.mod_lt _ (by omega)
      exact gcL_pos f y (x % y) (by omega) (Or.inl (by omega))
theorem gcL_le : ∀ (f x y b : Nat), x ≤ b → y ≤ b → gcL f x y ≤ b
  | 0, _, _, _, h, _ => h
  | f + 1, x, y, b, hx, hy => by
    rw [gcL]
    split
    · exact hx
    · next h =>
      have : x % y < y := Nat.mod_lt _ (by omega)
      exact gcL_le f y (x % y) b hy (by omega)
def hkN (fit : Nat → Bool) (k : Nat) : Nat → Nat
  | 0 => 0
  | t + 1 => if fit t = true then hkN fit k t + (30 + t) / 30 / 2 ^ k % 2 else hkN fit k t
theorem bit_nI : ∀ q, q < 8 → ∀ k, k < 3 → (nI q >>> (nI k &&& 31) &&& 1) = nI (q / 2 ^ k % 2) := by decide
theorem hkN_le (fit : Nat → Bool) (k : Nat) : ∀ t, hkN fit k t ≤ mnS fit t
  | 0 => Nat.le_refl _
  | t + 1 => by
    have := hkN_le fit k t
    rw [hkN, mnS]
    split
    · have : (30 + t) / 30 / 2 ^ k % 2 < 2 := Nat.mod_lt _ (by omega)
      omega
    · exact this
theorem hkS_nI (fit : Nat → Bool) {k : Nat} (hk : k < 3) : ∀ t, t ≤ 210 → hkS fit k t = nI (hkN fit k t)
  | 0, _ => rfl
  | t + 1, ht => by
    rw [hkS, hkN]
    split
    · rw [hkS_nI fit hk t (by omega), bit_nI _ (by omega) k hk, nI_add]
    · exact hkS_nI fit hk t (by omega)
def oddsP (fit : Nat → Bool) (k w : Int32) : Int32 := if (inP k 0 2 && inP w 0 1) = true then (if mnS fit 210 = 0 then -4 else nI ((if w = 0 then hkN fit k.toNatClampNeg 210 else mnS fit 210) / gcL (mnS fit 210 + 1) (hkN fit k.toNatClampNeg 210) (mnS fit 210))) else -3
theorem c8_odds (L : xLn) (s : xN) (j : Int64) (a : Nat → xN) (m n : Nat) (hok : okT s a m) (hs : s 11 = nI n) (hn : n ≤ 8) (k w : Int32) : CT L mX8_odds 5 0 0 [.ref 0, .int k, .int w] (modW s j a) (fun r Y => r = some (.int (oddsP (fitP s a m n) k w)) ∧ ∃ s' j' a', Y = modW s' j' a' ∧ keptM m s a s' a') := by
  have hLL := c8_layLaws L s j a m n hok hs hn
  have hle := mnS_le (fitP s a m n) 210
  have hhk := fun k hk => hkS_nI (fitP s a m n) (k := k) hk 210 (by omega)
  have hhl := fun k => hkN_le (fitP s a m n) k 210
  generalize fitP s a m n = fit at hLL hle hhk hhl ⊢
  unfold oddsP
  unfold lawsOk at hLL
  generalize mnS fit 210 = mn at hLL hle hhl ⊢
  obtain ⟨hN, ehN⟩ : ∃ hN : Nat → Nat, hN = fun k => hkN fit k 210 := ⟨_, rfl⟩
  have ehN' : ∀ k, hkN fit k 210 = hN k := fun k => by rw [ehN]
  simp only [ehN'] at hhk hhl ⊢
  generalize fiS fit 210 = fi at hLL
  obtain ⟨hS, ehS⟩ : ∃ hS : Nat → Int32, hS = fun k => hkS fit k 210 := ⟨_, rfl⟩
  have ehS' : ∀ k, hkS fit k 210 = hS k := fun k => by rw [ehS]
  simp only [ehS'] at hhk hLL
  clear ehN ehN' ehS ehS'
  refine CT.of rfl (Nat.le_of_ble_eq_true rfl) (Nat.le_of_ble_eq_true rfl) ?_
  refine AJ.run kX8_odds [] 60 ?_
  refine AJ.callZ kX8_odds (c8_in L k 0 2) bX8_in rfl (by decide +kernel) [] rfl rfl rfl rfl rfl ?_
  rintro r rfl
  refine AJ.run kX8_odds [21] 60 ⟨fun h => ⟨by rw [if_neg (by rw [(bI_eq0 _).mp h]; simp)], s, j, a, rfl, keptM.rf m s a⟩, fun h => ?_⟩
  have h1 := (bI_ne0 _).mp h
  refine AJ.callZ kX8_odds (c8_in L w 0 1) bX8_in rfl (by decide +kernel) [] rfl rfl rfl rfl rfl ?_
  rintro r rfl
  refine AJ.run kX8_odds [21] 60 ⟨fun h => ?_, fun h => ⟨by rw [if_neg (by rw [(bI_eq0 _).mp h]; simp)], s, j, a, rfl, keptM.rf m s a⟩⟩
  have h2 := (bI_ne0 _).mp h
  rw [if_pos (by rw [h1, h2]; rfl)]
  obtain ⟨p, hp, rfl⟩ := inP_nI (n := 2) (by omega) h1
  rw [nI_clamp (by omega)]
  refine AJ.run kX8_odds [] 60 ?_
  refine AJ.callF kX8_odds hLL bX8_layLaws rfl (by decide +kernel) [] rfl rfl rfl rfl rfl rfl rfl rfl ?_
  rintro r Y ⟨rfl, s', a', rfl, hK, l1, -, l3⟩
  have e36 : a' 36 p = nI (hN p) := by rw [l3 p (by omega), hhk p (by omega)]
  have hp2 := hhl p
  refine ⟨rfl, rfl, AJ.run kX8_odds [52] 60 ⟨fun h3 => ?_, fun h3 => ⟨?_, s', j, a', rfl, hK.m m⟩⟩⟩
  · have h3 : ¬ s' 34 = 0 := h3
    have hmn : mn ≠ 0 := fun q => h3 (by rw [l1, q]; rfl)
    rw [if_neg hmn]
    have g1 := gcL_pos (mn + 1) (hN p) mn (by omega) (by omega)
    have g2 := gcL_le (mn + 1) (hN p) mn mn hp2 (Nat.le_refl _)
    have at52 : ∀ v : Nat, v ≤ 210 → v = (if w = 0 then hN p else mn) → AJ L mX8_odds 5 0 0 (fun r Y => r = some (.int (nI ((if w = 0 then hN p else mn) / gcL (mn + 1) (hN p) mn))) ∧ ∃ s' j' a', Y = modW s' j' a' ∧ keptM m s a s' a') (modW s j a).length (0, 0) 52 [some (.ref 0), some (.int (nI p)), some (.int w)] [.int (nI v)] (modW s' j a') := by
      intro v hv hvv
      rw [← hvv]
      refine AJ.run kX8_odds [] 60 ⟨p, rfl, by omega, ?_⟩
      have hC := c8_divisor L (hN p) mn (by omega) (by omega)
      rw [← e36, ← l1] at hC
      refine AJ.callZ kX8_odds hC bX8_divisor rfl (by decide +kernel) [.int (nI v)] rfl rfl rfl rfl rfl ?_
      rintro r rfl
      generalize gcL (mn + 1) (hN p) mn = g at g1 g2
      refine AJ.run kX8_odds [] 60 ⟨nI_ne0 g1 (by omega), ?_, s', j, a', rfl, hK.m m⟩
      rw [pk_div (by omega) g1 (by omega)]
    refine ⟨fun h4 => ?_, fun h4 => ⟨p, rfl, by omega, ?_⟩⟩
    · have := at52 mn (by omega) (by rw [if_neg h4])
      rw [← l1] at this
      exact this
    · have := at52 (hN p) (by omega) (by rw [if_pos h4])
      rw [← e36] at this
      exact this
  · have h3 : s' 34 = 0 := h3
    rw [l1] at h3
    rw [if_pos]
    rcases Nat.eq_zero_or_pos mn with z | z
    · exact z
    · exact absurd h3 (nI_ne0 z (by omega))
end
section
/-! ===== the reference: feigned moods ===== -/
theorem feltL_mo {mo mo' : xN} (N : xN) : ∀ k, (∀ i, i < 3 * k → mo' i = mo i) → feltL mo' N k = feltL mo N k
  | 0, _ => rfl
  | k + 1, h => by
    rw [feltL, feltL, feltL_mo N k (fun i hi => h i (by omega)), feltF, feltF, h (3 * k + 2) (by omega), h (3 * k) (by omega)]
theorem caP_mo {mo mo' : xN} (ns sp : Int32) (N : xN) (q : Int32) : ∀ k, k ≤ 26 → (∀ i, i < 3 * k → mo' i = mo i) → caP ns sp mo' N q k = caP ns sp mo N q k
  | 0, _, _ => rfl
  | k + 1, hk, h => by
    have ih := caP_mo ns sp N q k (by omega) (fun i hi => h i (by omega))
    have e : isC ns sp mo' N q k = isC ns sp mo N q k := by
      unfold isC
      rw [h (3 * k + 1) (by omega), h (3 * k + 2) (by omega)]
    rw [caP, caP, ih, e, h (3 * k + 2) (by omega)]
    rcases caP_in ns sp mo N q k with h1 | ⟨c, h1, h2⟩
    · rw [h1]
      simp
    · rw [h2, nI_clamp (by omega), h (3 * c + 2) (by omega)]
/-- all that a day of m moods needs of the told is the same -/
def eqTm (m : Nat) (s : xN) (a : Nat → xN) (s' : xN) (a' : Nat → xN) : Prop := (s' 0 = s 0 ∧ s' 3 = s 3 ∧ s' 4 = s 4 ∧ s' 5 = s 5 ∧ s' 7 = s 7 ∧ s' 30 = s 30 ∧ s' 31 = s 31) ∧ a' 6 = a 6 ∧ a' 8 = a 8 ∧ ∀ i, i < 3 * m → a' 10 i = a 10 i
theorem minP_mo {s s' : xN} {a a' : Nat → xN} {m : Nat} (hm : m ≤ 26) (h : eqTm m s a s' a') (N : xN) : minP s' a' m N = minP s a m N := by
  obtain ⟨⟨h0, h3, h4, h5, h7, h30, h31⟩, a6, a8, a10⟩ := h
  have t : ∀ (N : xN) (k : Nat), tramF s' a' m N k = tramF s a m N k := by
    intro N k
    unfold tramF
    rw [h0, h3, h4, h5, h7, h30, h31, a6, a8, caP_mo (s 30) (s 31) N (N (1 + k)) m hm a10]
  unfold minP
  rw [t, t, feltL_mo N m a10]
theorem goL_mo {s s' : xN} {a a' : Nat → xN} {m : Nat} (hm : m ≤ 26) (h : eqTm m s a s' a') (N : xN) : ∀ n, goL s' a' m N n = goL s a m N n
  | 0 => rfl
  | n + 1 => by rw [goL, goL, goL_mo hm h N n, minP_mo hm h]
theorem dq_mo {s s' : xN} {a a' : Nat → xN} {m : Nat} (hm : m ≤ 26) (h : eqTm m s a s' a') : dq s' a' m = dq s a m := by
  unfold dq dayP
  rw [goL_mo hm h, h.2.1, h.2.2.1]
def kindP (ns : Int32) : Int32 := if ns = 0 ∨ hasP ns 0 = true then 0 else if hasP ns 1 = true then 1 else 2
def up3 (f : xN) (m : Nat) (w k t : Int32) : xN := upd (upd (upd f (3 * m) w) (3 * m + 1) k) (3 * m + 2) t
/-- the moods' row with so many feigned behind m told -/
def feM (f : xN) (m : Nat) (p kd : Int32) (y z : Nat) : Nat → xN
  | 0 => f
  | 1 => up3 f m p kd (nI y)
  | _ => up3 (up3 f m p kd (nI y)) (m + 1) p kd (nI z)
/-- the best so far: the minute, how many, which -/
def bstP (v : Int32) (q y z : Nat) (b : xN) : xN := if v < b 0 then upd (upd (upd (upd b 0 v) 1 (nI q)) 2 (if 0 < q then nI y else -1)) 3 (if 1 < q then nI z else -1) else b
end
section
theorem c8_dayB (L : xLn) (s : xN) (j : Int64) (a : Nat → xN) (m : Nat) (hok : okD s a m) : CT L mX8_goDay 3 0 0 [.ref 0] (modW s j a) (fun r Y => r = none ∧ ∃ N A : xN, isDay s a m N ∧ (∀ i, i < 573 → A i = a 26 i) ∧ Y = modN s j (va_up a 27 A) N) :=
  (c8_dayA L s j a m hok).mono (fun r Y ⟨h1, N, h2, h3⟩ => ⟨h1, N, _, h2, fun i hi => by rw [cpL_at, if_pos (by omega)]; congr 1; omega, h3⟩)
theorem c8_putB (L : xLn) (s : xN) (j : Int64) (a : Nat → xN) (N : xN) : CT L mX8_putBack 1 0 0 [.ref 0] (modN s j a N) (fun r Y => r = none ∧ ∃ B : xN, (∀ i, i < 573 → B i = a 27 i) ∧ Y = modN s j a B) :=
  (c8_putBack L s j a N).mono (fun r Y ⟨h1, h3⟩ => ⟨h1, _, fun i hi => by rw [cpL_at, if_pos (by omega)]; congr 1; omega, h3⟩)
def arA (a : Nat → xN) (A B b : xN) : Nat → xN := va_up (va_up (va_up a 27 A) 26 B) 33 b
set_option maxHeartbeats 400000 in
theorem c8_tf_tail (L : xLn) (Q : Option Value → List xE → Prop) (s : xN) (j : Int64) (a : Nat → xN) (m n0 p q y z : Nat) (x5 x6 : Int32) (hp : p < 8) (hq : q ≤ 2) (hok : okD s a m)
    (nxt : ∀ N A B, isDay s a m N → (∀ i, i < 573 → B i = a 26 i) → Q none (modW s j (arA a A B (bstP (lateP N p) q y z (a 33))))) :
    AJ L mX8_tryFeigned 4 0 0 Q n0 (0, 0) 120 [some (.ref 0), some (.int (nI p)), some (.int (nI q)), some (.int (nI y)), some (.int (nI z)), some (.int x5), some (.int x6)] [] (modW s j a) := by
  refine AJ.run kX8_tryFeigned [] 60 ?_
  refine AJ.callF kX8_tryFeigned (c8_dayB L s j a m hok) bX8_goDay rfl (by decide +kernel) [] rfl rfl rfl rfl rfl rfl rfl rfl ?_
  rintro r Y ⟨rfl, N, A, hN, hA, rfl⟩
  have nxt := fun B => nxt N A B hN
  refine ⟨rfl, rfl, AJ.run kX8_tryFeigned [] 60 ?_⟩
  refine AJ.callF kX8_tryFeigned (c8_late L s j (va_up a 27 A) N p hp) bX8_late rfl (by decide +kernel) [] rfl rfl rfl rfl rfl rfl rfl rfl ?_
  rintro r Y ⟨rfl, rfl⟩
  have ev : (if N (25 + p) = -1 then 60 else N (25 + p)) = lateP N p := rfl
  rw [ev]
  generalize lateP N p = v at nxt
  refine ⟨rfl, rfl, AJ.run kX8_tryFeigned [] 60 ?_⟩
  refine AJ.callF kX8_tryFeigned (c8_putB L s j (va_up a 27 A) N) bX8_putBack rfl (by decide +kernel) [] rfl rfl rfl rfl rfl rfl rfl rfl ?_
  rintro r Y ⟨rfl, B, hB, rfl⟩
  have nxt := nxt B (fun i hi => (hB i hi).trans (hA i hi))
  clear hB hA hN hok
  refine ⟨rfl, rfl, AJ.run kX8_tryFeigned [] 60 ⟨0, rfl, by omega, fun h => ?_, fun h => ⟨0, rfl, by omega, 1, rfl, by omega, fun h2 => ⟨2, rfl, by omega, fun h3 => ⟨3, rfl, by omega, ?_⟩, fun h3 => ⟨3, rfl, by omega, ?_⟩⟩, fun h2 => ⟨2, rfl, by omega, fun h3 => ⟨3, rfl, by omega, ?_⟩, fun h3 => ⟨3, rfl, by omega, ?_⟩⟩⟩⟩⟩
  · have h : a 33 0 ≤ v := h
    rw [bstP, if_neg (by simp only [i32_lt, i32_le] at h ⊢; omega)] at nxt
    exact nxt
  all_goals
    have h : ¬ a 33 0 ≤ v := h
    have h' : v < a 33 0 := by simp only [i32_lt, i32_le] at h ⊢; omega
    rw [bstP, if_pos h'] at nxt
    have h2a := nI_leI (a := q) (b := 0) (by omega) (by omega)
    have h3a := nI_leI (a := q) (b := 1) (by omega) (by omega)
  · have h2 := h2a.mp h2
    have h3 := h3a.mp h3
    rw [if_neg (by omega), if_neg (by omega)] at nxt
    exact nxt
  · have h2 := h2a.mp h2
    exact absurd (h3a.mpr (by omega)) h3
  · have h3 := h3a.mp h3
    have h2 : ¬ q ≤ 0 := fun z => h2 (h2a.mpr z)
    rw [if_pos (by omega), if_neg (by omega)] at nxt
    exact nxt
  · have h3 : ¬ q ≤ 1 := fun z => h3 (h3a.mpr z)
    rw [if_pos (by omega), if_pos (by omega)] at nxt
    exact nxt
end
section
theorem feM_ok {s : xN} {a : Nat → xN} {m p : Nat} (kd : Int32) (y z : Nat) (hp : p < 8) (hok : okT s a m) {q : Nat} (hq : q ≤ 2) (u : xN) (hu : u 32 = nI (m + q)) : okD u (va_up a 10 (feM (a 10) m (nI p) kd y z q)) (m + q) := by
  obtain ⟨h9, hm, hmo⟩ := hok
  refine ⟨hu, by omega, fun k hk => ?_⟩
  show ∃ p', p' < 8 ∧ feM (a 10) m (nI p) kd y z q (3 * k) = nI p'
  rcases (show q = 0 ∨ q = 1 ∨ q = 2 by omega) with rfl | rfl | rfl
  · exact hmo k (by omega)
  · show ∃ p', p' < 8 ∧ up3 (a 10) m (nI p) kd (nI y) (3 * k) = nI p'
    unfold up3
    by_cases e : k = m
    · subst e
      rw [pk_un (by omega), pk_un (by omega), pk_us]
      exact ⟨p, hp, rfl⟩
    · rw [pk_un (by omega), pk_un (by omega), pk_un (by omega)]
      exact hmo k (by omega)
  · show ∃ p', p' < 8 ∧ up3 (up3 (a 10) m (nI p) kd (nI y)) (m + 1) (nI p) kd (nI z) (3 * k) = nI p'
    unfold up3
    by_cases e : k = m + 1
    · subst e
      rw [pk_un (by omega), pk_un (by omega), pk_us]
      exact ⟨p, hp, rfl⟩
    · rw [pk_un (by omega), pk_un (by omega), pk_un (by omega)]
      by_cases e : k = m
      · subst e
        rw [pk_un (by omega), pk_un (by omega), pk_us]
        exact ⟨p, hp, rfl⟩
      · rw [pk_un (by omega), pk_un (by omega), pk_un (by omega)]
        exact hmo k (by omega)
def feS (s : xN) (m q : Nat) : xN := upd (toldP s) 32 (nI (m + q))
def feA (s : xN) (a : Nat → xN) (m p y z q : Nat) : Nat → xN := va_up a 10 (feM (a 10) m (nI p) (kindP (s 1)) y z q)
set_option maxHeartbeats 400000 in
theorem c8_tf_at (L : xLn) (Q : Option Value → List xE → Prop) (s : xN) (j : Int64) (a : Nat → xN) (m n0 p q y z : Nat) (kd : Int32) (hp : p < 8) (hq : q ≤ 2) (hok : okT s a m)
    (nxt : ∀ N A B, isDay (feS s m q) (va_up a 10 (feM (a 10) m (nI p) kd y z q)) (m + q) N → (∀ i, i < 573 → B i = a 26 i) → Q none (modW (feS s m q) j (arA (va_up a 10 (feM (a 10) m (nI p) kd y z q)) A B (bstP (lateP N p) q y z (a 33))))) :
    AJ L mX8_tryFeigned 4 0 0 Q n0 (0, 0) 38 [some (.ref 0), some (.int (nI p)), some (.int (nI q)), some (.int (nI y)), some (.int (nI z)), none, none] [.int kd] (modW s j a) := by
  have tail := fun x6 => c8_tf_tail L Q (feS s m q) j (va_up a 10 (feM (a 10) m (nI p) kd y z q)) (m + q) n0 p q y z kd x6 hp hq (feM_ok kd y z hp hok hq _ rfl) nxt
  clear nxt
  obtain ⟨h9, hm, hmo⟩ := hok
  refine AJ.run kX8_tryFeigned [] 60 ?_
  refine AJ.callF kX8_tryFeigned (c8_asTold L s j a) bX8_asTold rfl (by decide +kernel) [] rfl rfl rfl rfl rfl rfl rfl rfl ?_
  rintro r Y ⟨rfl, rfl⟩
  refine ⟨rfl, rfl, ?_⟩
  have i0 : 3 * s 9 = nI (3 * m) := by rw [h9]; simp only [fa_lit, pk_mul]
  have i1 : 3 * s 9 + 1 = nI (3 * m + 1) := by rw [h9]; simp only [fa_lit, nI_add, pk_mul]
  have i2 : 3 * s 9 + 2 = nI (3 * m + 2) := by rw [h9]; simp only [fa_lit, nI_add, pk_mul]
  have e1 : s 9 + 1 = nI (m + 1) := by rw [h9, nI_1]
  have e2 : s 9 + 1 + 1 = nI (m + 2) := by rw [e1, nI_1]
  have k0 : 3 * (s 9 + 1) = nI (3 * (m + 1)) := by rw [e1]; simp only [fa_lit, pk_mul]
  have k1 : 3 * (s 9 + 1) + 1 = nI (3 * (m + 1) + 1) := by rw [e1]; simp only [fa_lit, nI_add, pk_mul]
  have k2 : 3 * (s 9 + 1) + 2 = nI (3 * (m + 1) + 2) := by rw [e1]; simp only [fa_lit, nI_add, pk_mul]
  unfold feS at tail
  rcases (show q = 0 ∨ q = 1 ∨ q = 2 by omega) with rfl | rfl | rfl
  · have t := tail 0
    rw [Nat.add_zero, ← h9] at t
    exact AJ.run kX8_tryFeigned [120] 60 ⟨fun _ => t, fun hz => absurd (by decide) hz⟩
  · have t := tail 1
    rw [← e1] at t
    exact AJ.run kX8_tryFeigned [120] 90 ⟨fun hz => absurd hz (by decide), fun _ => ⟨3 * m, i0, by omega, 3 * m + 1, i1, by omega, fun hz => absurd rfl hz, fun _ => ⟨3 * m + 2, i2, by omega, fun _ => t, fun hz => absurd (by decide) hz⟩⟩⟩
  · have t := tail 2
    rw [← e2] at t
    exact AJ.run kX8_tryFeigned [120] 150 ⟨fun hz => absurd hz (by decide), fun _ => ⟨3 * m, i0, by omega, 3 * m + 1, i1, by omega, fun hz => absurd rfl hz, fun _ => ⟨3 * m + 2, i2, by omega, fun hz => absurd hz (by decide), fun _ => ⟨3 * (m + 1), k0, by omega, 3 * (m + 1) + 1, k1, by omega, fun _ => ⟨3 * (m + 1) + 2, k2, by omega, fun _ => t, fun hz => absurd (by decide) hz⟩, fun hz => absurd hz (by decide)⟩⟩⟩⟩
theorem c8_tryFeigned (L : xLn) (s : xN) (j : Int64) (a : Nat → xN) (m p q y z : Nat) (hp : p < 8) (hq : q ≤ 2) (hok : okT s a m) : CT L mX8_tryFeigned 4 0 0 [.ref 0, .int (nI p), .int (nI q), .int (nI y), .int (nI z)] (modW s j a) (fun r Y => r = none ∧ ∃ N A B, isDay (feS s m q) (feA s a m p y z q) (m + q) N ∧ (∀ i, i < 573 → B i = a 26 i) ∧ Y = modW (feS s m q) j (arA (feA s a m p y z q) A B (bstP (lateP N p) q y z (a 33)))) := by
  refine CT.of rfl (Nat.le_of_ble_eq_true rfl) (Nat.le_of_ble_eq_true rfl) ?_
  have at38 : ∀ kd : Int32, kd = kindP (s 1) → AJ L mX8_tryFeigned 4 0 0 (fun r Y => r = none ∧ ∃ N A B, isDay (feS s m q) (feA s a m p y z q) (m + q) N ∧ (∀ i, i < 573 → B i = a 26 i) ∧ Y = modW (feS s m q) j (arA (feA s a m p y z q) A B (bstP (lateP N p) q y z (a 33)))) (modW s j a).length (0, 0) 38 [some (.ref 0), some (.int (nI p)), some (.int (nI q)), some (.int (nI y)), some (.int (nI z)), none, none] [.int kd] (modW s j a) := by
    intro kd hkd
    refine c8_tf_at L _ s j a m _ p q y z kd hp hq hok ?_
    intro N A B h1 h2
    rw [hkd] at h1 ⊢
    exact ⟨rfl, N, A, B, h1, h2, rfl⟩
  generalize (fun (r : Option Value) (Y : List xE) => r = none ∧ ∃ N A B, isDay (feS s m q) (feA s a m p y z q) (m + q) N ∧ (∀ i, i < 573 → B i = a 26 i) ∧ Y = modW (feS s m q) j (arA (feA s a m p y z q) A B (bstP (lateP N p) q y z (a 33)))) = Q at at38 ⊢
  refine AJ.run kX8_tryFeigned [38] 60 ⟨fun h => at38 0 ?_, fun h => ?_⟩
  · have h : s 1 = 0 := h
    rw [kindP, if_pos (Or.inl h)]
  have h : ¬ s 1 = 0 := h
  refine AJ.callZ kX8_tryFeigned (c8_has L (s 1) 0) bX8_has rfl (by decide +kernel) [] rfl rfl rfl rfl rfl ?_
  rintro r rfl
  refine AJ.run kX8_tryFeigned [38] 60 ⟨fun h2 => ?_, fun h2 => at38 0 ?_⟩
  · rw [bI_eq0] at h2
    refine AJ.callZ kX8_tryFeigned (c8_has L (s 1) 1) bX8_has rfl (by decide +kernel) [] rfl rfl rfl rfl rfl ?_
    rintro r rfl
    have hn : ¬ (s 1 = 0 ∨ hasP (s 1) 0 = true) := by rintro (z | z); exact h z; rw [h2] at z; cases z
    refine AJ.run kX8_tryFeigned [38] 60 ⟨fun h3 => at38 2 ?_, fun h3 => at38 1 ?_⟩
    · rw [bI_eq0] at h3
      rw [kindP, if_neg hn, if_neg (by rw [h3]; simp)]
    · rw [bI_ne0] at h3
      rw [kindP, if_neg hn, if_pos h3]
  · rw [bI_ne0] at h2
    rw [kindP, if_pos (Or.inr h2)]
end
section
/-! ===== the reference: feigned ===== -/
theorem up3_mo {f g : xN} {m : Nat} (h : ∀ i, i < 3 * m → f i = g i) (w k t : Int32) : ∀ i, i < 3 * (m + 1) → up3 f m w k t i = up3 g m w k t i := by
  intro i hi
  unfold up3
  by_cases e2 : i = 3 * m + 2
  · subst e2; rw [pk_us, pk_us]
  rw [pk_un e2, pk_un e2]
  by_cases e1 : i = 3 * m + 1
  · subst e1; rw [pk_us, pk_us]
  rw [pk_un e1, pk_un e1]
  by_cases e0 : i = 3 * m
  · subst e0; rw [pk_us, pk_us]
  rw [pk_un e0, pk_un e0]
  exact h i (by omega)
theorem up3_lo {f : xN} {m i : Nat} (hi : i < 3 * m) (w k t : Int32) : up3 f m w k t i = f i := by
  unfold up3
  rw [pk_un (by omega), pk_un (by omega), pk_un (by omega)]
theorem feM_mo {f g : xN} {m : Nat} (h : ∀ i, i < 3 * m → f i = g i) (p kd : Int32) (y z : Nat) {q : Nat} (hq : q ≤ 2) : ∀ i, i < 3 * (m + q) → feM f m p kd y z q i = feM g m p kd y z q i := by
  rcases (show q = 0 ∨ q = 1 ∨ q = 2 by omega) with rfl | rfl | rfl
  · exact h
  · exact up3_mo h p kd (nI y)
  · exact up3_mo (up3_mo h p kd (nI y)) p kd (nI z)
theorem feM_lo {f : xN} {m i : Nat} (hi : i < 3 * m) (p kd : Int32) (y z : Nat) {q : Nat} (hq : q ≤ 2) : feM f m p kd y z q i = f i := by
  rcases (show q = 0 ∨ q = 1 ∨ q = 2 by omega) with rfl | rfl | rfl
  · rfl
  · exact up3_lo hi p kd (nI y)
  · exact (up3_lo (by omega) p kd (nI z)).trans (up3_lo hi p kd (nI y))
/-- when one is home if it feigns so -/
def feV (s : xN) (a : Nat → xN) (m p q y z : Nat) : Int32 := lateP (dq (feS s m q) (feA s a m p y z q) (m + q)) p
theorem feS_lo (s : xN) (m q : Nat) {i : Nat} (hi : i < 15) : feS s m q i = s i := by
  unfold feS toldP
  rw [pk_un (by omega), pk_un (by omega), pk_un (by omega), pk_un (by omega)]
theorem feV_kept {s : xN} {a : Nat → xN} {s' : xN} {a' : Nat → xN} {m p q y z : Nat} (hm : m ≤ 24) (hq : q ≤ 2) (hK : keptM m s a s' a') : dq (feS s' m q) (feA s' a' m p y z q) (m + q) = dq (feS s m q) (feA s a m p y z q) (m + q) := by
  refine dq_mo (by omega) ?_
  refine ⟨⟨?_, ?_, ?_, ?_, ?_, ?_, ?_⟩, hK.2.1.1, hK.2.1.2.1, ?_⟩
  · rw [feS_lo s' m q (by omega), feS_lo s m q (by omega)]; exact hK.1 0 (by omega)
  · rw [feS_lo s' m q (by omega), feS_lo s m q (by omega)]; exact hK.1 3 (by omega)
  · rw [feS_lo s' m q (by omega), feS_lo s m q (by omega)]; exact hK.1 4 (by omega)
  · rw [feS_lo s' m q (by omega), feS_lo s m q (by omega)]; exact hK.1 5 (by omega)
  · rw [feS_lo s' m q (by omega), feS_lo s m q (by omega)]; exact hK.1 7 (by omega)
  · exact hK.1 1 (by omega)
  · exact hK.1 2 (by omega)
  · show ∀ i, i < 3 * (m + q) → feM (a' 10) m (nI p) (kindP (s' 1)) y z q i = feM (a 10) m (nI p) (kindP (s 1)) y z q i
    rw [hK.1 1 (by omega)]
    exact feM_mo hK.2.2.1 _ _ y z hq
theorem okT.kept {s : xN} {a : Nat → xN} {m : Nat} (h : okT s a m) {s' : xN} {a' : Nat → xN} (hK : keptM m s a s' a') : okT s' a' m :=
  ⟨(hK.1 9 (by omega)).trans h.1, h.2.1, fun k hk => by rw [hK.2.2.1 (3 * k) (by omega)]; exact h.2.2 k hk⟩
def tfQ (m : Nat) (s : xN) (j : Int64) (a : Nat → xN) (b : xN) : Option Value → List xE → Prop := fun r Y => r = none ∧ ∃ s' a', Y = modW s' j a' ∧ keptM m s a s' a' ∧ a' 33 = b
theorem c8_tf (L : xLn) (s : xN) (j : Int64) (a : Nat → xN) (m p q y z : Nat) (hp : p < 8) (hq : q ≤ 2) (hok : okT s a m) (s' : xN) (a' : Nat → xN) (hK : keptM m s a s' a') : CT L mX8_tryFeigned 4 0 0 [.ref 0, .int (nI p), .int (nI q), .int (nI y), .int (nI z)] (modW s' j a') (tfQ m s j a (bstP (feV s a m p q y z) q y z (a' 33))) := by
  refine (c8_tryFeigned L s' j a' m p q y z hp hq (hok.kept hK)).mono ?_
  rintro r Y ⟨rfl, N, A, B, hN, hB, rfl⟩
  have e : lateP N p = feV s a m p q y z := by
    obtain ⟨-, h', e1, e2, e3⟩ := hN
    rw [lateP_ag e3 hp, feV_kept hok.2.1 hq hK]
    rfl
  rw [e]
  generalize feV s a m p q y z = v
  refine ⟨rfl, _, _, rfl, ?_, rfl⟩
  obtain ⟨k1, k2, k3, k4⟩ := hK
  refine ⟨fun i hi => (feS_lo s' m q hi).trans (k1 i hi), k2, fun i hi => ?_, fun i hi => (hB i hi).trans (k4 i hi)⟩
  exact (feM_lo hi _ _ y z hq).trans (k3 i hi)
def fe1 (V : Nat → Nat → Nat → Int32) (b : xN) : Nat → xN
  | 0 => b
  | i + 1 => bstP (V 1 i 0) 1 i 0 (fe1 V b i)
def fe2i (V : Nat → Nat → Nat → Int32) (y : Nat) (b : xN) : Nat → xN
  | 0 => b
  | i + 1 => bstP (V 2 y (y + 1 + i)) 2 y (y + 1 + i) (fe2i V y b i)
def fe2 (V : Nat → Nat → Nat → Int32) (b : xN) : Nat → xN
  | 0 => b
  | y + 1 => fe2i V y (fe2 V b y) (59 - y)
def fe0 (b : xN) : xN := upd (upd (upd (upd b 0 60) 1 (-1)) 2 (-1)) 3 (-1)
def feB (V : Nat → Nat → Nat → Int32) (n : Nat) (b : xN) : xN := if 1 < n then fe2 V (fe1 V (bstP (V 0 0 0) 0 0 0 (fe0 b)) 60) 60 else if 0 < n then fe1 V (bstP (V 0 0 0) 0 0 0 (fe0 b)) 60 else bstP (V 0 0 0) 0 0 0 (fe0 b)
end
section
abbrev tfC (L : xLn) (V : Nat → Nat → Nat → Int32) (m : Nat) (s : xN) (j : Int64) (a : Nat → xN) (p : Nat) : Prop := ∀ q y z s' a', q ≤ 2 → keptM m s a s' a' → CT L mX8_tryFeigned 4 0 0 [.ref 0, .int (nI p), .int (nI q), .int (nI y), .int (nI z)] (modW s' j a') (tfQ m s j a (bstP (V q y z) q y z (a' 33)))
set_option maxHeartbeats 400000 in
theorem c8_fe_in (L : xLn) (Q : Option Value → List xE → Prop) (V : Nat → Nat → Nat → Int32) (s : xN) (j : Int64) (a : Nat → xN) (m n0 p n y : Nat) (w : Int32) (hn : n ≤ 2) (hy : y < 60) (hc : tfC L V m s j a p) (G : Nat → xN) (hG : ∀ i, G (i + 1) = bstP (V 2 y (y + 1 + i)) 2 y (y + 1 + i) (G i))
    (nxt : ∀ s' a', keptM m s a s' a' → a' 33 = G (59 - y) → AJ L mX8_feigned 5 0 0 Q n0 (0, 0) 142 [some (.ref 0), some (.int (nI p)), some (.int (nI n)), some (.int w), some (.int (nI y)), some (.int (nI 60))] [] (modW s' j a')) :
    ∀ (f i : Nat) (s' : xN) (a' : Nat → xN), y + 1 + i + f = 60 → keptM m s a s' a' → a' 33 = G i → AJ L mX8_feigned 5 0 0 Q n0 (0, 0) 119 [some (.ref 0), some (.int (nI p)), some (.int (nI n)), some (.int w), some (.int (nI y)), some (.int (nI (y + 1 + i)))] [] (modW s' j a') := by
  intro f
  induction f with
  | zero =>
    intro i s' a' hi hK hb
    obtain rfl : i = 59 - y := by omega
    have nx := nxt s' a' hK hb
    rw [show y + 1 + (59 - y) = 60 by omega]
    exact AJ.run kX8_feigned [119, 142] 60 ⟨fun _ => nx, fun hz => absurd (by decide) hz⟩
  | succ f ih =>
    intro i s' a' hi hK hb
    refine AJ.run kX8_feigned [119] 60 ⟨fun hz => absurd hz (nI_ge (b := 60) (by omega) (by omega)), fun _ => ?_⟩
    refine AJ.callF kX8_feigned (hc 2 y (y + 1 + i) s' a' (by omega) hK) bX8_tryFeigned rfl (by decide +kernel) [] rfl rfl rfl rfl rfl rfl rfl rfl ?_
    rintro r Y ⟨rfl, s2, a2, rfl, hK2, hb2⟩
    have h2 := ih (i + 1) s2 a2 (by omega) hK2 (by rw [hb2, hb, hG])
    rw [show y + 1 + (i + 1) = (y + 1 + i) + 1 by omega, nI_succ] at h2
    exact ⟨rfl, rfl, AJ.run kX8_feigned [119] 60 h2⟩
set_option maxHeartbeats 400000 in
theorem c8_fe_two (L : xLn) (Q : Option Value → List xE → Prop) (V : Nat → Nat → Nat → Int32) (s : xN) (j : Int64) (a : Nat → xN) (m n0 p n : Nat) (w : Int32) (hn : n ≤ 2) (h1 : 1 < n) (hc : tfC L V m s j a p) (G : Nat → xN) (hG : ∀ y, y < 60 → G (y + 1) = fe2i V y (G y) (59 - y))
    (nxt : ∀ s' a' x5, keptM m s a s' a' → a' 33 = G 60 → x5 = none ∨ x5 = some (.int (nI 60)) → AJ L mX8_feigned 5 0 0 Q n0 (0, 0) 148 [some (.ref 0), some (.int (nI p)), some (.int (nI n)), some (.int w), some (.int (nI 60)), x5] [] (modW s' j a')) :
    ∀ (f y : Nat) (s' : xN) (a' : Nat → xN) (x5 : Option Value), y + f = 60 → keptM m s a s' a' → a' 33 = G y → x5 = none ∨ x5 = some (.int (nI 60)) → AJ L mX8_feigned 5 0 0 Q n0 (0, 0) 101 [some (.ref 0), some (.int (nI p)), some (.int (nI n)), some (.int w), some (.int (nI y)), x5] [] (modW s' j a') := by
  intro f
  induction f with
  | zero =>
    intro y s' a' x5 hi hK hb hx
    obtain rfl : y = 60 := by omega
    have nx := nxt s' a' x5 hK hb hx
    exact AJ.run kX8_feigned [101, 148] 60 ⟨fun _ => nx, fun hz => absurd (by decide) hz⟩
  | succ f ih =>
    intro y s' a' x5 hi hK hb hx
    refine AJ.run kX8_feigned [119, 148] 60 ⟨fun hz => absurd hz (nI_ge (b := 60) (by omega) (by omega)), fun _ => ⟨fun hz => absurd hz (nI_ge (b := n) (a := 1) (by omega) (by omega)), fun _ => ?_⟩⟩
    have key := c8_fe_in L Q V s j a m n0 p n y w hn (by omega) hc (fun i => fe2i V y (G y) i) (fun i => rfl) (fun s2 a2 hK2 hb2 => by
      have h2 := ih (y + 1) s2 a2 (some (.int (nI 60))) (by omega) hK2 (by rw [hb2, hG y (by omega)]) (Or.inr rfl)
      rw [nI_succ] at h2
      exact AJ.run kX8_feigned [101] 60 h2) (59 - y) 0 s' a' (by omega) hK hb
    rw [Nat.add_zero, nI_succ] at key
    rcases hx with rfl | rfl
    · exact key
    · exact key
set_option maxHeartbeats 400000 in
theorem c8_fe_one (L : xLn) (Q : Option Value → List xE → Prop) (V : Nat → Nat → Nat → Int32) (s : xN) (j : Int64) (a : Nat → xN) (m n0 p n : Nat) (w : Int32) (hn : n ≤ 2) (h1 : 0 < n) (hc : tfC L V m s j a p) (G : Nat → xN) (hG : ∀ i, G (i + 1) = bstP (V 1 i 0) 1 i 0 (G i))
    (nxt : ∀ s' a', keptM m s a s' a' → a' 33 = G 60 → AJ L mX8_feigned 5 0 0 Q n0 (0, 0) 98 [some (.ref 0), some (.int (nI p)), some (.int (nI n)), some (.int w), some (.int (nI 60)), none] [] (modW s' j a')) :
    ∀ (f i : Nat) (s' : xN) (a' : Nat → xN), i + f = 60 → keptM m s a s' a' → a' 33 = G i → AJ L mX8_feigned 5 0 0 Q n0 (0, 0) 72 [some (.ref 0), some (.int (nI p)), some (.int (nI n)), some (.int w), some (.int (nI i)), none] [] (modW s' j a') := by
  intro f
  induction f with
  | zero =>
    intro i s' a' hi hK hb
    obtain rfl : i = 60 := by omega
    have nx := nxt s' a' hK hb
    exact AJ.run kX8_feigned [72, 98] 60 ⟨fun _ => nx, fun hz => absurd (by decide) hz⟩
  | succ f ih =>
    intro i s' a' hi hK hb
    refine AJ.run kX8_feigned [72] 60 ⟨fun hz => absurd hz (nI_ge (b := 60) (by omega) (by omega)), fun _ => ⟨fun hz => absurd hz (nI_ge (b := n) (a := 0) (by omega) (by omega)), fun _ => ?_⟩⟩
    refine AJ.callF kX8_feigned (hc 1 i 0 s' a' (by omega) hK) bX8_tryFeigned rfl (by decide +kernel) [] rfl rfl rfl rfl rfl rfl rfl rfl ?_
    rintro r Y ⟨rfl, s2, a2, rfl, hK2, hb2⟩
    have h2 := ih (i + 1) s2 a2 (by omega) hK2 (by rw [hb2, hb, hG])
    rw [nI_succ] at h2
    exact ⟨rfl, rfl, AJ.run kX8_feigned [72] 60 h2⟩
end
section
def feiP (V : Nat → Nat → Nat → Int32) (n w : Nat) (b : xN) : Int32 := if feB V n b 0 = 60 then -1 else feB V n b w
set_option maxHeartbeats 400000 in
theorem c8_fe_end (L : xLn) (Q : Option Value → List xE → Prop) (s : xN) (j : Int64) (a : Nat → xN) (n0 w : Nat) (hw : w < 4) (k n : Int32) (x4 x5 : Option Value) (b : xN) (hb : a 33 = b) (nxt : Q (some (.int (if b 0 = 60 then -1 else b w))) (modW s j a)) :
    AJ L mX8_feigned 5 0 0 Q n0 (0, 0) 148 [some (.ref 0), some (.int k), some (.int n), some (.int (nI w)), x4, x5] [] (modW s j a) := by
  subst hb
  refine AJ.run kX8_feigned [] 60 ⟨0, rfl, by omega, fun h => ⟨w, rfl, by omega, ?_⟩, fun h => ?_⟩
  · have h : ¬ a 33 0 = 60 := h
    rw [if_neg h] at nxt
    exact nxt
  · have h : a 33 0 = 60 := h
    rw [if_pos h] at nxt
    exact nxt
/-- what feigned answers -/
def feiR (s : xN) (a : Nat → xN) (m : Nat) (k n w : Int32) : Int32 := if isPersonP s k = true then (if (inP n 0 2 && inP w 0 3) = true then feiP (feV s a m k.toNatClampNeg) n.toNatClampNeg w.toNatClampNeg (fun _ => 0) else -3) else -2
def kpQ (m : Nat) (s : xN) (a : Nat → xN) (v : Int32) : Option Value → List xE → Prop := fun r Y => r = some (.int v) ∧ ∃ s' j' a', Y = modW s' j' a' ∧ keptM m s a s' a'
theorem bst_lo {f g : xN} (h : ∀ i, i < 4 → f i = g i) (v : Int32) (q y z : Nat) : ∀ i, i < 4 → bstP v q y z f i = bstP v q y z g i := by
  intro i hi
  unfold bstP
  rw [h 0 (by omega)]
  split
  · rcases (show i = 0 ∨ i = 1 ∨ i = 2 ∨ i = 3 by omega) with rfl | rfl | rfl | rfl <;> rfl
  · exact h i hi
theorem fe1_lo (V : Nat → Nat → Nat → Int32) {f g : xN} (h : ∀ i, i < 4 → f i = g i) : ∀ k i, i < 4 → fe1 V f k i = fe1 V g k i
  | 0 => h
  | k + 1 => bst_lo (fe1_lo V h k) _ _ _ _
theorem fe2i_lo (V : Nat → Nat → Nat → Int32) (y : Nat) {f g : xN} (h : ∀ i, i < 4 → f i = g i) : ∀ k i, i < 4 → fe2i V y f k i = fe2i V y g k i
  | 0 => h
  | k + 1 => bst_lo (fe2i_lo V y h k) _ _ _ _
theorem fe2_lo (V : Nat → Nat → Nat → Int32) {f g : xN} (h : ∀ i, i < 4 → f i = g i) : ∀ k i, i < 4 → fe2 V f k i = fe2 V g k i
  | 0 => h
  | k + 1 => fe2i_lo V k (fe2_lo V h k) (59 - k)
theorem feB_lo (V : Nat → Nat → Nat → Int32) (n : Nat) (f g : xN) {w : Nat} (hw : w < 4) : feB V n f w = feB V n g w := by
  have h0 : ∀ i, i < 4 → fe0 f i = fe0 g i := by
    intro i hi
    rcases (show i = 0 ∨ i = 1 ∨ i = 2 ∨ i = 3 by omega) with rfl | rfl | rfl | rfl <;> rfl
  have h1 := bst_lo h0 (V 0 0 0) 0 0 0
  have h2 := fe1_lo V h1 60
  have h3 := fe2_lo V h2 60
  unfold feB
  split
  · exact h3 w hw
  · split
    · exact h2 w hw
    · exact h1 w hw
theorem feiP_lo (V : Nat → Nat → Nat → Int32) (n : Nat) (f g : xN) {w : Nat} (hw : w < 4) : feiP V n w f = feiP V n w g := by
  unfold feiP
  rw [feB_lo V n f g hw, feB_lo V n f g (by omega : 0 < 4)]
set_option maxHeartbeats 400000 in
theorem c8_fe_go (L : xLn) (Q : Option Value → List xE → Prop) (V : Nat → Nat → Nat → Int32) (s : xN) (j : Int64) (a : Nat → xN) (m n0 p n w : Nat) (hw : w < 4) (hn : n ≤ 2) (hc : tfC L V m s j a p)
    (nxt : ∀ s' a', keptM m s a s' a' → Q (some (.int (feiP V n w (a 33)))) (modW s' j a')) :
    AJ L mX8_feigned 5 0 0 Q n0 (0, 0) 32 [some (.ref 0), some (.int (nI p)), some (.int (nI n)), some (.int (nI w)), none, none] [] (modW s j a) := by
  have hK0 : keptM m s a s (va_up a 33 (fe0 (a 33))) := ⟨fun _ _ => rfl, ⟨rfl, rfl, rfl, rfl, rfl, rfl⟩, fun _ _ => rfl, fun _ _ => rfl⟩
  have c0 := hc 0 0 0 s (va_up a 33 (fe0 (a 33))) (by omega) hK0
  refine AJ.run kX8_feigned [66] 60 ⟨0, rfl, by omega, 1, rfl, by omega, 2, rfl, by omega, 3, rfl, by omega, ?_⟩
  refine AJ.callF kX8_feigned c0 bX8_tryFeigned rfl (by decide +kernel) [] rfl rfl rfl rfl rfl rfl rfl rfl ?_
  rintro r Y ⟨rfl, s1, a1, rfl, hK1, hb1⟩
  refine ⟨rfl, rfl, AJ.run kX8_feigned [72] 60 ?_⟩
  have hb1 : a1 33 = bstP (V 0 0 0) 0 0 0 (fe0 (a 33)) := hb1
  unfold feiP at nxt
  -- behind the first loop
  have two : ∀ b : xN, feB V n (a 33) = (if 1 < n then fe2 V b 60 else b) → ∀ s' a' (x4 : Int32), keptM m s a s' a' → a' 33 = b → AJ L mX8_feigned 5 0 0 Q n0 (0, 0) 98 [some (.ref 0), some (.int (nI p)), some (.int (nI n)), some (.int (nI w)), some (.int x4), none] [] (modW s' j a') := by
    intro b hB s' a' x4 hK hb
    by_cases h1 : 1 < n
    · rw [if_pos h1] at hB
      have key := c8_fe_two L Q V s j a m n0 p n (nI w) hn h1 hc (fe2 V b) (fun y _ => rfl) (fun s2 a2 x5 hK2 hb2 _ => c8_fe_end L Q s2 j a2 n0 w hw (nI p) (nI n) _ x5 (feB V n (a 33)) (by rw [hB]; exact hb2) (nxt s2 a2 hK2)) 60 0 s' a' none (by omega) hK hb (Or.inl rfl)
      exact AJ.run kX8_feigned [101] 60 key
    · rw [if_neg h1] at hB
      have key := c8_fe_end L Q s' j a' n0 w hw (nI p) (nI n) (some (.int (nI 0))) none (feB V n (a 33)) (by rw [hB]; exact hb) (nxt s' a' hK)
      exact AJ.run kX8_feigned [148] 60 ⟨fun hz => absurd hz (by decide), fun _ => ⟨fun _ => key, fun hz => absurd (nI_le (a := n) (b := 1) (by omega) (by omega)) hz⟩⟩
  by_cases h0 : 0 < n
  · have key := c8_fe_one L Q V s j a m n0 p n (nI w) hn h0 hc (fe1 V (bstP (V 0 0 0) 0 0 0 (fe0 (a 33)))) (fun i => rfl) (fun s2 a2 hK2 hb2 => two _ (by unfold feB; split; rfl; rfl) s2 a2 (nI 60) hK2 hb2) 60 0 s1 a1 (by omega) hK1 hb1
    exact key
  · have key := two (bstP (V 0 0 0) 0 0 0 (fe0 (a 33))) (by unfold feB; rw [if_neg (by omega), if_neg h0, if_neg (by omega)]) s1 a1 (nI 0) hK1 hb1
    exact AJ.run kX8_feigned [98] 60 ⟨fun hz => absurd hz (by decide), fun _ => ⟨fun _ => key, fun hz => absurd (nI_le (a := n) (b := 0) (by omega) (by omega)) hz⟩⟩
theorem c8_feigned (L : xLn) (s : xN) (j : Int64) (a : Nat → xN) (m : Nat) (hok : okT s a m) (k n w : Int32) : CT L mX8_feigned 5 0 0 [.ref 0, .int k, .int n, .int w] (modW s j a) (kpQ m s a (feiR s a m k n w)) := by
  refine CT.of rfl (Nat.le_of_ble_eq_true rfl) (Nat.le_of_ble_eq_true rfl) ?_
  have hQ : ∀ s' a', keptM m s a s' a' → kpQ m s a (feiR s a m k n w) (some (.int (feiR s a m k n w))) (modW s' j a') := fun s' a' hK => ⟨rfl, s', j, a', rfl, hK⟩
  have hQ0 := hQ s a (keptM.rf m s a)
  generalize kpQ m s a (feiR s a m k n w) = Q at hQ hQ0 ⊢
  refine AJ.run kX8_feigned [] 60 ?_
  refine AJ.callF kX8_feigned (c8_isPerson L s j a k) bX8_isPerson rfl (by decide +kernel) [] rfl rfl rfl rfl rfl rfl rfl rfl ?_
  rintro r Y ⟨rfl, rfl⟩
  refine ⟨rfl, rfl, AJ.run kX8_feigned [11] 60 ⟨fun h => ?_, fun h => ?_⟩⟩
  · rw [bI_ne0] at h
    refine AJ.run kX8_feigned [] 60 ?_
    refine AJ.callZ kX8_feigned (c8_in L n 0 2) bX8_in rfl (by decide +kernel) [] rfl rfl rfl rfl rfl ?_
    rintro r rfl
    refine AJ.run kX8_feigned [] 60 ⟨fun h2 => ?_, fun h2 => ?_⟩
    · rw [bI_eq0] at h2
      rw [feiR, if_pos h, h2, if_neg (by simp)] at hQ0
      exact hQ0
    rw [bI_ne0] at h2
    refine AJ.callZ kX8_feigned (c8_in L w 0 3) bX8_in rfl (by decide +kernel) [] rfl rfl rfl rfl rfl ?_
    rintro r rfl
    refine AJ.run kX8_feigned [32] 60 ⟨fun h3 => ?_, fun h3 => ?_⟩
    · rw [bI_ne0] at h3
      have hk : ∃ p, p ≤ 7 ∧ k = nI p := by
        have h2 := h
        simp only [isPersonP, Bool.and_eq_true] at h2
        exact inP_nI (n := 7) (by omega) h2.1
      obtain ⟨p, hp, rfl⟩ := hk
      obtain ⟨n, hn, rfl⟩ := inP_nI (n := 2) (by omega) h2
      obtain ⟨w, hw, rfl⟩ := inP_nI (n := 3) (by omega) h3
      refine c8_fe_go L Q (feV s a m p) s j a m _ p n w (by omega) hn (fun q y z s' a' hq hK => c8_tf L s j a m p q y z (by omega) hq hok s' a' hK) ?_
      intro s' a' hK
      have := hQ s' a' hK
      rw [feiR, if_pos h, h2, h3, if_pos (by simp), nI_clamp (by omega), nI_clamp (by omega), nI_clamp (by omega), feiP_lo _ n _ (a 33) (by omega)] at this
      exact this
    · rw [bI_eq0] at h3
      rw [feiR, if_pos h, h2, h3, if_neg (by simp)] at hQ0
      exact hQ0
  · rw [bI_eq0] at h
    rw [feiR, if_neg (by rw [h]; simp)] at hQ0
    exact hQ0
end
section
/-! ===== the reference: who is home last ===== -/
def hmO (N : xN) : Prop := ∀ q, q < 8 → N (25 + q) = -1 ∨ ∃ t, t < 60 ∧ N (25 + q) = nI t
theorem hmO_of {N B : xN} (h : hmO N) (e : ∀ i, 25 ≤ i → i < 33 → B i = N i) : hmO B := fun p hp => by
  rw [e (25 + p) (by omega) (by omega)]; exact h p hp
theorem offL_hmO (fo : Int32) (pe : xN) {k : Nat} (hk : k < 2) (N : xN) (h : hmO N) {g : Nat} (hg : N 0 = nI g) (h60 : g < 60) : ∀ q, q ≤ 8 → hmO (offL fo pe k N q).1
  | 0, _ => h
  | q + 1, hq => by
    have ih := offL_hmO fo pe hk N h hg h60 q (by omega)
    have e0 := offL_out fo pe (k := k) N (i := 0) (by omega) q (by omega)
    rw [offL]
    generalize offL fo pe k N q = S at ih e0 ⊢
    intro p hp
    by_cases e : p = q
    · subst e
      unfold offS
      split
      · split
        · right
          refine ⟨g, h60, ?_⟩
          show offT S.1 k p (25 + p) = nI g
          unfold offT; (try dsimp only); rw [pk_un (by omega), pk_us, pk_un (by omega), e0, hg]
        · left
          show offU S.1 k p (25 + p) = -1
          unfold offU; (try dsimp only); rw [pk_un (by omega), pk_us]
      · exact ih p hp
    · have e2 : (offS fo pe k q S).1 (25 + p) = S.1 (25 + p) := by
        unfold offS
        split
        · split
          · show offT S.1 k q (25 + p) = _
            unfold offT; (try dsimp only); rw [pk_un (by omega), pk_un (by omega), pk_un (by omega)]
          · show offU S.1 k q (25 + p) = _
            unfold offU; (try dsimp only); rw [pk_un (by omega), pk_un (by omega), pk_un (by omega)]
        · rfl
      rw [e2]; exact ih p hp
theorem tramF_hmO (s : xN) (a : Nat → xN) (m : Nat) (N : xN) {k : Nat} (hk : k < 2) (h : hmO N) {g : Nat} (hg : N 0 = nI g) (h60 : g < 60) (hm : m ≤ 26) : hmO (tramF s a m N k) := by
  unfold tramF
  split
  · split
    · exact hmO_of h (fun i h1 h2 => goOnP_out _ _ _ _ hk (by omega))
    · next hne =>
      rcases caP_in (s 30) (s 31) (a 10) N (N (1 + k)) m with h1 | ⟨c, h1, h2⟩
      · exact absurd (Or.inr h1) hne
      rw [h2, nI_clamp (by omega)]
      generalize (N 7 + N 8).toNatClampNeg = hh
      unfold haltP
      have eA : ∀ i, 25 ≤ i → i < 33 → haltA N k c hh i = N i := fun i h1 h2 => haltA_out N (by omega)
      have e0 : haltA N k c hh 0 = N 0 := haltA_out N (by omega)
      exact hmO_of (offL_hmO (s 7) (a 8) hk _ (hmO_of h eA) (e0.trans hg) h60 8 (by omega)) (fun i h1 h2 => onL_out _ _ _ (by omega) 8 (by omega))
  · exact h
theorem minP_hmO (s : xN) (a : Nat → xN) (m : Nat) (N : xN) (h : hmO N) {g : Nat} (hg : N 0 = nI g) (h60 : g < 60) (hm : m ≤ 26) : hmO (minP s a m N) := by
  have e0 : feltL (a 10) N m 0 = nI g := (feltL_out _ _ (by omega) m hm).trans hg
  have h1 := tramF_hmO s a m (feltL (a 10) N m) (k := 0) (by omega) (hmO_of h (fun i h1 h2 => feltL_out _ _ (by omega) m hm)) e0 h60 hm
  have e1 : tramF s a m (feltL (a 10) N m) 0 0 = nI g := (tramF_out s a m _ (by omega) (by omega)).trans e0
  have h2 := tramF_hmO s a m _ (k := 1) (by omega) h1 e1 h60 hm
  exact hmO_of h2 (fun i h1 h2 => by rw [minP, pk_un (by omega)])
theorem goL_hmO (s : xN) (a : Nat → xN) (m : Nat) (N : xN) (h : hmO N) (hN : okN N) (hm : m ≤ 26) : ∀ n, hmO (goL s a m N n)
  | 0 => h
  | n + 1 => by
    have ih := goL_hmO s a m N h hN hm n
    obtain ⟨-, g, h', e1, e2, e3, e4⟩ := goL_ok s a m N hm hN n
    rw [goL]
    split
    · next hl =>
      have hg : g < 60 := by
        rw [e1, i32_lt, nI_toInt (by omega)] at hl
        have : (60 : Int32).toInt = 60 := rfl
        omega
      exact minP_hmO s a m _ ih e1 hg hm
    · exact ih
theorem begin_hmO (tr pe N : xN) : hmO (beginP tr pe N) := fun q hq => Or.inl (begin_9 tr pe N hq).2.2.1
theorem dq_hmO (s : xN) (a : Nat → xN) (m : Nat) (hm : m ≤ 26) : hmO (dq s a m) := by
  have h := goL_hmO s a m _ (begin_hmO (a 6) (a 8) (fun _ => 0)) (begin_ok _ _ _) hm
  generalize hk : 60 = k at *
  unfold dq dayP
  rw [hk]
  exact h k
theorem late_nI {N : xN} (h : hmO N) {q : Nat} (hq : q < 8) : ∃ t, t ≤ 60 ∧ lateP N q = nI t := by
  unfold lateP
  rcases h q hq with h1 | ⟨t, h1, h2⟩
  · exact ⟨60, by omega, by rw [if_pos h1]; rfl⟩
  · refine ⟨t, by omega, ?_⟩
    rw [h2, if_neg]
    intro h3
    have := i32_eq.mp h3
    rw [nI_toInt (by omega)] at this
    have : (-1 : Int32).toInt = -1 := rfl
    omega
/-- the minute as a number -/
def lateN (N : xN) (q : Nat) : Nat := (lateP N q).toNatClampNeg
theorem lateN_is {N : xN} (h : hmO N) {q : Nat} (hq : q < 8) : lateP N q = nI (lateN N q) ∧ lateN N q ≤ 60 := by
  obtain ⟨t, h1, h2⟩ := late_nI h hq
  unfold lateN
  rw [h2, nI_clamp (by omega)]
  exact ⟨rfl, h1⟩
def la1 (fo : Int32) (pe : xN) (lt : Nat → Nat) (p : Nat) : Nat → Nat
  | 0 => 0
  | q + 1 => la1 fo pe lt p q + (if hasP fo (nI q) = true ∧ pe (2 * q) = nI p then lt q else 0)
theorem la1_le (fo : Int32) (pe : xN) {lt : Nat → Nat} {b : Nat} (h : ∀ q, q < 8 → lt q ≤ b) (p : Nat) : ∀ q, q ≤ 8 → la1 fo pe lt p q ≤ b * q
  | 0, _ => Nat.le_refl _
  | q + 1, hq => by
    have := la1_le fo pe h p q (by omega)
    have := h q (by omega)
    rw [la1, Nat.mul_add]
    split <;> omega
def laS (fo : Int32) (pe : xN) (lt : Nat → Nat) : Nat → Int32 × Nat × Nat
  | 0 => (-1, 0, 1)
  | p + 1 => if 0 < la1 fo pe (fun _ => 1) p 8 ∧ ((laS fo pe lt p).1 = -1 ∨ (laS fo pe lt p).2.1 * la1 fo pe (fun _ => 1) p 8 < la1 fo pe lt p 8 * (laS fo pe lt p).2.2) then (nI p, la1 fo pe lt p 8, la1 fo pe (fun _ => 1) p 8) else laS fo pe lt p
theorem laS_le (fo : Int32) (pe : xN) {lt : Nat → Nat} (h : ∀ q, q < 8 → lt q ≤ 60) : ∀ p, (laS fo pe lt p).2.1 ≤ 480 ∧ 1 ≤ (laS fo pe lt p).2.2 ∧ (laS fo pe lt p).2.2 ≤ 8
  | 0 => ⟨Nat.zero_le _, Nat.le_refl _, (by decide : 1 ≤ 8)⟩
  | p + 1 => by
    have ih := laS_le fo pe h p
    have h1 := la1_le fo pe h p 8 (by omega)
    have h2 := la1_le fo pe (lt := fun _ => 1) (b := 1) (fun _ _ => Nat.le_refl _) p 8 (by omega)
    rw [laS]
    split
    · next hc => exact ⟨h1, hc.1, h2⟩
    · exact ih
def lasA (S : Int32 × Nat × Nat) (w : Int32) : Int32 := if S.1 = -1 ∨ w = 0 then S.1 else nI ((if w = 1 then S.2.1 else S.2.2) / gcL (S.2.2 + 1) S.2.1 S.2.2)
def lasR (s : xN) (a : Nat → xN) (m : Nat) (w : Int32) : Int32 := if inP w 0 2 = true then lasA (laS (s 7) (a 8) (lateN (dq (toldP s) a m)) (s 0).toNatClampNeg) w else -3
set_option maxHeartbeats 400000 in
/-- the sum over those told of one place -/
theorem c8_la_in (L : xLn) (Q : Option Value → List xE → Prop) (s : xN) (j : Int64) (a : Nat → xN) (N : xN) (n0 p ab be : Nat) (w pl : Int32) (lt : Nat → Nat) (hl : ∀ q, q < 8 → lateP N q = nI (lt q)) (g1 g2 : Nat → Nat)
    (h1 : ∀ q, g1 (q + 1) = g1 q + (if hasP (s 7) (nI q) = true ∧ a 8 (2 * q) = nI p then lt q else 0)) (h2 : ∀ q, g2 (q + 1) = g2 q + (if hasP (s 7) (nI q) = true ∧ a 8 (2 * q) = nI p then 1 else 0))
    (nxt : ∀ x9, x9 = none ∨ (∃ v, x9 = some (.int v)) → AJ L mX8_last 4 0 0 Q n0 (0, 0) 129 [some (.ref 0), some (.int w), some (.int pl), some (.int (nI ab)), some (.int (nI be)), some (.int (nI p)), some (.int (nI (g1 8))), some (.int (nI (g2 8))), some (.int (nI 8)), x9] [] (modN s j a N)) :
    ∀ (n q : Nat) (x9 : Option Value), q + n = 8 → (x9 = none ∨ ∃ v, x9 = some (.int v)) → AJ L mX8_last 4 0 0 Q n0 (0, 0) 48 [some (.ref 0), some (.int w), some (.int pl), some (.int (nI ab)), some (.int (nI be)), some (.int (nI p)), some (.int (nI (g1 q))), some (.int (nI (g2 q))), some (.int (nI q)), x9] [] (modN s j a N) := by
  intro n
  induction n with
  | zero =>
    intro q x9 hq hx
    obtain rfl : q = 8 := by omega
    have nx := nxt x9 hx
    exact AJ.run kX8_last [48, 129] 60 ⟨fun _ => nx, fun hz => absurd (by decide) hz⟩
  | succ n ih =>
    intro q x9 hq hx
    have h3 := fun v => ih (q + 1) (some (.int v)) (by omega) (Or.inr ⟨v, rfl⟩)
    rw [nI_succ, h1 q, h2 q] at h3
    have wf : xwf (modN s j a N) [some (.ref 0), some (.int w), some (.int pl), some (.int (nI ab)), some (.int (nI be)), some (.int (nI p)), some (.int (nI (g1 q))), some (.int (nI (g2 q))), some (.int (nI q)), x9] [] = true := by
      rcases hx with rfl | ⟨v, rfl⟩ <;> rfl
    have yes : hasP (s 7) (nI q) = true ∧ a 8 (2 * q) = nI p → AJ L mX8_last 4 0 0 Q n0 (0, 0) 86 [some (.ref 0), some (.int w), some (.int pl), some (.int (nI ab)), some (.int (nI be)), some (.int (nI p)), some (.int (nI (g1 q))), some (.int (nI (g2 q))), some (.int (nI q)), x9] [.int 1] (modN s j a N) := by
      intro hc
      have h4 := h3 1
      rw [if_pos hc, if_pos hc, ← nI_add, ← nI_add] at h4
      refine AJ.run kX8_last [98] 60 ⟨fun hz => absurd hz (by decide), fun _ => ?_⟩
      refine AJ.callF kX8_last (c8_late L s j a N q (by omega)) bX8_late rfl (by decide +kernel) [.int (nI (g1 q))] rfl rfl rfl rfl rfl rfl rfl rfl ?_
      rintro r Y ⟨rfl, rfl⟩
      have ev : (if N (25 + q) = -1 then 60 else N (25 + q)) = nI (lt q) := hl q (by omega)
      rw [ev]
      exact ⟨rfl, rfl, AJ.run kX8_last [48] 60 ⟨fun hz => absurd hz (by decide), fun _ => h4⟩⟩
    have no : ¬ (hasP (s 7) (nI q) = true ∧ a 8 (2 * q) = nI p) → AJ L mX8_last 4 0 0 Q n0 (0, 0) 86 [some (.ref 0), some (.int w), some (.int pl), some (.int (nI ab)), some (.int (nI be)), some (.int (nI p)), some (.int (nI (g1 q))), some (.int (nI (g2 q))), some (.int (nI q)), x9] [.int 0] (modN s j a N) := by
      intro hc
      have h4 := h3 0
      rw [if_neg hc, if_neg hc, ← nI_add, ← nI_add] at h4
      exact AJ.run kX8_last [48] 60 ⟨fun _ => ⟨fun _ => h4, fun hz => absurd rfl hz⟩, fun hz => absurd rfl hz⟩
    refine AJ.run kX8_last [61] 60 ⟨fun hz => absurd hz (nI_ge (b := 8) (by omega) (by omega)), fun _ => ?_⟩
    refine AJ.callZ kX8_last (c8_has L (s 7) (nI q)) bX8_has rfl (by decide +kernel) [] rfl rfl wf rfl rfl ?_
    rintro r rfl
    refine AJ.run kX8_last [86] 60 ⟨fun h5 => no ?_, fun h5 => ⟨2 * q, by simp only [fa_lit, pk_mul], by omega, fun h6 => no ?_, fun h6 => yes ?_⟩⟩
    · rw [bI_eq0] at h5
      rw [h5]; simp
    · have h6 : ¬ a 8 (2 * q) = nI p := h6
      exact fun hz => h6 hz.2
    · rw [bI_ne0] at h5
      exact ⟨h5, h6⟩
end
section
/-- nothing, or a number -/
def oI (x : Option Value) : Prop := x = none ∨ ∃ v, x = some (.int v)
set_option maxHeartbeats 400000 in
theorem c8_la_out (L : xLn) (Q : Option Value → List xE → Prop) (s : xN) (j : Int64) (a : Nat → xN) (N : xN) (n0 l : Nat) (w : Int32) (hs : s 0 = nI l) (hl2 : l ≤ 12) (lt : Nat → Nat) (hl : ∀ q, q < 8 → lateP N q = nI (lt q)) (h60 : ∀ q, q < 8 → lt q ≤ 60) (G : Nat → Int32 × Nat × Nat) (b1 b2 : Nat → Nat) (hb1 : ∀ p, b1 p = la1 (s 7) (a 8) lt p 8) (hb2 : ∀ p, b2 p = la1 (s 7) (a 8) (fun _ => 1) p 8)
    (hG : ∀ p, G (p + 1) = if 0 < b2 p ∧ ((G p).1 = -1 ∨ (G p).2.1 * b2 p < b1 p * (G p).2.2) then (nI p, b1 p, b2 p) else G p) (hGl : ∀ p, (G p).2.1 ≤ 480 ∧ 1 ≤ (G p).2.2 ∧ (G p).2.2 ≤ 8)
    (nxt : ∀ x6 x7 x8 x9, oI x6 → oI x7 → oI x8 → oI x9 → AJ L mX8_last 4 0 0 Q n0 (0, 0) 167 [some (.ref 0), some (.int w), some (.int (G l).1), some (.int (nI (G l).2.1)), some (.int (nI (G l).2.2)), some (.int (nI l)), x6, x7, x8, x9] [] (modN s j a N)) :
    ∀ (n p : Nat) (x6 x7 x8 x9 : Option Value), p + n = l → oI x6 → oI x7 → oI x8 → oI x9 → AJ L mX8_last 4 0 0 Q n0 (0, 0) 30 [some (.ref 0), some (.int w), some (.int (G p).1), some (.int (nI (G p).2.1)), some (.int (nI (G p).2.2)), some (.int (nI p)), x6, x7, x8, x9] [] (modN s j a N) := by
  intro n
  induction n with
  | zero =>
    intro p x6 x7 x8 x9 hp i6 i7 i8 hx
    obtain rfl : p = l := by omega
    have nx := nxt x6 x7 x8 x9 i6 i7 i8 hx
    refine AJ.run kX8_last [30, 167] 60 ⟨fun _ => nx, fun hz => absurd ?_ hz⟩
    show s 0 ≤ nI p
    rw [hs]; exact nI_le (by omega) (by omega)
  | succ n ih =>
    intro p x6 x7 x8 x9 hp i6 i7 i8 hx
    have h3 := fun x6 x7 x8 v => ih (p + 1) x6 x7 x8 v (by omega)
    have L1 := la1_le (s 7) (a 8) h60 p 8 (by omega)
    have L2 := la1_le (s 7) (a 8) (lt := fun _ => 1) (b := 1) (fun _ _ => Nat.le_refl _) p 8 (by omega)
    have gl := hGl p
    rw [nI_succ, hG p] at h3
    rw [← hb1] at L1
    rw [← hb2] at L2
    refine AJ.run kX8_last [48] 60 ⟨fun hz => absurd hz ?_, fun _ => ?_⟩
    · show ¬ s 0 ≤ nI p
      rw [hs]; exact nI_ge (by omega) (by omega)
    refine c8_la_in L Q s j a N n0 p (G p).2.1 (G p).2.2 w (G p).1 lt hl (fun q => la1 (s 7) (a 8) lt p q) (fun q => la1 (s 7) (a 8) (fun _ => 1) p q) (fun q => rfl) (fun q => rfl) ?_ 8 0 x9 (by omega) hx
    intro x9 hx9
    try dsimp only
    rw [← hb1, ← hb2]
    have no : ¬ (0 < b2 p ∧ ((G p).1 = -1 ∨ (G p).2.1 * b2 p < b1 p * (G p).2.2)) → AJ L mX8_last 4 0 0 Q n0 (0, 0) 161 [some (.ref 0), some (.int w), some (.int (G p).1), some (.int (nI (G p).2.1)), some (.int (nI (G p).2.2)), some (.int (nI p)), some (.int (nI (b1 p))), some (.int (nI (b2 p))), some (.int (nI 8)), x9] [] (modN s j a N) := by
      intro hc
      have h4 := h3 (some (.int (nI (b1 p)))) (some (.int (nI (b2 p)))) (some (.int (nI 8))) x9 (Or.inr ⟨_, rfl⟩) (Or.inr ⟨_, rfl⟩) (Or.inr ⟨_, rfl⟩) hx9
      rw [if_neg hc] at h4
      exact AJ.run kX8_last [30] 60 h4
    have yes : (0 < b2 p ∧ ((G p).1 = -1 ∨ (G p).2.1 * b2 p < b1 p * (G p).2.2)) → AJ L mX8_last 4 0 0 Q n0 (0, 0) 151 [some (.ref 0), some (.int w), some (.int (G p).1), some (.int (nI (G p).2.1)), some (.int (nI (G p).2.2)), some (.int (nI p)), some (.int (nI (b1 p))), some (.int (nI (b2 p))), some (.int (nI 8)), x9] [] (modN s j a N) := by
      intro hc
      have h4 := h3 (some (.int (nI (b1 p)))) (some (.int (nI (b2 p)))) (some (.int (nI 8))) x9 (Or.inr ⟨_, rfl⟩) (Or.inr ⟨_, rfl⟩) (Or.inr ⟨_, rfl⟩) hx9
      rw [if_pos hc] at h4
      exact AJ.run kX8_last [30] 60 h4
    refine AJ.run kX8_last [161, 151] 60 ⟨fun h5 => no ?_, fun h5 => ⟨fun h6 => yes ?_, fun h6 => ⟨fun h7 => no ?_, fun h7 => yes ?_⟩⟩⟩
    · have := (nI_leI (a := b2 p) (b := 0) (by omega) (by omega)).mp h5
      omega
    · have h5 : ¬ b2 p ≤ 0 := fun z => h5 ((nI_leI (a := b2 p) (b := 0) (by omega) (by omega)).mpr z)
      exact ⟨by omega, Or.inl h6⟩
    · have h6 : ¬ (G p).1 = -1 := h6
      have h7 : nI (b1 p) * nI (G p).2.2 ≤ nI (G p).2.1 * nI (b2 p) := h7
      have m1 : b1 p * (G p).2.2 ≤ 480 * 8 := Nat.mul_le_mul L1 gl.2.2
      have m2 : (G p).2.1 * b2 p ≤ 480 * 8 := Nat.mul_le_mul gl.1 L2
      rw [pk_mul, pk_mul, nI_leI (by omega) (by omega)] at h7
      rintro ⟨-, z | z⟩
      · exact h6 z
      · omega
    · have h5 : ¬ b2 p ≤ 0 := fun z => h5 ((nI_leI (a := b2 p) (b := 0) (by omega) (by omega)).mpr z)
      have h7 : ¬ nI (b1 p) * nI (G p).2.2 ≤ nI (G p).2.1 * nI (b2 p) := h7
      have m1 : b1 p * (G p).2.2 ≤ 480 * 8 := Nat.mul_le_mul L1 gl.2.2
      have m2 : (G p).2.1 * b2 p ≤ 480 * 8 := Nat.mul_le_mul gl.1 L2
      rw [pk_mul, pk_mul, nI_leI (by omega) (by omega)] at h7
      exact ⟨by omega, Or.inr (by omega)⟩
set_option maxHeartbeats 400000 in
theorem c8_last (L : xLn) (s : xN) (j : Int64) (a : Nat → xN) (m l : Nat) (hok : okT s a m) (hl : s 0 = nI l) (hl2 : l ≤ 12) (w : Int32) : CT L mX8_last 4 0 0 [.ref 0, .int w] (modW s j a) (kpQ m s a (lasR s a m w)) := by
  refine CT.of rfl (Nat.le_of_ble_eq_true rfl) (Nat.le_of_ble_eq_true rfl) ?_
  have hQ : ∀ s' a', keptM m s a s' a' → kpQ m s a (lasR s a m w) (some (.int (lasR s a m w))) (modW s' j a') := fun s' a' hK => ⟨rfl, s', j, a', rfl, hK⟩
  have hQ0 := hQ s a (keptM.rf m s a)
  generalize kpQ m s a (lasR s a m w) = Q at hQ hQ0 ⊢
  refine AJ.run kX8_last [] 60 ?_
  refine AJ.callZ kX8_last (c8_in L w 0 2) bX8_in rfl (by decide +kernel) [] rfl rfl rfl rfl rfl ?_
  rintro r rfl
  refine AJ.run kX8_last [12] 60 ⟨fun h => ?_, fun h => ?_⟩
  case refine_2 =>
    rw [bI_eq0] at h
    rw [lasR, if_neg (by rw [h]; simp)] at hQ0
    exact hQ0
  rw [bI_ne0] at h
  rw [lasR, if_pos h, hl, nI_clamp (by omega)] at hQ
  have hmo := dq_hmO (toldP s) a m (by have := hok.2.1; omega)
  have hld : ∀ q, q < 8 → lateP (dq (toldP s) a m) q = nI (lateN (dq (toldP s) a m) q) := fun q hq => (lateN_is hmo hq).1
  have h60 : ∀ q, q < 8 → lateN (dq (toldP s) a m) q ≤ 60 := fun q hq => (lateN_is hmo hq).2
  have hgl := laS_le (s 7) (a 8) h60
  have hg : ∀ p, laS (s 7) (a 8) (lateN (dq (toldP s) a m)) (p + 1) = _ := fun p => rfl
  have hlN : ∀ N, isDay (toldP s) a m N → ∀ q, q < 8 → lateP N q = nI (lateN (dq (toldP s) a m) q) := by
    intro N hN q hq
    obtain ⟨-, h', e1, e2, e3⟩ := hN
    rw [lateP_ag e3 hq]; exact hld q hq
  generalize lateN (dq (toldP s) a m) = lt at hQ hld h60 hgl hlN
  refine AJ.run kX8_last [] 60 ?_
  refine AJ.callF kX8_last (c8_asTold L s j a) bX8_asTold rfl (by decide +kernel) [] rfl rfl rfl rfl rfl rfl rfl rfl ?_
  rintro r Y ⟨rfl, rfl⟩
  refine ⟨rfl, rfl, AJ.run kX8_last [] 60 ?_⟩
  refine AJ.callF kX8_last (c8_dayB L (toldP s) j a m hok.d) bX8_goDay rfl (by decide +kernel) [] rfl rfl rfl rfl rfl rfl rfl rfl ?_
  rintro r Y ⟨rfl, N, A, hN, hA, rfl⟩
  have hlN := hlN N hN
  clear hN
  have key := c8_la_out L Q (toldP s) j (va_up a 27 A) N (modW s j a).length l w hl hl2 lt hlN h60 (laS (s 7) (a 8) lt) (fun p => la1 (s 7) (a 8) lt p 8) (fun p => la1 (s 7) (a 8) (fun _ => 1) p 8) (fun p => rfl) (fun p => rfl) (fun p => rfl) hgl ?_ l 0 none none none none (by omega) (Or.inl rfl) (Or.inl rfl) (Or.inl rfl) (Or.inl rfl)
  · exact ⟨rfl, rfl, AJ.run kX8_last [30] 60 key⟩
  intro x6 x7 x8 x9 i6 i7 i8 i9
  have gl := hgl l
  generalize laS (s 7) (a 8) lt l = S at gl hQ
  obtain ⟨pl, ab, be⟩ := S
  have gl : ab ≤ 480 ∧ 1 ≤ be ∧ be ≤ 8 := gl
  show AJ L mX8_last 4 0 0 Q (modW s j a).length (0, 0) 167 [some (.ref 0), some (.int w), some (.int pl), some (.int (nI ab)), some (.int (nI be)), some (.int (nI l)), x6, x7, x8, x9] [] (modN (toldP s) j (va_up a 27 A) N)
  have wf : ∀ st, xwf (modN (toldP s) j (va_up a 27 A) N) [] st = true → xwf (modN (toldP s) j (va_up a 27 A) N) [some (.ref 0), some (.int w), some (.int pl), some (.int (nI ab)), some (.int (nI be)), some (.int (nI l)), x6, x7, x8, x9] st = true := by
    intro st h
    rcases i6 with rfl | ⟨_, rfl⟩ <;> rcases i7 with rfl | ⟨_, rfl⟩ <;> rcases i8 with rfl | ⟨_, rfl⟩ <;> rcases i9 with rfl | ⟨_, rfl⟩ <;> exact h
  refine AJ.run kX8_last [] 60 ?_
  refine AJ.callF kX8_last (c8_putB L (toldP s) j (va_up a 27 A) N) bX8_putBack rfl (by decide +kernel) [] rfl rfl rfl rfl rfl (wf _ rfl) rfl rfl ?_
  rintro r Y ⟨rfl, B, hB, rfl⟩
  have hQ := hQ (toldP s) (va_up (va_up a 27 A) 26 B) ⟨fun i hi => by
    unfold toldP
    rw [pk_un (by omega), pk_un (by omega), pk_un (by omega)], ⟨rfl, rfl, rfl, rfl, rfl, rfl⟩, fun _ _ => rfl, fun i hi => (hB i hi).trans (hA i hi)⟩
  clear hB hA
  have hpos := gcL_pos (be + 1) ab be (by omega) (Or.inr (by omega))
  have hle := gcL_le (be + 1) ab be 480 gl.1 (by omega)
  -- the division
  have div : ∀ v : Nat, v ≤ 480 → lasA (pl, ab, be) w = nI (v / gcL (be + 1) ab be) → AJ L mX8_last 4 0 0 Q (modW s j a).length (0, 0) 193 [some (.ref 0), some (.int w), some (.int pl), some (.int (nI ab)), some (.int (nI be)), some (.int (nI l)), x6, x7, x8, x9] [.int (nI v)] (modN (toldP s) j (va_up a 27 A) B) := by
    intro v hv he
    refine AJ.run kX8_last [] 60 ?_
    refine AJ.callZ kX8_last (c8_divisor L ab be (by omega) (by omega)) bX8_divisor rfl (by decide +kernel) [.int (nI v)] rfl rfl (wf _ rfl) rfl rfl ?_
    rintro r rfl
    rw [he] at hQ
    generalize gcL (be + 1) ab be = g at hpos hle hQ
    rw [← pk_div (by omega) hpos (by omega)] at hQ
    exact AJ.run kX8_last [] 60 ⟨nI_ne0 hpos (by omega), hQ⟩
  refine ⟨rfl, rfl, AJ.run kX8_last [180, 193] 60 ⟨fun h5 => ?_, fun h5 => ⟨fun h6 => ⟨fun h7 => div be (by omega) ?_, fun h7 => div ab (by omega) ?_⟩, fun h6 => ?_⟩⟩⟩
  · have h5 : pl = -1 := h5
    rw [lasA, if_pos (Or.inl h5)] at hQ
    exact AJ.run kX8_last [] 60 hQ
  · have h5 : ¬ pl = -1 := h5
    have h6 : ¬ w = 0 := h6
    have h7 : ¬ w = 1 := h7
    rw [lasA, if_neg (by rintro (z | z); exact h5 z; exact h6 z), if_neg h7]
  · have h5 : ¬ pl = -1 := h5
    have h6 : ¬ w = 0 := h6
    have h7 : w = 1 := h7
    rw [lasA, if_neg (by rintro (z | z); exact h5 z; exact h6 z), if_pos h7]
  · have h6 : w = 0 := h6
    rw [lasA, if_pos (Or.inr h6)] at hQ
    exact AJ.run kX8_last [] 60 hQ
end
section
/-! ===== the text: tokens, by places ===== -/
/-- the end of a run of P's from p -/
def runN (P : Int32 → Bool) (f : xN) (n : Nat) : Nat → Nat → Nat
  | 0, p => p
  | k + 1, p => if p < n ∧ P (f p) = true then runN P f n k (p + 1) else p
def runE (P : Int32 → Bool) (f : xN) (n p : Nat) : Nat := runN P f n (n - p) p
theorem runE_go {P : Int32 → Bool} {f : xN} {n p : Nat} (h : p < n) (hP : P (f p) = true) : runE P f n p = runE P f n (p + 1) := by
  unfold runE
  obtain ⟨k, hk⟩ : ∃ k, n - p = k + 1 := ⟨n - p - 1, by omega⟩
  rw [hk, runN, if_pos ⟨h, hP⟩, show n - (p + 1) = k by omega]
theorem runE_end {P : Int32 → Bool} {f : xN} {n p : Nat} (h : n ≤ p) : runE P f n p = p := by
  unfold runE
  rw [show n - p = 0 by omega, runN]
theorem runE_no {P : Int32 → Bool} {f : xN} {n p : Nat} (hP : ¬ P (f p) = true) : runE P f n p = p := by
  unfold runE
  cases n - p with
  | zero => rfl
  | succ k => rw [runN, if_neg (fun z => hP z.2)]
theorem runE_le {P : Int32 → Bool} {f : xN} {n : Nat} : ∀ (k p : Nat), n - p = k → p ≤ n → p ≤ runE P f n p ∧ runE P f n p ≤ n := by
  intro k
  induction k with
  | zero => intro p h1 h2; rw [runE_end (by omega)]; omega
  | succ k ih =>
    intro p h1 h2
    by_cases hP : P (f p) = true
    · rw [runE_go (by omega) hP]
      have := ih (p + 1) (by omega) (by omega)
      omega
    · rw [runE_no hP]; omega
/-- what a run is made of -/
theorem runE_in {P : Int32 → Bool} {f : xN} {n : Nat} : ∀ (k p : Nat), n - p = k → ∀ i, p ≤ i → i < runE P f n p → P (f i) = true := by
  intro k
  induction k with
  | zero => intro p h1 i h2 h3; rw [runE_end (by omega)] at h3; omega
  | succ k ih =>
    intro p h1 i h2 h3
    by_cases hP : P (f p) = true
    · rw [runE_go (by omega) hP] at h3
      by_cases e : i = p
      · rw [e]; exact hP
      · exact ih (p + 1) (by omega) i (by omega) h3
    · rw [runE_no hP] at h3; omega
theorem runE_out {P : Int32 → Bool} {f : xN} {n : Nat} : ∀ (k p : Nat), n - p = k → p ≤ n → runE P f n p < n → ¬ P (f (runE P f n p)) = true := by
  intro k
  induction k with
  | zero => intro p h1 h2 h3; rw [runE_end (by omega)] at h3; omega
  | succ k ih =>
    intro p h1 h2 h3
    by_cases hP : P (f p) = true
    · rw [runE_go (by omega) hP] at h3 ⊢
      exact ih (p + 1) (by omega) (by omega) h3
    · rw [runE_no hP]; exact hP
def isB (c : Int32) : Bool := decide (c = 32)
def isL (c : Int32) : Bool := inP c 97 122
def isD (c : Int32) : Bool := inP c 48 57
/-- a token's begin, behind the blanks from p on; its end; its word's number; its digits' number -/
def tkS (f : xN) (n p : Nat) : Nat := runE isB f n p
def tkE (f : xN) (n p : Nat) : Nat := if tkS f n p = n then n else if isL (f (tkS f n p)) = true then runE isL f n (tkS f n p) else if isD (f (tkS f n p)) = true then runE isD f n (tkS f n p) else tkS f n p + 1
def hwJ (f : xN) (q : Nat) : Nat → Int64
  | 0 => 0
  | k + 1 => if k < 9 then 27 * hwJ f q k + (f (q + k)).toInt64 - 96 else -4
def dgN (f : xN) (q : Nat) : Nat → Int32
  | 0 => 0
  | k + 1 => if k < 2 then 10 * dgN f q k + f (q + k) - 48 else dgN f q k
def tkL (f : xN) (n p : Nat) : Nat := tkE f n p - tkS f n p
def tkJ (f : xN) (n p : Nat) : Int64 := if tkS f n p = n then -2 else if isL (f (tkS f n p)) = true then (if 9 < tkL f n p then -4 else hwJ f (tkS f n p) (tkL f n p)) else if isD (f (tkS f n p)) = true then (if 2 < tkL f n p then -4 else -1) else if f (tkS f n p) = 59 then -3 else -4
def tkN (f : xN) (n p : Nat) : Int32 := dgN f (tkS f n p) (tkL f n p)
theorem tkS_le {f : xN} {n p : Nat} (h : p ≤ n) : p ≤ tkS f n p ∧ tkS f n p ≤ n := runE_le _ _ rfl h
theorem tkE_le {f : xN} {n p : Nat} (h : p ≤ n) : tkS f n p ≤ tkE f n p ∧ tkE f n p ≤ n := by
  have h1 := tkS_le (f := f) h
  unfold tkE
  split
  · omega
  · split
    · exact runE_le _ _ rfl h1.2
    · split
      · exact runE_le _ _ rfl h1.2
      · omega
/-- how the reference stands behind a token -/
def tkR (f : xN) (n p : Nat) (s s' : xN) (j' : Int64) : Prop := (∀ i, i ≠ 15 → i ≠ 16 → i ≠ 18 → i ≠ 19 → s' i = s i) ∧ s' 15 = nI (tkE f n p) ∧ s' 16 = nI (tkS f n p) ∧ j' = tkJ f n p ∧ (j' = -1 → s' 19 = tkN f n p)
set_option maxHeartbeats 400000 in
theorem c8_nt_blank (L : xLn) (Q : Option Value → List xE → Prop) (s : xN) (j : Int64) (a : Nat → xN) (n n0 e : Nat) (hn : s 13 = nI n) (h200 : n ≤ 200) (nxt : AJ L mX8_nextToken 1 0 0 Q n0 (0, 0) 38 [some (.ref 0)] [] (modW (upd s 15 (nI e)) j a)) :
    ∀ (k p : Nat), n - p = k → p ≤ n → runE isB (a 14) n p = e → AJ L mX8_nextToken 1 0 0 Q n0 (0, 0) 0 [some (.ref 0)] [] (modW (upd s 15 (nI p)) j a) := by
  intro k
  induction k with
  | zero =>
    intro p h1 h2 h3
    obtain rfl : p = n := by omega
    rw [runE_end (by omega)] at h3
    subst h3
    refine AJ.run kX8_nextToken [0, 38] 60 ⟨fun _ => nxt, fun hz => absurd ?_ hz⟩
    show s 13 ≤ nI p
    rw [hn]; exact nI_le (by omega) (by omega)
  | succ k ih =>
    intro p h1 h2 h3
    refine AJ.run kX8_nextToken [0, 38] 60 ⟨fun hz => absurd hz ?_, fun _ => ⟨p, rfl, by omega, fun h4 => ?_, fun h4 => ?_⟩⟩
    · show ¬ s 13 ≤ nI p
      rw [hn]; exact nI_ge (by omega) (by omega)
    · have h4 : ¬ a 14 p = 32 := h4
      rw [runE_no (by simp [isB, h4])] at h3
      subst h3
      exact nxt
    · have h4 : a 14 p = 32 := h4
      rw [runE_go (by omega) (by simp [isB, h4])] at h3
      have h5 := ih (p + 1) (by omega) (by omega) h3
      rw [nI_succ] at h5
      exact h5
set_option maxHeartbeats 400000 in
theorem c8_nt_word (L : xLn) (Q : Option Value → List xE → Prop) (s : xN) (a : Nat → xN) (n n0 q e : Nat) (hn : s 13 = nI n) (h200 : n ≤ 200) (hq : s 16 = nI q) (nxt : ∀ k, q + k = e → AJ L mX8_nextToken 1 0 0 Q n0 (0, 0) 191 [some (.ref 0)] [] (modW (upd s 15 (nI (q + k))) (hwJ (a 14) q k) a)) :
    ∀ (f k : Nat), n - (q + k) = f → q + k ≤ n → runE isL (a 14) n (q + k) = e → AJ L mX8_nextToken 1 0 0 Q n0 (0, 0) 101 [some (.ref 0)] [] (modW (upd s 15 (nI (q + k))) (hwJ (a 14) q k) a) := by
  intro f
  induction f with
  | zero =>
    intro k h1 h2 h3
    rw [runE_end (by omega)] at h3
    have nx := nxt k h3
    refine AJ.run kX8_nextToken [101, 191] 60 ⟨fun _ => nx, fun hz => absurd ?_ hz⟩
    show s 13 ≤ nI (q + k)
    rw [hn]; exact nI_le (by omega) (by omega)
  | succ f ih =>
    intro k h1 h2 h3
    refine AJ.run kX8_nextToken [101, 191] 60 ⟨fun hz => absurd hz ?_, fun _ => ⟨q + k, rfl, by omega, ?_⟩⟩
    · show ¬ s 13 ≤ nI (q + k)
      rw [hn]; exact nI_ge (by omega) (by omega)
    refine AJ.callZ kX8_nextToken (c8_in L (a 14 (q + k)) 97 122) bX8_in rfl (by decide +kernel) [] rfl rfl rfl rfl rfl ?_
    rintro r rfl
    refine AJ.run kX8_nextToken [101, 191] 60 ⟨fun h4 => ?_, fun h4 => ?_⟩
    · rw [bI_eq0] at h4
      rw [runE_no (by unfold isL; rw [h4]; simp)] at h3
      exact nxt k h3
    · rw [bI_ne0] at h4
      rw [runE_go (by omega) h4] at h3
      have h5 := ih (k + 1) (by omega) (by omega) h3
      rw [← Nat.add_assoc, nI_succ, hwJ] at h5
      have ed : nI (q + k) - s 16 = nI k := by rw [hq, pk_sub (by omega)]; congr 1; omega
      refine ⟨fun h6 => ?_, fun h6 => ⟨q + k, rfl, by omega, ?_⟩⟩
      · have h6 : 9 ≤ nI (q + k) - s 16 := h6
        rw [ed] at h6
        rw [if_neg (by have := (nI_leI (a := 9) (b := k) (by omega) (by omega)).mp h6; omega)] at h5
        exact h5
      · have h6 : ¬ 9 ≤ nI (q + k) - s 16 := h6
        rw [ed] at h6
        rw [if_pos (by have : ¬ 9 ≤ k := fun z => h6 ((nI_leI (a := 9) (b := k) (by omega) (by omega)).mpr z); omega)] at h5
        exact h5
set_option maxHeartbeats 400000 in
theorem c8_nt_dig (L : xLn) (Q : Option Value → List xE → Prop) (s : xN) (j : Int64) (a : Nat → xN) (n n0 q e : Nat) (hn : s 13 = nI n) (h200 : n ≤ 200) (nxt : ∀ k, q + k = e → AJ L mX8_nextToken 1 0 0 Q n0 (0, 0) 333 [some (.ref 0)] [] (modW (upd (upd (upd s 15 (nI (q + k))) 18 (nI k)) 19 (dgN (a 14) q k)) j a)) :
    ∀ (f k : Nat), n - (q + k) = f → q + k ≤ n → runE isD (a 14) n (q + k) = e → AJ L mX8_nextToken 1 0 0 Q n0 (0, 0) 241 [some (.ref 0)] [] (modW (upd (upd (upd s 15 (nI (q + k))) 18 (nI k)) 19 (dgN (a 14) q k)) j a) := by
  intro f
  induction f with
  | zero =>
    intro k h1 h2 h3
    rw [runE_end (by omega)] at h3
    have nx := nxt k h3
    refine AJ.run kX8_nextToken [241, 333] 60 ⟨fun _ => nx, fun hz => absurd ?_ hz⟩
    show s 13 ≤ nI (q + k)
    rw [hn]; exact nI_le (by omega) (by omega)
  | succ f ih =>
    intro k h1 h2 h3
    refine AJ.run kX8_nextToken [241, 333] 60 ⟨fun hz => absurd hz ?_, fun _ => ⟨q + k, rfl, by omega, ?_⟩⟩
    · show ¬ s 13 ≤ nI (q + k)
      rw [hn]; exact nI_ge (by omega) (by omega)
    refine AJ.callZ kX8_nextToken (c8_in L (a 14 (q + k)) 48 57) bX8_in rfl (by decide +kernel) [] rfl rfl rfl rfl rfl ?_
    rintro r rfl
    refine AJ.run kX8_nextToken [241, 333] 60 ⟨fun h4 => ?_, fun h4 => ?_⟩
    · rw [bI_eq0] at h4
      rw [runE_no (by unfold isD; rw [h4]; simp)] at h3
      exact nxt k h3
    · rw [bI_ne0] at h4
      rw [runE_go (by omega) h4] at h3
      have h5 := ih (k + 1) (by omega) (by omega) h3
      rw [← Nat.add_assoc, nI_succ, nI_succ, dgN] at h5
      refine ⟨fun h6 => ?_, fun h6 => ⟨q + k, rfl, by omega, ?_⟩⟩
      · have h6 : 2 ≤ nI k := h6
        rw [if_neg (by have := (nI_leI (a := 2) (b := k) (by omega) (by omega)).mp h6; omega)] at h5
        exact h5
      · have h6 : ¬ 2 ≤ nI k := h6
        rw [if_pos (by have : ¬ 2 ≤ k := fun z => h6 ((nI_leI (a := 2) (b := k) (by omega) (by omega)).mpr z); omega)] at h5
        exact h5
end
section
theorem tkE_eq (f : xN) (n p : Nat) : tkE f n p = if tkS f n p = n then n else if isL (f (tkS f n p)) = true then runE isL f n (tkS f n p) else if isD (f (tkS f n p)) = true then runE isD f n (tkS f n p) else tkS f n p + 1 := rfl
theorem tkJ_eq (f : xN) (n p : Nat) : tkJ f n p = if tkS f n p = n then -2 else if isL (f (tkS f n p)) = true then (if 9 < tkL f n p then -4 else hwJ f (tkS f n p) (tkL f n p)) else if isD (f (tkS f n p)) = true then (if 2 < tkL f n p then -4 else -1) else if f (tkS f n p) = 59 then -3 else -4 := rfl
/-- a word's number -/
def hwN (f : xN) (q : Nat) : Nat → Nat
  | 0 => 0
  | k + 1 => 27 * hwN f q k + ((f (q + k)).toNatClampNeg - 96)
theorem isL_nI {c : Int32} (h : isL c = true) : ∃ v, 97 ≤ v ∧ v ≤ 122 ∧ c = nI v := by
  have h := of_decide_eq_true h
  have h1 := h.1
  have h2 := h.2
  simp only [i32_le] at h1 h2
  have e1 : (97 : Int32).toInt = 97 := rfl
  have e2 : (122 : Int32).toInt = 122 := rfl
  obtain ⟨v, hv, e⟩ := nI_of2 (x := c) (M := 122) (n := 122) rfl (by rw [i32_lt]; have e0 : (0 : Int32).toInt = 0 := rfl; omega) h.2
  refine ⟨v, ?_, hv, e⟩
  rw [e, nI_toInt (by omega)] at h1
  omega
theorem hwN_lt {f : xN} {q : Nat} : ∀ k, (∀ i, i < k → isL (f (q + i)) = true) → hwN f q k < 27 ^ k
  | 0, _ => (by decide : 0 < 27 ^ 0)
  | k + 1, h => by
    have ih := hwN_lt k (fun i hi => h i (by omega))
    obtain ⟨v, h1, h2, e⟩ := isL_nI (h k (by omega))
    rw [hwN, e, nI_clamp (by omega), Nat.pow_succ]
    omega
theorem hwJ_lN {f : xN} {q : Nat} : ∀ k, k ≤ 9 → (∀ i, i < k → isL (f (q + i)) = true) → hwJ f q k = lN (hwN f q k)
  | 0, _, _ => rfl
  | k + 1, hk, h => by
    have ih := hwJ_lN k (by omega) (fun i hi => h i (by omega))
    obtain ⟨v, h1, h2, e⟩ := isL_nI (h k (by omega))
    rw [hwJ, if_pos (by omega), ih, e, hwN, e, nI_clamp (by omega), nI_l (by omega), show (27 : Int64) = lN 27 from rfl, lN_mul, lN_add, show (96 : Int64) = lN 96 from rfl, lN_sub (by omega)]
    congr 1
    omega
theorem lN_toI {v : Nat} (h : v < 2 ^ 63) : (lN v).toInt = v := by
  unfold lN
  rw [Int64.toInt_ofNat_of_lt h]
theorem hw_lt {f : xN} {q k : Nat} (hk : k ≤ 9) (h : ∀ i, i < k → isL (f (q + i)) = true) : hwN f q k < 2 ^ 63 := by
  have h1 := hwN_lt k h
  have h2 : 27 ^ k ≤ 27 ^ 9 := Nat.pow_le_pow_right (by decide) hk
  have h3 : 27 ^ 9 < 2 ^ 63 := by decide
  omega
theorem hwJ_ne {f : xN} {q k : Nat} (hk : k ≤ 9) (h : ∀ i, i < k → isL (f (q + i)) = true) (x : Int64) (hx : x.toInt < 0) : ¬ hwJ f q k = x := by
  intro e
  rw [hwJ_lN k hk h] at e
  have := lN_toI (hw_lt hk h)
  rw [e] at this
  omega
set_option maxHeartbeats 1000000 in
theorem c8_nt_38 (L : xLn) (Q : Option Value → List xE → Prop) (s : xN) (j : Int64) (a : Nat → xN) (n n0 p : Nat) (hn : s 13 = nI n) (h200 : n ≤ 200) (hp : p ≤ n) (nxt : ∀ s' j', tkR (a 14) n p s s' j' → Q none (modW s' j' a)) :
    AJ L mX8_nextToken 1 0 0 Q n0 (0, 0) 38 [some (.ref 0)] [] (modW (upd s 15 (nI (tkS (a 14) n p))) j a) := by
  have hle := tkS_le (f := a 14) hp
  have hle2 := tkE_le (f := a 14) hp
  unfold tkR tkN at nxt
  have hE := tkE_eq (a 14) n p
  have hJ := tkJ_eq (a 14) n p
  have hLn : tkL (a 14) n p = tkE (a 14) n p - tkS (a 14) n p := rfl
  generalize tkS (a 14) n p = q at *
  generalize tkL (a 14) n p = len at *
  generalize tkE (a 14) n p = e at *
  generalize tkJ (a 14) n p = J at *
  have oth : ∀ v15 v18 v19 : Int32, ∀ i, i ≠ 15 → i ≠ 16 → i ≠ 18 → i ≠ 19 → upd (upd (upd (upd s 16 (nI q)) 18 v18) 19 v19) 15 v15 i = s i := by
    intro v15 v18 v19 i h1 h2 h3 h4
    rw [pk_un h1, pk_un h4, pk_un h3, pk_un h2]
  have N1 : ∀ v18 v19 : Int32, (J = -1 → v19 = dgN (a 14) q len) → Q none (modW (upd (upd (upd (upd s 16 (nI q)) 18 v18) 19 v19) 15 (nI e)) J a) := fun v18 v19 h => nxt _ _ ⟨oth _ _ _, rfl, rfl, rfl, h⟩
  clear nxt oth
  have i16 : ∀ v, upd (upd (upd (upd s 16 (nI q)) 18 0) 19 v) 15 (nI q) 16 = nI q := fun _ => rfl
  refine AJ.run kX8_nextToken [90] 60 ⟨fun h1 => ⟨q, rfl, ?_, ?_⟩, fun h1 => ?_⟩
  case refine_3 =>
    have h1 : nI q = s 13 := h1
    rw [hn, nI_eq (by omega) (by omega)] at h1
    rw [if_pos h1] at hE hJ
    have := N1 0 0 (fun z => by rw [hJ] at z; exact absurd z (by decide))
    rw [hJ, hE, ← h1] at this
    exact this
  · have h1 : ¬ nI q = s 13 := h1
    rw [hn, nI_eq (by omega) (by omega)] at h1
    omega
  have h1 : ¬ nI q = s 13 := h1
  rw [hn, nI_eq (by omega) (by omega)] at h1
  rw [if_neg h1] at hE hJ
  refine AJ.callZ kX8_nextToken (c8_in L (a 14 q) 97 122) bX8_in rfl (by decide +kernel) [] rfl rfl rfl rfl rfl ?_
  rintro r rfl
  refine AJ.run kX8_nextToken [101, 235] 60 ⟨fun h2 => ⟨q, rfl, by omega, ?_⟩, fun h2 => ?_⟩
  · rw [bI_eq0] at h2
    rw [if_neg (by unfold isL; rw [h2]; simp)] at hE hJ
    refine AJ.callZ kX8_nextToken (c8_in L (a 14 q) 48 57) bX8_in rfl (by decide +kernel) [] rfl rfl rfl rfl rfl ?_
    rintro r rfl
    refine AJ.run kX8_nextToken [241] 60 ⟨fun h3 => ⟨q, rfl, by omega, fun h4 => ?_, fun h4 => ?_⟩, fun h3 => ?_⟩
    · rw [bI_eq0] at h3
      have h4 : ¬ a 14 q = 59 := h4
      rw [if_neg (by unfold isD; rw [h3]; simp)] at hE hJ
      rw [if_neg h4] at hJ
      have := N1 0 0 (fun z => by rw [hJ] at z; exact absurd z (by decide))
      rw [hJ, hE, nI_succ] at this
      exact this
    · rw [bI_eq0] at h3
      have h4 : a 14 q = 59 := h4
      rw [if_neg (by unfold isD; rw [h3]; simp)] at hE hJ
      rw [if_pos h4] at hJ
      have := N1 0 0 (fun z => by rw [hJ] at z; exact absurd z (by decide))
      rw [hJ, hE, nI_succ] at this
      exact this
    · rw [bI_ne0] at h3
      rw [if_pos (show isD (a 14 q) = true from h3)] at hE hJ
      have key := c8_nt_dig L Q (upd (upd (upd (upd s 15 (nI q)) 16 (nI q)) 18 0) 19 0) j a n n0 q e hn h200 ?_ (n - (q + 0)) 0 rfl (by omega) hE.symm
      · exact key
      intro k hk
      have hk2 : k = len := by omega
      subst hk2
      have N2 := N1 (nI k) (dgN (a 14) q k) (fun _ => rfl)
      rw [← hk] at N2
      refine AJ.run kX8_nextToken [] 60 ⟨fun h4 => ?_, fun h4 => ?_⟩
      · have := (nI_leI (a := k) (b := 2) (by omega) (by omega)).mp h4
        rw [if_neg (by omega)] at hJ
        rw [hJ] at N2
        exact N2
      · have : ¬ k ≤ 2 := fun z => h4 ((nI_leI (a := k) (b := 2) (by omega) (by omega)).mpr z)
        rw [if_pos (by omega)] at hJ
        rw [hJ] at N2
        exact N2
  · rw [bI_ne0] at h2
    rw [if_pos (show isL (a 14 q) = true from h2)] at hE hJ
    have key := c8_nt_word L Q (upd (upd (upd (upd s 15 (nI q)) 16 (nI q)) 18 0) 19 0) a n n0 q e hn h200 rfl ?_ (n - (q + 0)) 0 rfl (by omega) hE.symm
    · exact key
    intro k hk
    have hk2 : k = len := by omega
    subst hk2
    have ed : nI (q + k) - nI q = nI k := by rw [pk_sub (by omega)]; congr 1; omega
    have hne : J = -1 → (0 : Int32) = dgN (a 14) q k := by
      intro hz
      by_cases h9 : 9 < k
      · rw [if_pos h9] at hJ
        rw [hJ] at hz
        exact absurd hz (by decide)
      · rw [if_neg h9] at hJ
        rw [hJ] at hz
        exact absurd hz (hwJ_ne (by omega) (fun i hi => runE_in (n - q) q rfl (q + i) (by omega) (by rw [← hE]; omega)) (-1) (by decide))
    have N2 := N1 0 0 hne
    rw [← hk] at N2
    refine AJ.run kX8_nextToken [] 60 ⟨fun h4 => ?_, fun h4 => ?_⟩
    · have h4 : nI (q + k) - nI q ≤ nI 9 := h4
      rw [ed, nI_leI (by omega) (by omega)] at h4
      rw [if_neg (by omega)] at hJ
      rw [hJ] at N2
      exact N2
    · have h4 : ¬ nI (q + k) - nI q ≤ nI 9 := h4
      rw [ed, nI_leI (by omega) (by omega)] at h4
      rw [if_pos (by omega)] at hJ
      rw [hJ] at N2
      exact N2
theorem c8_nextToken (L : xLn) (s : xN) (j : Int64) (a : Nat → xN) (n p : Nat) (hn : s 13 = nI n) (h200 : n ≤ 200) (hs : s 15 = nI p) (hp : p ≤ n) : CT L mX8_nextToken 1 0 0 [.ref 0] (modW s j a) (fun r Y => r = none ∧ ∃ s' j', Y = modW s' j' a ∧ tkR (a 14) n p s s' j') := by
  refine CT.of rfl (Nat.le_of_ble_eq_true rfl) (Nat.le_of_ble_eq_true rfl) ?_
  have nxt : ∀ s' j', tkR (a 14) n p s s' j' → (fun (r : Option Value) (Y : List xE) => r = none ∧ ∃ s' j', Y = modW s' j' a ∧ tkR (a 14) n p s s' j') none (modW s' j' a) := fun s' j' h => ⟨rfl, s', j', rfl, h⟩
  generalize (fun (r : Option Value) (Y : List xE) => r = none ∧ ∃ s' j', Y = modW s' j' a ∧ tkR (a 14) n p s s' j') = Q at nxt ⊢
  have key := c8_nt_blank L Q s j a n (modW s j a).length (tkS (a 14) n p) hn h200 (c8_nt_38 L Q s j a n _ p hn h200 hp nxt) (n - p) p rfl hp rfl
  rw [← hs] at key
  exact key
/-- a number of the text in its bounds -/
def nuP (f : xN) (n p : Nat) (lo hi : Int32) : Bool := decide (tkJ f n p = -1) && inP (tkN f n p) lo hi
/-- how the reference stands behind a number that was wanted -/
def nuR (f : xN) (n p w : Nat) (lo hi : Int32) (s : xN) (a : Nat → xN) (s' : xN) (a' : Nat → xN) : Prop := (∀ i, i ≠ 15 → i ≠ 16 → i ≠ 18 → i ≠ 19 → i ≠ 20 → s' i = s i) ∧ s' 16 = nI (tkS f n p) ∧ s' 15 = nI (tkE f n p) ∧ (nuP f n p lo hi = true → a' = va_up a 25 (upd (a 25) w (tkN f n p)) ∧ s' 20 = s 20) ∧ (nuP f n p lo hi = false → a' = a ∧ s' 20 = nI (tkS f n p))
set_option maxHeartbeats 400000 in
theorem c8_isNumber (L : xLn) (s : xN) (j : Int64) (a : Nat → xN) (n p w : Nat) (lo hi : Int32) (hw : w < 50) (hn : s 13 = nI n) (h200 : n ≤ 200) (hs : s 15 = nI p) (hp : p ≤ n) : CT L mX8_isNumber 2 0 0 [.ref 0, .int (nI w), .int lo, .int hi] (modW s j a) (fun r Y => r = some (.int (bI (nuP (a 14) n p lo hi))) ∧ ∃ s' j' a', Y = modW s' j' a' ∧ nuR (a 14) n p w lo hi s a s' a') := by
  refine CT.of rfl (Nat.le_of_ble_eq_true rfl) (Nat.le_of_ble_eq_true rfl) ?_
  have nxt : ∀ s' j' a' b, b = nuP (a 14) n p lo hi → nuR (a 14) n p w lo hi s a s' a' → (fun (r : Option Value) (Y : List xE) => r = some (.int (bI (nuP (a 14) n p lo hi))) ∧ ∃ s' j' a', Y = modW s' j' a' ∧ nuR (a 14) n p w lo hi s a s' a') (some (.int (bI b))) (modW s' j' a') := fun s' j' a' b hb h => ⟨by rw [hb], s', j', a', rfl, h⟩
  generalize (fun (r : Option Value) (Y : List xE) => r = some (.int (bI (nuP (a 14) n p lo hi))) ∧ ∃ s' j' a', Y = modW s' j' a' ∧ nuR (a 14) n p w lo hi s a s' a') = Q at nxt ⊢
  refine AJ.run kX8_isNumber [] 60 ?_
  refine AJ.callF kX8_isNumber (c8_nextToken L s j a n p hn h200 hs hp) bX8_nextToken rfl (by decide +kernel) [] rfl rfl rfl rfl rfl rfl rfl rfl ?_
  rintro r Y ⟨rfl, s1, j1, rfl, t1, t2, t3, t4, t5⟩
  have hfail : nuP (a 14) n p lo hi = false → AJ L mX8_isNumber 2 0 0 Q (modW s j a).length (0, 0) 27 [some (.ref 0), some (.int (nI w)), some (.int lo), some (.int hi)] [] (modW s1 j1 a) := by
    intro hf
    have := nxt (upd s1 20 (s1 16)) j1 a false hf.symm ⟨fun i h1 h2 h3 h4 h5 => (pk_un h5).trans (t1 i h1 h2 h3 h4), t3, t2, (fun z => by rw [hf] at z; cases z), fun _ => ⟨rfl, t3⟩⟩
    refine AJ.run kX8_isNumber [] 60 ?_
    refine AJ.callF kX8_isNumber (c8_fails L s1 j1 a) bX8_fails rfl (by decide +kernel) [] rfl rfl rfl rfl rfl rfl rfl rfl ?_
    rintro r Y ⟨rfl, rfl⟩
    exact ⟨rfl, rfl, AJ.run kX8_isNumber [] 60 ⟨Or.inl rfl, this⟩⟩
  refine ⟨rfl, rfl, AJ.run kX8_isNumber [27] 60 ⟨fun h1 => hfail ?_, fun h1 => ?_⟩⟩
  · rw [lg_cmp_eq] at h1
    rw [t4] at h1
    simp [nuP, h1]
  · rw [lg_cmp_eq] at h1
    refine AJ.callZ kX8_isNumber (c8_in L (s1 19) lo hi) bX8_in rfl (by decide +kernel) [] rfl rfl rfl rfl rfl ?_
    rintro r rfl
    have e19 := t5 h1
    have hj : tkJ (a 14) n p = -1 := t4 ▸ h1
    refine AJ.run kX8_isNumber [27] 60 ⟨fun h2 => ⟨w, rfl, hw, Or.inr rfl, ?_⟩, fun h2 => hfail ?_⟩
    · rw [bI_ne0, e19] at h2
      have hok : nuP (a 14) n p lo hi = true := by rw [nuP, hj, h2]; rfl
      have := nxt s1 j1 (va_up a 25 (upd (a 25) w (s1 19))) true hok.symm ⟨fun i h1 h2 h3 h4 h5 => t1 i h1 h2 h3 h4, t3, t2, fun _ => ⟨by rw [e19], t1 20 (by omega) (by omega) (by omega) (by omega)⟩, fun z => by rw [hok] at z; cases z⟩
      exact this
    · rw [bI_eq0, e19] at h2
      rw [nuP, h2]; simp
end
section
/-! ===== the text: lines ===== -/
/-- may the number v stand as the i-th behind the word w -/
def cstP (w i : Nat) (RP RF : Int32) (ns : xN) (v : Int32) : Bool :=
  match w with
  | 0 => inP v 2 12
  | 1 => if i = 0 then inP v 0 7 else inP v 1 30
  | 2 => inP v 1 6
  | 3 => inP v 0 99
  | 4 => if i = 0 then inP v 0 1 else if i = 1 then inP v 0 (RP - 1) else if i = 2 then inP v 0 59 else inP v 0 1
  | 5 => if i = 0 then inP v 0 7 else if i = 1 then inP v 0 (RP - 1) else inP v 0 (RP - 1) && decide (¬ ns 1 = v)
  | _ => if i = 0 then inP v 0 7 && hasP RF v else inP v 0 59
def cntN (w : Nat) : Nat := match w with
  | 0 => 1
  | 1 => 2
  | 2 => 1
  | 3 => 1
  | 4 => 4
  | 5 => 3
  | 6 => 2
  | 7 => 2
  | 8 => 2
  | _ => 0
/-- the numbers behind a word: a fault's place, or the numbers and the place behind them -/
def numsP (f : xN) (n w : Nat) (RP RF : Int32) : Nat → Nat → xN → Nat → Nat ⊕ (xN × Nat)
  | 0, _, ns, p => .inr (ns, p)
  | k + 1, i, ns, p => if tkJ f n p = -1 ∧ cstP w i RP RF ns (tkN f n p) = true then numsP f n w RP RF k (i + 1) (upd ns i (tkN f n p)) (tkE f n p) else .inl (tkS f n p)
theorem numsP_ok {f : xN} {n : Nat} (w : Nat) (RP RF : Int32) {k : Nat} (i : Nat) (ns : xN) {p : Nat} (h1 : tkJ f n p = -1) (h2 : cstP w i RP RF ns (tkN f n p) = true) : numsP f n w RP RF (k + 1) i ns p = numsP f n w RP RF k (i + 1) (upd ns i (tkN f n p)) (tkE f n p) := if_pos ⟨h1, h2⟩
theorem numsP_no {f : xN} {n w : Nat} {RP RF : Int32} {k i : Nat} {ns : xN} {p : Nat} (h : tkJ f n p = -1 → cstP w i RP RF ns (tkN f n p) = false) : numsP f n w RP RF (k + 1) i ns p = .inl (tkS f n p) := if_neg (fun z => by rw [h z.1] at z; cases z.2)
theorem nuP_t {f : xN} {n p : Nat} {lo hi : Int32} (h : nuP f n p lo hi = true) : tkJ f n p = -1 ∧ inP (tkN f n p) lo hi = true := by
  simpa [nuP] using h
theorem nuP_f {f : xN} {n p : Nat} {lo hi : Int32} (h : nuP f n p lo hi = false) : tkJ f n p = -1 → inP (tkN f n p) lo hi = false := by
  intro h1
  rw [nuP, h1] at h
  simpa using h
def lpP (w : Nat) (ns : xN) (RP : Int32) : Int32 := if w = 0 then ns 0 else RP
def lfP (w : Nat) (ns : xN) (RF : Int32) : Int32 := if w = 0 then 0 else if w = 5 then RF ||| 1 <<< (ns 0 &&& 31) else RF
def lmP (w : Nat) (RM : Int32) : Int32 := if w = 0 ∨ w = 9 then 0 else if 6 ≤ w ∧ w ≤ 8 then RM + 1 else RM
/-- k numbers of line i are read, and the place is p -/
def nsR (n i k p : Nat) (ns : xN) (s : xN) (a : Nat → xN) (s' : xN) (a' : Nat → xN) : Prop := (∀ x, x ≠ 15 → x ≠ 16 → x ≠ 18 → x ≠ 19 → x ≠ 20 → s' x = s x) ∧ s' 15 = nI p ∧ p ≤ n ∧ (∀ x, x ≠ 25 → a' x = a x) ∧ (∀ x, x < 5 * i + 1 → a' 25 x = a 25 x) ∧ ∀ q, q < k → a' 25 (5 * i + 1 + q) = ns q
/-- a fault at e in line i -/
def flR (i : Nat) (s : xN) (a : Nat → xN) (s' : xN) (a' : Nat → xN) (e : Nat) : Prop := (∀ x, x < 15 ∨ x = 21 ∨ 25 ≤ x → s' x = s x) ∧ (∀ x, x ≠ 25 → a' x = a x) ∧ (∀ x, x < 5 * i → a' 25 x = a 25 x) ∧ s' 20 = nI e
/-- line i is read: the word w, its numbers, the place behind it -/
def okR (n i w : Nat) (s : xN) (a : Nat → xN) (s' : xN) (a' : Nat → xN) (ns : xN) (p : Nat) : Prop := (∀ x, x < 15 ∨ x = 21 ∨ 25 ≤ x → s' x = s x) ∧ (∀ x, x ≠ 25 → a' x = a x) ∧ (∀ x, x < 5 * i + 1 → a' 25 x = a 25 x) ∧ s' 15 = nI p ∧ p ≤ n ∧ (∀ k, k < cntN w → a' 25 (5 * i + 1 + k) = ns k) ∧ s' 22 = lpP w ns (s 22) ∧ s' 23 = lfP w ns (s 23) ∧ s' 24 = lmP w (s 24)
def lnQ (f : xN) (n i w p : Nat) (s : xN) (a : Nat → xN) : Option Value → List xE → Prop := fun r Y => (∃ e, numsP f n w (s 22) (s 23) (cntN w) 0 (fun _ => 0) p = .inl e ∧ r = some (.int 0) ∧ ∃ s' j' a', Y = modW s' j' a' ∧ flR i s a s' a' e) ∨ (∃ ns p', numsP f n w (s 22) (s 23) (cntN w) 0 (fun _ => 0) p = .inr (ns, p') ∧ r = some (.int 1) ∧ ∃ s' j' a', Y = modW s' j' a' ∧ okR n i w s a s' a' ns p')
theorem nsR.fl {n i k p : Nat} {ns : xN} {s : xN} {a : Nat → xN} {s' : xN} {a' : Nat → xN} (h : nsR n i k p ns s a s' a') {s'' : xN} {a'' : Nat → xN} {e : Nat} (h1 : ∀ x, x ≠ 15 → x ≠ 16 → x ≠ 18 → x ≠ 19 → x ≠ 20 → s'' x = s' x) (h2 : a'' = a') (h3 : s'' 20 = nI e) : flR i s a s'' a'' e := by
  subst h2
  obtain ⟨k1, k2, k3, k4, k5, k6⟩ := h
  exact ⟨fun x hx => (h1 x (by omega) (by omega) (by omega) (by omega) (by omega)).trans (k1 x (by omega) (by omega) (by omega) (by omega) (by omega)), k4, fun x hx => k5 x (by omega), h3⟩
theorem nsR.ok {n i k p w : Nat} {ns : xN} {s : xN} {a : Nat → xN} {s' : xN} {a' : Nat → xN} (h : nsR n i k p ns s a s' a') (hk : k = cntN w) (h22 : s 22 = lpP w ns (s 22)) (h23 : s 23 = lfP w ns (s 23)) (h24 : s 24 = lmP w (s 24)) : okR n i w s a s' a' ns p := by
  subst hk
  obtain ⟨k1, k2, k3, k4, k5, k6⟩ := h
  exact ⟨fun x hx => k1 x (by omega) (by omega) (by omega) (by omega) (by omega), k4, k5, k2, k3, k6, (k1 22 (by omega) (by omega) (by omega) (by omega) (by omega)).trans h22, (k1 23 (by omega) (by omega) (by omega) (by omega) (by omega)).trans h23, (k1 24 (by omega) (by omega) (by omega) (by omega) (by omega)).trans h24⟩
def numQ (f : xN) (n i k p : Nat) (ns : xN) (lo hi : Int32) (s : xN) (a : Nat → xN) : Option Value → List xE → Prop := fun r Y => (nuP f n p lo hi = true ∧ r = some (.int 1) ∧ ∃ s' j' a', Y = modW s' j' a' ∧ s' 16 = nI (tkS f n p) ∧ nsR n i (k + 1) (tkE f n p) (upd ns k (tkN f n p)) s a s' a') ∨ (nuP f n p lo hi = false ∧ r = some (.int 0) ∧ ∃ s' j' a', Y = modW s' j' a' ∧ flR i s a s' a' (tkS f n p))
theorem c8_num (L : xLn) (s : xN) (a : Nat → xN) (n i k p : Nat) (ns : xN) (lo hi : Int32) (s1 : xN) (j1 : Int64) (a1 : Nat → xN) (hw : 5 * i + 1 + k < 50) (hn : s 13 = nI n) (h200 : n ≤ 200) (h : nsR n i k p ns s a s1 a1) : CT L mX8_isNumber 2 0 0 [.ref 0, .int (nI (5 * i + 1 + k)), .int lo, .int hi] (modW s1 j1 a1) (numQ (a 14) n i k p ns lo hi s a) := by
  have h0 := h
  obtain ⟨k1, k2, k3, k4, k5, k6⟩ := h
  refine (c8_isNumber L s1 j1 a1 n p (5 * i + 1 + k) lo hi hw ((k1 13 (by omega) (by omega) (by omega) (by omega) (by omega)).trans hn) h200 k2 k3).mono ?_
  rintro r Y ⟨rfl, s2, j2, a2, rfl, u1, u2, u3, u4, u5⟩
  rw [k4 14 (by omega)] at u2 u3 u4 u5 ⊢
  cases hb : nuP (a 14) n p lo hi with
  | true =>
    obtain ⟨e1, e2⟩ := u4 hb
    refine Or.inl ⟨hb, rfl, s2, j2, a2, rfl, u2, fun x h1 h2 h3 h4 h5 => (u1 x h1 h2 h3 h4 h5).trans (k1 x h1 h2 h3 h4 h5), u3, (tkE_le k3).2, fun x hx => ?_, fun x hx => ?_, fun q hq => ?_⟩
    · subst e1
      show va_up a1 25 _ x = _
      unfold va_up
      rw [if_neg hx]; exact k4 x hx
    · subst e1
      show upd (a1 25) (5 * i + 1 + k) _ x = _
      rw [pk_un (by omega)]; exact k5 x hx
    · subst e1
      show upd (a1 25) (5 * i + 1 + k) _ (5 * i + 1 + q) = _
      by_cases e : q = k
      · subst e
        rw [pk_us, pk_us]
      · rw [pk_un (by omega), pk_un e]; exact k6 q (by omega)
  | false =>
    obtain ⟨e1, e2⟩ := u5 hb
    exact Or.inr ⟨hb, rfl, s2, j2, a2, rfl, h0.fl u1 e1 e2⟩
theorem nsR.rf {n i p : Nat} {s : xN} {a : Nat → xN} (hs : s 15 = nI p) (hp : p ≤ n) (ns : xN) : nsR n i 0 p ns s a s a := ⟨fun _ _ _ _ _ _ => rfl, hs, hp, fun _ _ => rfl, fun _ _ => rfl, fun q hq => by omega⟩
set_option maxHeartbeats 400000 in
theorem c8_isRail (L : xLn) (s : xN) (j : Int64) (a : Nat → xN) (n i p : Nat) (hi : i < 10) (hn : s 13 = nI n) (h200 : n ≤ 200) (hs : s 15 = nI p) (hp : p ≤ n) : CT L mX8_isRail 3 0 0 [.ref 0, .int (nI (5 * i))] (modW s j a) (lnQ (a 14) n i 0 p s a) := by
  refine CT.of rfl (Nat.le_of_ble_eq_true rfl) (Nat.le_of_ble_eq_true rfl) ?_
  have nx1 : ∀ e s' j' a', numsP (a 14) n 0 (s 22) (s 23) (cntN 0) 0 (fun _ => 0) p = .inl e → flR i s a s' a' e → lnQ (a 14) n i 0 p s a (some (.int 0)) (modW s' j' a') := fun e s' j' a' h1 h2 => Or.inl ⟨e, h1, rfl, s', j', a', rfl, h2⟩
  have nx2 : ∀ ns p' s' j' a', numsP (a 14) n 0 (s 22) (s 23) (cntN 0) 0 (fun _ => 0) p = .inr (ns, p') → okR n i 0 s a s' a' ns p' → lnQ (a 14) n i 0 p s a (some (.int 1)) (modW s' j' a') := fun ns p' s' j' a' h1 h2 => Or.inr ⟨ns, p', h1, rfl, s', j', a', rfl, h2⟩
  generalize lnQ (a 14) n i 0 p s a = Q at nx1 nx2 ⊢
  have c1 := c8_num L s a n i 0 p (fun _ => 0) 2 12 s j a (by omega) hn h200 (nsR.rf hs hp _)
  rw [Nat.add_zero, ← nI_1] at c1
  refine AJ.run kX8_isRail [] 60 ?_
  refine AJ.callF kX8_isRail c1 bX8_isNumber rfl (by decide +kernel) [] rfl rfl rfl rfl rfl rfl rfl rfl ?_
  rintro r Y (⟨hb, rfl, s1, j1, a1, rfl, u1, u2⟩ | ⟨hb, rfl, s1, j1, a1, rfl, u2⟩)
  · obtain ⟨t1, t2⟩ := nuP_t hb
    have hN : numsP (a 14) n 0 (s 22) (s 23) (cntN 0) 0 (fun _ => 0) p = .inr (upd (fun _ => 0) 0 (tkN (a 14) n p), tkE (a 14) n p) := by
      show numsP (a 14) n 0 (s 22) (s 23) (0 + 1) 0 (fun _ => 0) p = _
      rw [numsP_ok 0 (s 22) (s 23) 0 (fun _ => 0) t1 t2]; rfl
    obtain ⟨k1, k2, k3, k4, k5, k6⟩ := u2
    refine ⟨rfl, rfl, AJ.run kX8_isRail [] 60 ⟨fun _ => ⟨5 * i + 1, nI_1 _, by omega, Or.inr rfl, ?_⟩, fun hz => absurd hz (by decide)⟩⟩
    refine nx2 _ _ (upd (upd (upd s1 22 (a1 25 (5 * i + 1))) 23 0) 24 0) j1 a1 hN ⟨fun x hx => ?_, k4, k5, k2, k3, k6, ?_, rfl, rfl⟩
    · rw [pk_un (by omega), pk_un (by omega), pk_un (by omega)]
      exact k1 x (by omega) (by omega) (by omega) (by omega) (by omega)
    · exact k6 0 (by omega)
  · have hN : numsP (a 14) n 0 (s 22) (s 23) (cntN 0) 0 (fun _ => 0) p = .inl (tkS (a 14) n p) := numsP_no (nuP_f hb)
    exact ⟨rfl, rfl, AJ.run kX8_isRail [] 60 ⟨fun hz => absurd rfl hz, fun _ => ⟨Or.inl rfl, nx1 _ s1 j1 a1 hN u2⟩⟩⟩
end
section
set_option maxHeartbeats 1000000 in
theorem c8_isFolk (L : xLn) (s : xN) (j : Int64) (a : Nat → xN) (n i p : Nat) (hi : i < 10) (hn : s 13 = nI n) (h200 : n ≤ 200) (hs : s 15 = nI p) (hp : p ≤ n) : CT L mX8_isFolk 3 0 0 [.ref 0, .int (nI (5 * i))] (modW s j a) (lnQ (a 14) n i 5 p s a) := by
  refine CT.of rfl (Nat.le_of_ble_eq_true rfl) (Nat.le_of_ble_eq_true rfl) ?_
  have nx1 : ∀ e s' j' a', numsP (a 14) n 5 (s 22) (s 23) (2 + 1) 0 (fun _ => 0) p = .inl e → flR i s a s' a' e → lnQ (a 14) n i 5 p s a (some (.int 0)) (modW s' j' a') := fun e s' j' a' h1 h2 => Or.inl ⟨e, h1, rfl, s', j', a', rfl, h2⟩
  have nx2 : ∀ ns p' s' j' a', numsP (a 14) n 5 (s 22) (s 23) (2 + 1) 0 (fun _ => 0) p = .inr (ns, p') → okR n i 5 s a s' a' ns p' → lnQ (a 14) n i 5 p s a (some (.int 1)) (modW s' j' a') := fun ns p' s' j' a' h1 h2 => Or.inr ⟨ns, p', h1, rfl, s', j', a', rfl, h2⟩
  generalize lnQ (a 14) n i 5 p s a = Q at nx1 nx2 ⊢
  have c1 := c8_num L s a n i 0 p (fun _ => 0) 0 7 s j a (by omega) hn h200 (nsR.rf hs hp _)
  rw [Nat.add_zero, ← nI_1] at c1
  refine AJ.run kX8_isFolk [] 60 ?_
  refine AJ.callF kX8_isFolk c1 bX8_isNumber rfl (by decide +kernel) [] rfl rfl rfl rfl rfl rfl rfl rfl ?_
  rintro r Y (⟨hb, rfl, s1, j1, a1, rfl, u1, u2⟩ | ⟨hb, rfl, s1, j1, a1, rfl, u2⟩)
  case inr =>
    have hN := numsP_no (w := 5) (RP := s 22) (RF := s 23) (k := 2) (i := 0) (ns := fun _ => 0) (nuP_f hb)
    exact ⟨rfl, rfl, AJ.run kX8_isFolk [] 60 ⟨fun _ => ⟨Or.inl rfl, nx1 _ s1 j1 a1 hN u2⟩, fun hz => absurd rfl hz⟩⟩
  obtain ⟨t1, t2⟩ := nuP_t hb
  rw [numsP_ok 5 (s 22) (s 23) 0 (fun _ => 0) t1 t2] at nx1 nx2
  have e22 : s1 22 = s 22 := u2.1 22 (by omega) (by omega) (by omega) (by omega) (by omega)
  generalize tkN (a 14) n p = v0 at *
  generalize tkE (a 14) n p = p1 at *
  have c2 := c8_num L s a n i 1 p1 (upd (fun _ => 0) 0 v0) 0 (s1 22 - 1) s1 j1 a1 (by omega) hn h200 u2
  rw [show 5 * i + 1 + 1 = 5 * i + 2 by omega, ← nI_add] at c2
  refine ⟨rfl, rfl, AJ.run kX8_isFolk [24] 60 ⟨fun hz => absurd hz (by decide), fun _ => ?_⟩⟩
  refine AJ.callF kX8_isFolk c2 bX8_isNumber rfl (by decide +kernel) [] rfl rfl rfl rfl rfl rfl rfl rfl ?_
  rintro r Y (⟨hb, rfl, s2, j2, a2, rfl, w1, w2⟩ | ⟨hb, rfl, s2, j2, a2, rfl, w2⟩)
  case inr =>
    rw [e22] at hb
    have hN := numsP_no (w := 5) (RP := s 22) (RF := s 23) (k := 1) (i := 1) (ns := upd (fun _ => 0) 0 v0) (nuP_f hb)
    exact ⟨rfl, rfl, AJ.run kX8_isFolk [] 60 ⟨fun _ => ⟨Or.inl rfl, nx1 _ s2 j2 a2 hN w2⟩, fun hz => absurd rfl hz⟩⟩
  rw [e22] at hb
  obtain ⟨t3, t4⟩ := nuP_t hb
  rw [numsP_ok 5 (s 22) (s 23) 1 (upd (fun _ => 0) 0 v0) t3 t4] at nx1 nx2
  have e22b : s2 22 = s 22 := w2.1 22 (by omega) (by omega) (by omega) (by omega) (by omega)
  generalize tkN (a 14) n p1 = v1 at *
  generalize tkE (a 14) n p1 = p2 at *
  have c3 := c8_num L s a n i 2 p2 (upd (upd (fun _ => 0) 0 v0) 1 v1) 0 (s2 22 - 1) s2 j2 a2 (by omega) hn h200 w2
  rw [show 5 * i + 1 + 2 = 5 * i + 3 by omega, ← nI_add] at c3
  refine ⟨rfl, rfl, AJ.run kX8_isFolk [41] 60 ⟨fun hz => absurd hz (by decide), fun _ => ?_⟩⟩
  refine AJ.callF kX8_isFolk c3 bX8_isNumber rfl (by decide +kernel) [] rfl rfl rfl rfl rfl rfl rfl rfl ?_
  rintro r Y (⟨hb, rfl, s3, j3, a3, rfl, x1, x2⟩ | ⟨hb, rfl, s3, j3, a3, rfl, x2⟩)
  case inr =>
    rw [e22b] at hb
    have hN := numsP_no (w := 5) (RP := s 22) (RF := s 23) (k := 0) (i := 2) (ns := upd (upd (fun _ => 0) 0 v0) 1 v1) (fun z => by rw [cstP, if_neg (by decide), if_neg (by decide), nuP_f hb z]; rfl)
    exact ⟨rfl, rfl, AJ.run kX8_isFolk [] 60 ⟨fun hz => absurd rfl hz, fun _ => ⟨Or.inl rfl, nx1 _ s3 j3 a3 hN x2⟩⟩⟩
  rw [e22b] at hb
  obtain ⟨t5, t6⟩ := nuP_t hb
  obtain ⟨k1, k2, k3, k4, k5, k6⟩ := x2
  have q0 : a3 25 (5 * i + 1) = v0 := k6 0 (by omega)
  have q1 : a3 25 (5 * i + 2) = v1 := k6 1 (by omega)
  have q2 : a3 25 (5 * i + 3) = tkN (a 14) n p2 := k6 2 (by omega)
  have i1 : nI (5 * i) + 1 = nI (5 * i + 1) := nI_1 _
  have i2 : nI (5 * i) + 2 = nI (5 * i + 2) := nI_add _ 2
  have i3 : nI (5 * i) + 3 = nI (5 * i + 3) := nI_add _ 3
  have fo : s3 23 = s 23 := k1 23 (by omega) (by omega) (by omega) (by omega) (by omega)
  refine ⟨rfl, rfl, AJ.run kX8_isFolk [] 60 ⟨fun _ => ⟨5 * i + 1, i1, by omega, 5 * i + 2, i2, by omega, 5 * i + 3, i3, by omega, fun h4 => ⟨Or.inr rfl, ?_⟩, fun h4 => ?_⟩, fun hz => absurd hz (by decide)⟩⟩
  · have h4 : ¬ a3 25 (5 * i + 2) = a3 25 (5 * i + 3) := h4
    rw [q1, q2] at h4
    have hN := numsP_ok (f := a 14) (n := n) (k := 0) (p := p2) 5 (s 22) (s 23) 2 (upd (upd (fun _ => 0) 0 v0) 1 v1) t5 (by
      rw [cstP, if_neg (by decide), if_neg (by decide), t6, show (upd (upd (fun _ => (0 : Int32)) 0 v0) 1 v1) 1 = v1 from rfl]
      simpa using h4)
    refine nx2 _ _ (upd s3 23 (s3 23 ||| 1 <<< (a3 25 (5 * i + 1) &&& 31))) j3 a3 hN ⟨fun x hx => ?_, k4, k5, k2, k3, k6, ?_, ?_, ?_⟩
    · rw [pk_un (by omega)]
      exact k1 x (by omega) (by omega) (by omega) (by omega) (by omega)
    · exact k1 22 (by omega) (by omega) (by omega) (by omega) (by omega)
    · show s3 23 ||| 1 <<< (a3 25 (5 * i + 1) &&& 31) = _
      rw [fo, q0]; rfl
    · exact k1 24 (by omega) (by omega) (by omega) (by omega) (by omega)
  · have h4 : a3 25 (5 * i + 2) = a3 25 (5 * i + 3) := h4
    rw [q1, q2] at h4
    have hN := numsP_no (f := a 14) (n := n) (w := 5) (RP := s 22) (RF := s 23) (k := 0) (i := 2) (ns := upd (upd (fun _ => 0) 0 v0) 1 v1) (p := p2) (fun z => by
      rw [cstP, if_neg (by decide), if_neg (by decide), t6, show (upd (upd (fun _ => (0 : Int32)) 0 v0) 1 v1) 1 = v1 from rfl]
      simpa using h4)
    refine AJ.callF kX8_isFolk (c8_fails L (upd s3 23 (s3 23 ||| 1 <<< (a3 25 (5 * i + 1) &&& 31))) j3 a3) bX8_fails rfl (by decide +kernel) [] rfl rfl rfl rfl rfl rfl rfl rfl ?_
    rintro r Y ⟨rfl, rfl⟩
    refine ⟨rfl, rfl, AJ.run kX8_isFolk [] 60 ⟨fun _ => ⟨Or.inl rfl, ?_⟩, fun hz => absurd rfl hz⟩⟩
    refine nx1 _ (upd (upd s3 23 (s3 23 ||| 1 <<< (a3 25 (5 * i + 1) &&& 31))) 20 (s3 16)) j3 a3 hN ⟨fun x hx => ?_, k4, fun x hx => k5 x (by omega), x1⟩
    rw [pk_un (by omega), pk_un (by omega)]
    exact k1 x (by omega) (by omega) (by omega) (by omega) (by omega)
set_option maxHeartbeats 1000000 in
/-- a mood's line, where there is room -/
theorem c8_isMood (L : xLn) (s : xN) (j : Int64) (a : Nat → xN) (n i p w : Nat) (hw : 6 ≤ w ∧ w ≤ 8) (hi : i < 10) (hn : s 13 = nI n) (h200 : n ≤ 200) (hs : s 15 = nI p) (hp : p ≤ n) : CT L mX8_isMood 3 0 0 [.ref 0, .int (nI (5 * i))] (modW s j a) (fun r Y => (s 24 = 24 ∧ r = some (.int 0) ∧ Y = modW (upd s 20 (s 16)) j a) ∨ (¬ s 24 = 24 ∧ lnQ (a 14) n i w p s a r Y)) := by
  refine CT.of rfl (Nat.le_of_ble_eq_true rfl) (Nat.le_of_ble_eq_true rfl) ?_
  have hcn : cntN w = 2 := by rcases (show w = 6 ∨ w = 7 ∨ w = 8 by omega) with rfl | rfl | rfl <;> rfl
  have hcs : ∀ i ns v, cstP w i (s 22) (s 23) ns v = if i = 0 then inP v 0 7 && hasP (s 23) v else inP v 0 59 := by
    intro i ns v
    rcases (show w = 6 ∨ w = 7 ∨ w = 8 by omega) with rfl | rfl | rfl <;> rfl
  have nx1 : ∀ e s' j' a', ¬ s 24 = 24 → numsP (a 14) n w (s 22) (s 23) (1 + 1) 0 (fun _ => 0) p = .inl e → flR i s a s' a' e → (fun (r : Option Value) (Y : List xE) => (s 24 = 24 ∧ r = some (.int 0) ∧ Y = modW (upd s 20 (s 16)) j a) ∨ (¬ s 24 = 24 ∧ lnQ (a 14) n i w p s a r Y)) (some (.int 0)) (modW s' j' a') := fun e s' j' a' h0 h1 h2 => Or.inr ⟨h0, Or.inl ⟨e, by rw [hcn]; exact h1, rfl, s', j', a', rfl, h2⟩⟩
  have nx2 : ∀ ns p' s' j' a', ¬ s 24 = 24 → numsP (a 14) n w (s 22) (s 23) (1 + 1) 0 (fun _ => 0) p = .inr (ns, p') → okR n i w s a s' a' ns p' → (fun (r : Option Value) (Y : List xE) => (s 24 = 24 ∧ r = some (.int 0) ∧ Y = modW (upd s 20 (s 16)) j a) ∨ (¬ s 24 = 24 ∧ lnQ (a 14) n i w p s a r Y)) (some (.int 1)) (modW s' j' a') := fun ns p' s' j' a' h0 h1 h2 => Or.inr ⟨h0, Or.inr ⟨ns, p', by rw [hcn]; exact h1, rfl, s', j', a', rfl, h2⟩⟩
  have nx0 : s 24 = 24 → (fun (r : Option Value) (Y : List xE) => (s 24 = 24 ∧ r = some (.int 0) ∧ Y = modW (upd s 20 (s 16)) j a) ∨ (¬ s 24 = 24 ∧ lnQ (a 14) n i w p s a r Y)) (some (.int 0)) (modW (upd s 20 (s 16)) j a) := fun h => Or.inl ⟨h, rfl, rfl⟩
  generalize (fun (r : Option Value) (Y : List xE) => (s 24 = 24 ∧ r = some (.int 0) ∧ Y = modW (upd s 20 (s 16)) j a) ∨ (¬ s 24 = 24 ∧ lnQ (a 14) n i w p s a r Y)) = Q at nx0 nx1 nx2 ⊢
  refine AJ.run kX8_isMood [] 60 ⟨fun h0 => ?_, fun h0 => ?_⟩
  case refine_2 =>
    refine AJ.callF kX8_isMood (c8_fails L s j a) bX8_fails rfl (by decide +kernel) [] rfl rfl rfl rfl rfl rfl rfl rfl ?_
    rintro r Y ⟨rfl, rfl⟩
    exact ⟨rfl, rfl, AJ.run kX8_isMood [] 60 ⟨Or.inl rfl, nx0 h0⟩⟩
  have h0 : ¬ s 24 = 24 := h0
  have nx1 := fun e s' j' a' => nx1 e s' j' a' h0
  have nx2 := fun ns p' s' j' a' => nx2 ns p' s' j' a' h0
  have c1 := c8_num L (upd s 24 (s 24 + 1)) a n i 0 p (fun _ => 0) 0 7 (upd s 24 (s 24 + 1)) j a (by omega) hn h200 (nsR.rf (s := upd s 24 (s 24 + 1)) hs hp _)
  rw [Nat.add_zero, ← nI_1] at c1
  have lift : ∀ s' a' e, flR i (upd s 24 (s 24 + 1)) a s' a' e → flR i s a s' a' e := fun s' a' e h => ⟨fun x hx => (h.1 x hx).trans (pk_un (by omega)), h.2⟩
  refine AJ.callF kX8_isMood c1 bX8_isNumber rfl (by decide +kernel) [] rfl rfl rfl rfl rfl rfl rfl rfl ?_
  rintro r Y (⟨hb, rfl, s1, j1, a1, rfl, u1, u2⟩ | ⟨hb, rfl, s1, j1, a1, rfl, u2⟩)
  case inr =>
    have hN := numsP_no (w := w) (RP := s 22) (RF := s 23) (k := 1) (i := 0) (ns := fun _ => 0) (fun z => by rw [hcs, if_pos rfl, nuP_f hb z]; rfl)
    exact ⟨rfl, rfl, AJ.run kX8_isMood [] 60 ⟨fun hz => absurd rfl hz, fun _ => ⟨Or.inl rfl, nx1 _ s1 j1 a1 hN (lift _ _ _ u2)⟩⟩⟩
  obtain ⟨t1, t2⟩ := nuP_t hb
  have u2' := u2
  obtain ⟨k1, k2, k3, k4, k5, k6⟩ := u2
  have q0 : a1 25 (5 * i + 1) = tkN (a 14) n p := k6 0 (by omega)
  have fo : s1 23 = s 23 := k1 23 (by omega) (by omega) (by omega) (by omega) (by omega)
  refine ⟨rfl, rfl, AJ.run kX8_isMood [51] 60 ⟨fun _ => ⟨5 * i + 1, nI_1 _, by omega, ?_⟩, fun hz => absurd hz (by decide)⟩⟩
  refine AJ.callZ kX8_isMood (c8_has L (s1 23) (a1 25 (5 * i + 1))) bX8_has rfl (by decide +kernel) [] rfl rfl rfl rfl rfl ?_
  rintro r rfl
  rw [q0, fo]
  refine AJ.run kX8_isMood [64] 60 ⟨fun h4 => ?_, fun h4 => ?_⟩
  · rw [bI_eq0] at h4
    have hN := numsP_no (f := a 14) (n := n) (p := p) (w := w) (RP := s 22) (RF := s 23) (k := 1) (i := 0) (ns := fun _ => 0) (fun z => by rw [hcs, if_pos rfl, h4]; simp)
    refine AJ.callF kX8_isMood (c8_fails L s1 j1 a1) bX8_fails rfl (by decide +kernel) [] rfl rfl rfl rfl rfl rfl rfl rfl ?_
    rintro r Y ⟨rfl, rfl⟩
    refine ⟨rfl, rfl, AJ.run kX8_isMood [] 60 ⟨Or.inl rfl, ?_⟩⟩
    refine nx1 _ (upd s1 20 (s1 16)) j1 a1 hN (lift _ _ _ (u2'.fl (fun x _ _ _ _ h5 => pk_un h5) rfl u1))
  · rw [bI_ne0] at h4
    rw [numsP_ok w (s 22) (s 23) 0 (fun _ => 0) t1 (by rw [hcs, if_pos rfl, t2, h4]; rfl)] at nx1 nx2
    generalize tkN (a 14) n p = v0 at *
    generalize tkE (a 14) n p = p1 at *
    have c2 := c8_num L (upd s 24 (s 24 + 1)) a n i 1 p1 (upd (fun _ => 0) 0 v0) 0 59 s1 j1 a1 (by omega) hn h200 u2'
    rw [show 5 * i + 1 + 1 = 5 * i + 2 by omega, ← nI_add] at c2
    refine AJ.callF kX8_isMood c2 bX8_isNumber rfl (by decide +kernel) [] rfl rfl rfl rfl rfl rfl rfl rfl ?_
    rintro r Y (⟨hb, rfl, s2, j2, a2, rfl, w1, w2⟩ | ⟨hb, rfl, s2, j2, a2, rfl, w2⟩)
    · obtain ⟨t3, t4⟩ := nuP_t hb
      have hN := numsP_ok (f := a 14) (n := n) (k := 0) (p := p1) w (s 22) (s 23) 1 (upd (fun _ => 0) 0 v0) t3 (by rw [hcs, if_neg (by decide)]; exact t4)
      obtain ⟨k1, k2, k3, k4, k5, k6⟩ := w2
      refine ⟨rfl, rfl, AJ.run kX8_isMood [] 60 ⟨Or.inr rfl, nx2 _ _ s2 j2 a2 hN ⟨fun x hx => ?_, k4, k5, k2, k3, by rw [hcn]; exact k6, ?_, ?_, ?_⟩⟩⟩
      · exact (k1 x (by omega) (by omega) (by omega) (by omega) (by omega)).trans (pk_un (by omega))
      · rw [lpP, if_neg (by omega)]
        exact k1 22 (by omega) (by omega) (by omega) (by omega) (by omega)
      · rw [lfP, if_neg (by omega), if_neg (by omega)]
        exact k1 23 (by omega) (by omega) (by omega) (by omega) (by omega)
      · rw [lmP, if_neg (by omega), if_pos (by omega)]
        exact k1 24 (by omega) (by omega) (by omega) (by omega) (by omega)
    · have hN := numsP_no (f := a 14) (n := n) (p := p1) (w := w) (RP := s 22) (RF := s 23) (k := 0) (i := 1) (ns := upd (fun _ => 0) 0 v0) (fun z => by rw [hcs, if_neg (by decide), nuP_f hb z])
      exact ⟨rfl, rfl, AJ.run kX8_isMood [] 60 ⟨Or.inl rfl, nx1 _ s2 j2 a2 hN (lift _ _ _ w2)⟩⟩
end
section
/-- which word it is, by its number -/
def wdN (J : Int64) : Nat := if J = 355278 then 0 else if J = 287015 then 1 else if J = 10197082 then 2 else if J = 119318 then 3 else if J = 406822 then 4 else if J = 129368 then 5 else if J = 10728469 then 6 else if J = 126216878256 then 7 else if J = 82451 then 8 else if J = 60115 then 9 else 10
/-- a line from p on: a fault's place, or its word, its numbers, the place behind it -/
def lineP (f : xN) (n p : Nat) (RP RF RM : Int32) : Nat ⊕ (Nat × xN × Nat) := if wdN (tkJ f n p) = 10 ∨ (6 ≤ wdN (tkJ f n p) ∧ wdN (tkJ f n p) ≤ 8 ∧ RM = 24) then .inl (tkS f n p) else match numsP f n (wdN (tkJ f n p)) RP RF (cntN (wdN (tkJ f n p))) 0 (fun _ => 0) (tkE f n p) with
  | .inl e => .inl e
  | .inr (ns, p') => .inr (wdN (tkJ f n p), ns, p')
/-- line i is read, with its word -/
def okL (n i w : Nat) (s : xN) (a : Nat → xN) (s' : xN) (a' : Nat → xN) (ns : xN) (p : Nat) : Prop := (∀ x, x < 15 ∨ x = 21 ∨ 25 ≤ x → s' x = s x) ∧ (∀ x, x ≠ 25 → a' x = a x) ∧ (∀ x, x < 5 * i → a' 25 x = a 25 x) ∧ a' 25 (5 * i) = nI w ∧ s' 15 = nI p ∧ p ≤ n ∧ (∀ k, k < cntN w → a' 25 (5 * i + 1 + k) = ns k) ∧ s' 22 = lpP w ns (s 22) ∧ s' 23 = lfP w ns (s 23) ∧ s' 24 = lmP w (s 24)
def liQ (f : xN) (n i p : Nat) (s : xN) (a : Nat → xN) : Option Value → List xE → Prop := fun r Y => (∃ e, lineP f n p (s 22) (s 23) (s 24) = .inl e ∧ r = some (.int 0) ∧ ∃ s' j' a', Y = modW s' j' a' ∧ flR i s a s' a' e) ∨ (∃ w ns p', lineP f n p (s 22) (s 23) (s 24) = .inr (w, ns, p') ∧ w < 10 ∧ r = some (.int 1) ∧ ∃ s' j' a', Y = modW s' j' a' ∧ okL n i w s a s' a' ns p')
/-- behind the word: the row has it, and the numbers are read -/
theorem li_of (f : xN) (n i p w : Nat) (s : xN) (a : Nat → xN) (s1 : xN) (hw : w < 10) (hR : wdN (tkJ f n p) = w) (hm : ¬ (6 ≤ w ∧ w ≤ 8 ∧ s 24 = 24)) (h1 : ∀ x, x ≠ 15 → x ≠ 16 → x ≠ 18 → x ≠ 19 → s1 x = s x) {r : Option Value} {Y : List xE}
    (h : lnQ f n i w (tkE f n p) s1 (va_up a 25 (upd (a 25) (5 * i) (nI w))) r Y) : liQ f n i p s a r Y := by
  have e22 := h1 22 (by omega) (by omega) (by omega) (by omega)
  have e23 := h1 23 (by omega) (by omega) (by omega) (by omega)
  have e24 := h1 24 (by omega) (by omega) (by omega) (by omega)
  unfold lnQ at h
  rw [e22, e23] at h
  have hl : lineP f n p (s 22) (s 23) (s 24) = match numsP f n w (s 22) (s 23) (cntN w) 0 (fun _ => 0) (tkE f n p) with
    | .inl e => .inl e
    | .inr (ns, p') => .inr (w, ns, p') := by
    unfold lineP
    rw [hR, if_neg (by rintro (z | z); omega; exact hm z)]
  rcases h with ⟨e, h2, rfl, s', j', a', rfl, k1, k2, k3, k4⟩ | ⟨ns, p', h2, rfl, s', j', a', rfl, k1, k2, k3, k4, k5, k6, k7, k8, k9⟩
  · rw [h2] at hl
    refine Or.inl ⟨e, hl, rfl, s', j', a', rfl, fun x hx => (k1 x hx).trans (h1 x (by omega) (by omega) (by omega) (by omega)), fun x hx => (k2 x hx).trans (if_neg hx), fun x hx => (k3 x hx).trans ?_, k4⟩
    exact pk_un (by omega)
  · rw [h2] at hl
    rw [e22] at k7
    rw [e23] at k8
    rw [e24] at k9
    refine Or.inr ⟨w, ns, p', hl, hw, rfl, s', j', a', rfl, fun x hx => (k1 x hx).trans (h1 x (by omega) (by omega) (by omega) (by omega)), fun x hx => (k2 x hx).trans (if_neg hx), fun x hx => (k3 x (by omega)).trans (pk_un (by omega)), (k3 (5 * i) (by omega)).trans pk_us, k4, k5, k6, k7, k8, k9⟩
set_option maxHeartbeats 1000000 in
theorem c8_il_tram (L : xLn) (Q : Option Value → List xE → Prop) (s : xN) (j : Int64) (a : Nat → xN) (n i p n0 : Nat) (x2 x3 : Int32) (hi : i < 10) (hn : s 13 = nI n) (h200 : n ≤ 200) (hs : s 15 = nI p) (hp : p ≤ n)
    (nxt : ∀ r Y, lnQ (a 14) n i 4 p s a r Y → Q r Y) :
    AJ L mX8_isLine 4 0 0 Q n0 (0, 0) 300 [some (.ref 0), some (.int (nI (5 * i))), some (.int x2), some (.int x3)] [] (modW s j a) := by
  have i1 : nI (5 * i + 1) = nI (5 * i) + 1 := (nI_1 _).symm
  have i2 : nI (5 * i + 2) = nI (5 * i) + 2 := (nI_add _ 2).symm
  have i3 : nI (5 * i + 3) = nI (5 * i) + 3 := (nI_add _ 3).symm
  have i4 : nI (5 * i + 4) = nI (5 * i) + 4 := (nI_add _ 4).symm
  have nx1 : ∀ e s' j' a', numsP (a 14) n 4 (s 22) (s 23) (3 + 1) 0 (fun _ => 0) p = .inl e → flR i s a s' a' e → Q (some (.int 0)) (modW s' j' a') := fun e s' j' a' h1 h2 => nxt _ _ (Or.inl ⟨e, h1, rfl, s', j', a', rfl, h2⟩)
  have nx2 : ∀ ns p' s' j' a', numsP (a 14) n 4 (s 22) (s 23) (3 + 1) 0 (fun _ => 0) p = .inr (ns, p') → okR n i 4 s a s' a' ns p' → Q (some (.int 1)) (modW s' j' a') := fun ns p' s' j' a' h1 h2 => nxt _ _ (Or.inr ⟨ns, p', h1, rfl, s', j', a', rfl, h2⟩)
  clear nxt
  have c1 := c8_num L s a n i 0 p (fun _ => 0) 0 1 s j a (by omega) hn h200 (nsR.rf hs hp _)
  rw [Nat.add_zero, i1] at c1
  refine AJ.run kX8_isLine [] 60 ?_
  refine AJ.callF kX8_isLine c1 bX8_isNumber rfl (by decide +kernel) [] rfl rfl rfl rfl rfl rfl rfl rfl ?_
  rintro r Y (⟨hb, rfl, s1, j1, a1, rfl, u1, u2⟩ | ⟨hb, rfl, s1, j1, a1, rfl, u2⟩)
  case inr =>
    have hN := numsP_no (w := 4) (RP := s 22) (RF := s 23) (k := 3) (i := 0) (ns := fun _ => 0) (nuP_f hb)
    exact ⟨rfl, rfl, AJ.run kX8_isLine [] 60 ⟨fun _ => ⟨Or.inl rfl, nx1 _ s1 j1 a1 hN u2⟩, fun hz => absurd rfl hz⟩⟩
  obtain ⟨t1, t2⟩ := nuP_t hb
  rw [numsP_ok 4 (s 22) (s 23) 0 (fun _ => 0) t1 t2] at nx1 nx2
  have e22 : s1 22 = s 22 := u2.1 22 (by omega) (by omega) (by omega) (by omega) (by omega)
  clear t1 t2 hb c1
  generalize upd (fun _ => 0) 0 (tkN (a 14) n p) = ns1 at *
  generalize tkE (a 14) n p = p1 at *
  have c2 := c8_num L s a n i 1 p1 ns1 0 (s1 22 - 1) s1 j1 a1 (by omega) hn h200 u2
  rw [show 5 * i + 1 + 1 = 5 * i + 2 by omega, i2] at c2
  refine ⟨rfl, rfl, AJ.run kX8_isLine [323] 60 ⟨fun hz => absurd hz (by decide), fun _ => ?_⟩⟩
  refine AJ.callF kX8_isLine c2 bX8_isNumber rfl (by decide +kernel) [] rfl rfl rfl rfl rfl rfl rfl rfl ?_
  rintro r Y (⟨hb, rfl, s2, j2, a2, rfl, w1, w2⟩ | ⟨hb, rfl, s2, j2, a2, rfl, w2⟩)
  case inr =>
    rw [e22] at hb
    have hN := numsP_no (w := 4) (RP := s 22) (RF := s 23) (k := 2) (i := 1) (ns := ns1) (nuP_f hb)
    exact ⟨rfl, rfl, AJ.run kX8_isLine [] 60 ⟨fun _ => ⟨Or.inl rfl, nx1 _ s2 j2 a2 hN w2⟩, fun hz => absurd rfl hz⟩⟩
  rw [e22] at hb
  obtain ⟨t3, t4⟩ := nuP_t hb
  rw [numsP_ok 4 (s 22) (s 23) 1 ns1 t3 t4] at nx1 nx2
  clear t3 t4 hb c2 u2
  generalize upd ns1 1 (tkN (a 14) n p1) = ns2 at *
  generalize tkE (a 14) n p1 = p2 at *
  have c3 := c8_num L s a n i 2 p2 ns2 0 59 s2 j2 a2 (by omega) hn h200 w2
  rw [show 5 * i + 1 + 2 = 5 * i + 3 by omega, i3] at c3
  refine ⟨rfl, rfl, AJ.run kX8_isLine [336] 60 ⟨fun hz => absurd hz (by decide), fun _ => ?_⟩⟩
  refine AJ.callF kX8_isLine c3 bX8_isNumber rfl (by decide +kernel) [] rfl rfl rfl rfl rfl rfl rfl rfl ?_
  rintro r Y (⟨hb, rfl, s3, j3, a3, rfl, x1, x2⟩ | ⟨hb, rfl, s3, j3, a3, rfl, x2⟩)
  case inr =>
    have hN := numsP_no (w := 4) (RP := s 22) (RF := s 23) (k := 1) (i := 2) (ns := ns2) (nuP_f hb)
    exact ⟨rfl, rfl, AJ.run kX8_isLine [] 60 ⟨fun _ => ⟨Or.inl rfl, nx1 _ s3 j3 a3 hN x2⟩, fun hz => absurd rfl hz⟩⟩
  obtain ⟨t5, t6⟩ := nuP_t hb
  rw [numsP_ok 4 (s 22) (s 23) 2 ns2 t5 t6] at nx1 nx2
  clear t5 t6 hb c3 w2
  generalize upd ns2 2 (tkN (a 14) n p2) = ns3 at *
  generalize tkE (a 14) n p2 = p3 at *
  have c4 := c8_num L s a n i 3 p3 ns3 0 1 s3 j3 a3 (by omega) hn h200 x2
  rw [show 5 * i + 1 + 3 = 5 * i + 4 by omega, i4] at c4
  refine ⟨rfl, rfl, AJ.run kX8_isLine [348] 60 ⟨fun hz => absurd hz (by decide), fun _ => ?_⟩⟩
  refine AJ.callF kX8_isLine c4 bX8_isNumber rfl (by decide +kernel) [] rfl rfl rfl rfl rfl rfl rfl rfl ?_
  rintro r Y (⟨hb, rfl, s4, j4, a4, rfl, y1, y2⟩ | ⟨hb, rfl, s4, j4, a4, rfl, y2⟩)
  case inr =>
    have hN := numsP_no (w := 4) (RP := s 22) (RF := s 23) (k := 0) (i := 3) (ns := ns3) (nuP_f hb)
    exact ⟨rfl, rfl, AJ.run kX8_isLine [] 60 ⟨fun _ => ⟨Or.inl rfl, nx1 _ s4 j4 a4 hN y2⟩, fun hz => absurd rfl hz⟩⟩
  obtain ⟨t7, t8⟩ := nuP_t hb
  have hD := numsP_ok (k := 0) 4 (s 22) (s 23) 3 ns3 t7 t8
  have fin := nx2 _ _ s4 j4 a4 hD (y2.ok rfl rfl rfl rfl)
  exact ⟨rfl, rfl, AJ.run kX8_isLine [] 60 ⟨fun hz => absurd hz (by decide), fun _ => ⟨Or.inr rfl, fin⟩⟩⟩
set_option maxHeartbeats 1000000 in
/-- the line behind its word -/
theorem c8_il_word (L : xLn) (Q : Option Value → List xE → Prop) (s : xN) (j : Int64) (a : Nat → xN) (n i p w n0 : Nat) (x2 x3 : Int32) (hi : i < 10) (hn : s 13 = nI n) (h200 : n ≤ 200) (hs : s 15 = nI p) (hp : p ≤ n) (hw : w < 10) (ha : a 25 (5 * i) = nI w)
    (nxt : ∀ r Y, ¬ (6 ≤ w ∧ w ≤ 8 ∧ s 24 = 24) → lnQ (a 14) n i w p s a r Y → Q r Y) (nx0 : (6 ≤ w ∧ w ≤ 8 ∧ s 24 = 24) → Q (some (.int 0)) (modW (upd s 20 (s 16)) j a)) :
    AJ L mX8_isLine 4 0 0 Q n0 (0, 0) 178 [some (.ref 0), some (.int (nI (5 * i))), some (.int x2), some (.int x3)] [] (modW s j a) := by
  have i1 : nI (5 * i + 1) = nI (5 * i) + 1 := (nI_1 _).symm
  have i2 : nI (5 * i + 2) = nI (5 * i) + 2 := (nI_add _ 2).symm
  have i3 : nI (5 * i + 3) = nI (5 * i) + 3 := (nI_add _ 3).symm
  have i4 : nI (5 * i + 4) = nI (5 * i) + 4 := (nI_add _ 4).symm
  refine AJ.run kX8_isLine [240, 246, 278, 289, 300, 360, 366, 372, 379] 60 ⟨5 * i, rfl, by omega, ?_⟩
  have sw : ∀ k, a 25 (5 * i) = nI k → k = w ∨ ¬ k < 10 := by
    intro k hk
    by_cases h : k < 10
    · left
      rw [ha, nI_eq (by omega) (by omega)] at hk
      exact hk.symm
    · exact Or.inr h
  have swm : ∀ k, 6 ≤ k ∧ k ≤ 8 → a 25 (5 * i) = nI k → 6 ≤ w ∧ w ≤ 8 := by
    intro k hk h
    rcases sw k h with z | z
    · omega
    · exact absurd (by omega) z
  refine ⟨fun h => ?_, fun h0 => ⟨fun h => ?_, fun h1 => ⟨fun h => ?_, fun h2 => ⟨fun h => ?_, fun h3 => ⟨fun h => ?_, fun h4 => ⟨fun h => ?_, fun h5 => ⟨fun h => ?_, fun h6 => ⟨fun h => ?_, fun h7 => ⟨fun h => ?_, fun h8 => ⟨fun h => ?_, fun h9 => ?_⟩⟩⟩⟩⟩⟩⟩⟩⟩⟩
  · obtain rfl : 0 = w := by rcases sw 0 h with z | z; exact z; exact absurd (by omega) z
    refine AJ.run kX8_isLine [] 60 ?_
    refine AJ.callF kX8_isLine (c8_isRail L s j a n i p hi hn h200 hs hp) bX8_isRail rfl (by decide +kernel) [] rfl rfl rfl rfl rfl rfl rfl rfl ?_
    intro r Y hQ
    have nx := nxt r Y (by omega) hQ
    rcases hQ with ⟨e, h2, rfl, s', j', a', rfl, h3⟩ | ⟨ns, p', h2, rfl, s', j', a', rfl, h3⟩
    · exact ⟨rfl, rfl, AJ.run kX8_isLine [] 60 ⟨Or.inl rfl, nx⟩⟩
    · exact ⟨rfl, rfl, AJ.run kX8_isLine [] 60 ⟨Or.inr rfl, nx⟩⟩
  · obtain rfl : 1 = w := by rcases sw 1 h with z | z; exact z; exact absurd (by omega) z
    have c1 := c8_num L s a n i 0 p (fun _ => 0) 0 7 s j a (by omega) hn h200 (nsR.rf hs hp _)
    rw [Nat.add_zero, i1] at c1
    refine AJ.run kX8_isLine [] 60 ?_
    refine AJ.callF kX8_isLine c1 bX8_isNumber rfl (by decide +kernel) [] rfl rfl rfl rfl rfl rfl rfl rfl ?_
    rintro r Y (⟨hb, rfl, s1, j1, a1, rfl, u1, u2⟩ | ⟨hb, rfl, s1, j1, a1, rfl, u2⟩)
    case inr =>
      have hN := numsP_no (w := 1) (RP := s 22) (RF := s 23) (k := 1) (i := 0) (ns := fun _ => 0) (nuP_f hb)
      exact ⟨rfl, rfl, AJ.run kX8_isLine [] 60 ⟨fun _ => ⟨Or.inl rfl, nxt _ _ (by omega) (Or.inl ⟨_, hN, rfl, s1, j1, a1, rfl, u2⟩)⟩, fun hz => absurd rfl hz⟩⟩
    obtain ⟨t1, t2⟩ := nuP_t hb
    have hA := numsP_ok (k := 1) 1 (s 22) (s 23) 0 (fun _ => 0) t1 t2
    have c2 := c8_num L s a n i 1 (tkE (a 14) n p) (upd (fun _ => 0) 0 (tkN (a 14) n p)) 1 30 s1 j1 a1 (by omega) hn h200 u2
    rw [show 5 * i + 1 + 1 = 5 * i + 2 by omega, i2] at c2
    refine ⟨rfl, rfl, AJ.run kX8_isLine [266] 60 ⟨fun hz => absurd hz (by decide), fun _ => ?_⟩⟩
    refine AJ.callF kX8_isLine c2 bX8_isNumber rfl (by decide +kernel) [] rfl rfl rfl rfl rfl rfl rfl rfl ?_
    rintro r Y (⟨hb, rfl, s2, j2, a2, rfl, w1, w2⟩ | ⟨hb, rfl, s2, j2, a2, rfl, w2⟩)
    case inr =>
      have hN := numsP_no (w := 1) (RP := s 22) (RF := s 23) (k := 0) (i := 1) (ns := upd (fun _ => 0) 0 (tkN (a 14) n p)) (nuP_f hb)
      exact ⟨rfl, rfl, AJ.run kX8_isLine [] 60 ⟨fun _ => ⟨Or.inl rfl, nxt _ _ (by omega) (Or.inl ⟨_, hA.trans hN, rfl, s2, j2, a2, rfl, w2⟩)⟩, fun hz => absurd rfl hz⟩⟩
    obtain ⟨t3, t4⟩ := nuP_t hb
    have hB := numsP_ok (k := 0) 1 (s 22) (s 23) 1 (upd (fun _ => 0) 0 (tkN (a 14) n p)) t3 t4
    exact ⟨rfl, rfl, AJ.run kX8_isLine [] 60 ⟨fun hz => absurd hz (by decide), fun _ => ⟨Or.inr rfl, nxt _ _ (by omega) (Or.inr ⟨_, _, hA.trans hB, rfl, s2, j2, a2, rfl, w2.ok rfl rfl rfl rfl⟩)⟩⟩⟩
  · obtain rfl : 2 = w := by rcases sw 2 h with z | z; exact z; exact absurd (by omega) z
    have c1 := c8_num L s a n i 0 p (fun _ => 0) 1 6 s j a (by omega) hn h200 (nsR.rf hs hp _)
    rw [Nat.add_zero, i1] at c1
    refine AJ.run kX8_isLine [] 60 ?_
    refine AJ.callF kX8_isLine c1 bX8_isNumber rfl (by decide +kernel) [] rfl rfl rfl rfl rfl rfl rfl rfl ?_
    rintro r Y (⟨hb, rfl, s1, j1, a1, rfl, u1, u2⟩ | ⟨hb, rfl, s1, j1, a1, rfl, u2⟩)
    · obtain ⟨t1, t2⟩ := nuP_t hb
      have hA := numsP_ok (k := 0) 2 (s 22) (s 23) 0 (fun _ => 0) t1 t2
      exact ⟨rfl, rfl, AJ.run kX8_isLine [] 60 ⟨Or.inr rfl, nxt _ _ (by omega) (Or.inr ⟨_, _, hA, rfl, s1, j1, a1, rfl, u2.ok rfl rfl rfl rfl⟩)⟩⟩
    · have hN := numsP_no (w := 2) (RP := s 22) (RF := s 23) (k := 0) (i := 0) (ns := fun _ => 0) (nuP_f hb)
      exact ⟨rfl, rfl, AJ.run kX8_isLine [] 60 ⟨Or.inl rfl, nxt _ _ (by omega) (Or.inl ⟨_, hN, rfl, s1, j1, a1, rfl, u2⟩)⟩⟩
  · obtain rfl : 3 = w := by rcases sw 3 h with z | z; exact z; exact absurd (by omega) z
    have c1 := c8_num L s a n i 0 p (fun _ => 0) 0 99 s j a (by omega) hn h200 (nsR.rf hs hp _)
    rw [Nat.add_zero, i1] at c1
    refine AJ.run kX8_isLine [] 60 ?_
    refine AJ.callF kX8_isLine c1 bX8_isNumber rfl (by decide +kernel) [] rfl rfl rfl rfl rfl rfl rfl rfl ?_
    rintro r Y (⟨hb, rfl, s1, j1, a1, rfl, u1, u2⟩ | ⟨hb, rfl, s1, j1, a1, rfl, u2⟩)
    · obtain ⟨t1, t2⟩ := nuP_t hb
      have hA := numsP_ok (k := 0) 3 (s 22) (s 23) 0 (fun _ => 0) t1 t2
      exact ⟨rfl, rfl, AJ.run kX8_isLine [] 60 ⟨Or.inr rfl, nxt _ _ (by omega) (Or.inr ⟨_, _, hA, rfl, s1, j1, a1, rfl, u2.ok rfl rfl rfl rfl⟩)⟩⟩
    · have hN := numsP_no (w := 3) (RP := s 22) (RF := s 23) (k := 0) (i := 0) (ns := fun _ => 0) (nuP_f hb)
      exact ⟨rfl, rfl, AJ.run kX8_isLine [] 60 ⟨Or.inl rfl, nxt _ _ (by omega) (Or.inl ⟨_, hN, rfl, s1, j1, a1, rfl, u2⟩)⟩⟩
  · obtain rfl : 4 = w := by rcases sw 4 h with z | z; exact z; exact absurd (by omega) z
    exact c8_il_tram L Q s j a n i p n0 x2 x3 hi hn h200 hs hp (fun r Y h => nxt r Y (by omega) h)
  · obtain rfl : 5 = w := by rcases sw 5 h with z | z; exact z; exact absurd (by omega) z
    refine AJ.run kX8_isLine [] 60 ?_
    refine AJ.callF kX8_isLine (c8_isFolk L s j a n i p hi hn h200 hs hp) bX8_isFolk rfl (by decide +kernel) [] rfl rfl rfl rfl rfl rfl rfl rfl ?_
    intro r Y hQ
    have nx := nxt r Y (by omega) hQ
    rcases hQ with ⟨e, h2, rfl, s', j', a', rfl, h3⟩ | ⟨ns, p', h2, rfl, s', j', a', rfl, h3⟩
    · exact ⟨rfl, rfl, AJ.run kX8_isLine [] 60 ⟨Or.inl rfl, nx⟩⟩
    · exact ⟨rfl, rfl, AJ.run kX8_isLine [] 60 ⟨Or.inr rfl, nx⟩⟩
  case refine_10 =>
    obtain rfl : 9 = w := by rcases sw 9 h with z | z; exact z; exact absurd (by omega) z
    have hN : numsP (a 14) n 9 (s 22) (s 23) (cntN 9) 0 (fun _ => 0) p = .inr (fun _ => 0, p) := rfl
    refine AJ.run kX8_isLine [] 60 ⟨Or.inr rfl, nxt _ _ (by omega) (Or.inr ⟨_, _, hN, rfl, upd s 24 0, j, a, rfl, fun x hx => pk_un (by omega), fun _ _ => rfl, fun _ _ => rfl, hs, hp, fun k hk => ?_, rfl, rfl, rfl⟩)⟩
    exact absurd hk (by rw [show cntN 9 = 0 from rfl]; omega)
  case refine_11 =>
    exfalso
    rcases (show w = 0 ∨ w = 1 ∨ w = 2 ∨ w = 3 ∨ w = 4 ∨ w = 5 ∨ w = 6 ∨ w = 7 ∨ w = 8 ∨ w = 9 by omega) with z | z | z | z | z | z | z | z | z | z <;> subst z
    · exact h0 ha
    · exact h1 ha
    · exact h2 ha
    · exact h3 ha
    · exact h4 ha
    · exact h5 ha
    · exact h6 ha
    · exact h7 ha
    · exact h8 ha
    · exact h9 ha
  all_goals
    have hw3 : 6 ≤ w ∧ w ≤ 8 := by
      first
      | exact swm 6 (by omega) h
      | exact swm 7 (by omega) h
      | exact swm 8 (by omega) h
    refine AJ.run kX8_isLine [] 60 ?_
    refine AJ.callF kX8_isLine (c8_isMood L s j a n i p w hw3 hi hn h200 hs hp) bX8_isMood rfl (by decide +kernel) [] rfl rfl rfl rfl rfl rfl rfl rfl ?_
    rintro r Y (⟨hz, rfl, rfl⟩ | ⟨hz, hQ⟩)
    · exact ⟨rfl, rfl, AJ.run kX8_isLine [] 60 ⟨Or.inl rfl, nx0 ⟨hw3.1, hw3.2, hz⟩⟩⟩
    · have nx := nxt r Y (fun z => hz z.2.2) hQ
      rcases hQ with ⟨e, h2, rfl, s', j', a', rfl, h3⟩ | ⟨ns, p', h2, rfl, s', j', a', rfl, h3⟩
      · exact ⟨rfl, rfl, AJ.run kX8_isLine [] 60 ⟨Or.inl rfl, nx⟩⟩
      · exact ⟨rfl, rfl, AJ.run kX8_isLine [] 60 ⟨Or.inr rfl, nx⟩⟩
set_option maxHeartbeats 1000000 in
theorem c8_isLine (L : xLn) (s : xN) (j : Int64) (a : Nat → xN) (n i p : Nat) (hi : i < 10) (hn : s 13 = nI n) (h200 : n ≤ 200) (hs : s 15 = nI p) (hp : p ≤ n) : CT L mX8_isLine 4 0 0 [.ref 0, .int (nI (5 * i))] (modW s j a) (liQ (a 14) n i p s a) := by
  refine CT.of rfl (Nat.le_of_ble_eq_true rfl) (Nat.le_of_ble_eq_true rfl) ?_
  refine AJ.run kX8_isLine [] 60 ?_
  refine AJ.callF kX8_isLine (c8_nextToken L s j a n p hn h200 hs hp) bX8_nextToken rfl (by decide +kernel) [] rfl rfl rfl rfl rfl rfl rfl rfl ?_
  rintro r Y ⟨rfl, s1, j1, rfl, t1, t2, t3, t4, t5⟩
  refine ⟨rfl, rfl, ?_⟩
  have hE := tkE_le (f := a 14) hp
  -- from the row on
  have at178 : ∀ (w : Nat) (x2 x3 : Int32), wdN (tkJ (a 14) n p) = w → w < 10 → AJ L mX8_isLine 4 0 0 (liQ (a 14) n i p s a) (modW s j a).length (0, 0) 178 [some (.ref 0), some (.int (nI (5 * i))), some (.int x2), some (.int x3)] [] (modW s1 j1 (va_up a 25 (upd (a 25) (5 * i) (nI w)))) := by
    intro w x2 x3 h1 h2
    have e24 := t1 24 (by omega) (by omega) (by omega) (by omega)
    refine c8_il_word L _ s1 j1 (va_up a 25 (upd (a 25) (5 * i) (nI w))) n i (tkE (a 14) n p) w _ x2 x3 hi ((t1 13 (by omega) (by omega) (by omega) (by omega)).trans hn) h200 t2 hE.2 h2 pk_us ?_ ?_
    · intro r Y h3 h4
      rw [e24] at h3
      exact li_of (a 14) n i p w s a s1 h2 h1 h3 t1 h4
    · intro h3
      rw [e24] at h3
      refine Or.inl ⟨tkS (a 14) n p, ?_, rfl, _, _, _, rfl, fun x hx => ?_, fun x hx => if_neg hx, fun x hx => pk_un (by omega), t3⟩
      · unfold lineP
        rw [h1, if_pos (Or.inr h3)]
      · rw [pk_un (by omega)]
        exact t1 x (by omega) (by omega) (by omega) (by omega)
  have non : ∀ x2 x3 : Int32, wdN (tkJ (a 14) n p) = 10 → AJ L mX8_isLine 4 0 0 (liQ (a 14) n i p s a) (modW s j a).length (0, 0) 178 [some (.ref 0), some (.int (nI (5 * i))), some (.int x2), some (.int x3)] [] (modW s1 j1 (va_up a 25 (upd (a 25) (5 * i) (-1)))) := by
    intro x2 x3 h1
    have fin : liQ (a 14) n i p s a (some (.int 0)) (modW (upd s1 20 (s1 16)) j1 (va_up a 25 (upd (a 25) (5 * i) (-1)))) := by
      refine Or.inl ⟨tkS (a 14) n p, ?_, rfl, _, _, _, rfl, fun x hx => ?_, fun x hx => if_neg hx, fun x hx => pk_un (by omega), t3⟩
      · unfold lineP
        rw [if_pos (Or.inl h1)]
      · rw [pk_un (by omega)]
        exact t1 x (by omega) (by omega) (by omega) (by omega)
    generalize liQ (a 14) n i p s a = Q at fin ⊢
    have er : upd (a 25) (5 * i) (-1) (5 * i) = -1 := pk_us
    refine AJ.run kX8_isLine [240, 246, 278, 289, 300, 360, 366, 372, 379] 60 ⟨5 * i, rfl, by omega, ?_⟩
    refine ⟨fun h => absurd (er.symm.trans h) (by decide), fun _ => ⟨fun h => absurd (er.symm.trans h) (by decide), fun _ => ⟨fun h => absurd (er.symm.trans h) (by decide), fun _ => ⟨fun h => absurd (er.symm.trans h) (by decide), fun _ => ⟨fun h => absurd (er.symm.trans h) (by decide), fun _ => ⟨fun h => absurd (er.symm.trans h) (by decide), fun _ => ⟨fun h => absurd (er.symm.trans h) (by decide), fun _ => ⟨fun h => absurd (er.symm.trans h) (by decide), fun _ => ⟨fun h => absurd (er.symm.trans h) (by decide), fun _ => ⟨fun h => absurd (er.symm.trans h) (by decide), fun _ => ?_⟩⟩⟩⟩⟩⟩⟩⟩⟩⟩
    refine AJ.run kX8_isLine [] 60 ?_
    refine AJ.callF kX8_isLine (c8_fails L s1 j1 (va_up a 25 (upd (a 25) (5 * i) (-1)))) bX8_fails rfl (by decide +kernel) [] rfl rfl rfl rfl rfl rfl rfl rfl ?_
    rintro r Y ⟨rfl, rfl⟩
    exact ⟨rfl, rfl, AJ.run kX8_isLine [] 60 ⟨Or.inl rfl, fin⟩⟩
  generalize liQ (a 14) n i p s a = Q at at178 non ⊢
  rw [← t4] at at178 non
  clear t5 t4 t3 t2 t1 hE
  -- the second half of the words: the row gets b where the first half found none
  have at80n : ¬ j1 = 355278 → ¬ j1 = 287015 → ¬ j1 = 10197082 → ¬ j1 = 119318 → ¬ j1 = 406822 → AJ L mX8_isLine 4 0 0 Q (modW s j a).length (0, 0) 80 [some (.ref 0), some (.int (nI (5 * i))), none, none] [.int (-1)] (modW s1 j1 a) := by
    intro g0 g1 g2 g3 g4
    have hw : wdN j1 = if j1 = 129368 then 5 else if j1 = 10728469 then 6 else if j1 = 126216878256 then 7 else if j1 = 82451 then 8 else if j1 = 60115 then 9 else 10 := by
      unfold wdN
      rw [if_neg g0, if_neg g1, if_neg g2, if_neg g3, if_neg g4]
    have st : ∀ w : Nat, wdN j1 = w → w < 10 → AJ L mX8_isLine 4 0 0 Q (modW s j a).length (0, 0) 161 [some (.ref 0), some (.int (nI (5 * i))), some (.int (-1)), none] [.int (nI w)] (modW s1 j1 a) := by
      intro w h1 h2
      exact AJ.run kX8_isLine [178] 60 ⟨fun hz => absurd rfl hz, fun _ => ⟨5 * i, rfl, by omega, at178 w (-1) (nI w) h1 h2⟩⟩
    have st0 : wdN j1 = 10 → AJ L mX8_isLine 4 0 0 Q (modW s j a).length (0, 0) 161 [some (.ref 0), some (.int (nI (5 * i))), some (.int (-1)), none] [.int (-1)] (modW s1 j1 a) := by
      intro h1
      exact AJ.run kX8_isLine [178] 60 ⟨fun hz => absurd rfl hz, fun _ => ⟨5 * i, rfl, by omega, non (-1) (-1) h1⟩⟩
    refine AJ.run kX8_isLine [161] 60 ⟨fun h5 => ⟨fun h6 => ⟨fun h7 => ⟨fun h8 => ⟨fun h9 => st0 ?_, fun h9 => st 9 ?_ (by omega)⟩, fun h8 => st 8 ?_ (by omega)⟩, fun h7 => st 7 ?_ (by omega)⟩, fun h6 => st 6 ?_ (by omega)⟩, fun h5 => st 5 ?_ (by omega)⟩
    all_goals simp only [lg_cmp_eq] at *
    · rw [hw, if_neg h5, if_neg h6, if_neg h7, if_neg h8, if_neg h9]
    · rw [hw, if_neg h5, if_neg h6, if_neg h7, if_neg h8, if_pos h9]
    · rw [hw, if_neg h5, if_neg h6, if_neg h7, if_pos h8]
    · rw [hw, if_neg h5, if_neg h6, if_pos h7]
    · rw [hw, if_neg h5, if_pos h6]
    · rw [hw, if_pos h5]
  have at80 : ∀ w : Nat, wdN j1 = w → w < 5 → AJ L mX8_isLine 4 0 0 Q (modW s j a).length (0, 0) 80 [some (.ref 0), some (.int (nI (5 * i))), none, none] [.int (nI w)] (modW s1 j1 a) := by
    intro w h1 h2
    have st : ∀ v : Int32, AJ L mX8_isLine 4 0 0 Q (modW s j a).length (0, 0) 161 [some (.ref 0), some (.int (nI (5 * i))), some (.int (nI w)), none] [.int v] (modW s1 j1 a) := by
      intro v
      refine AJ.run kX8_isLine [178] 60 ⟨fun _ => ⟨5 * i, rfl, by omega, at178 w (nI w) v h1 (by omega)⟩, fun hz => ?_⟩
      exfalso
      have hz : nI w = -1 := hz
      have := i32_eq.mp hz
      rw [nI_toInt (by omega)] at this
      have e : (-1 : Int32).toInt = -1 := rfl
      omega
    exact AJ.run kX8_isLine [161] 60 ⟨fun h5 => ⟨fun h6 => ⟨fun h7 => ⟨fun h8 => ⟨fun h9 => st _, fun h9 => st _⟩, fun h8 => st _⟩, fun h7 => st _⟩, fun h6 => st _⟩, fun h5 => st _⟩
  refine AJ.run kX8_isLine [80] 60 ⟨fun h0 => ⟨fun h1 => ⟨fun h2 => ⟨fun h3 => ⟨fun h4 => at80n ?_ ?_ ?_ ?_ ?_, fun h4 => at80 4 ?_ (by omega)⟩, fun h3 => at80 3 ?_ (by omega)⟩, fun h2 => at80 2 ?_ (by omega)⟩, fun h1 => at80 1 ?_ (by omega)⟩, fun h0 => at80 0 ?_ (by omega)⟩
  all_goals simp only [lg_cmp_eq] at *
  · exact h0
  · exact h1
  · exact h2
  · exact h3
  · exact h4
  · unfold wdN; rw [if_neg h0, if_neg h1, if_neg h2, if_neg h3, if_pos h4]
  · unfold wdN; rw [if_neg h0, if_neg h1, if_neg h2, if_pos h3]
  · unfold wdN; rw [if_neg h0, if_neg h1, if_pos h2]
  · unfold wdN; rw [if_neg h0, if_pos h1]
  · unfold wdN; rw [if_pos h0]
end
section
/-! ===== what the lines do ===== -/
def dlS (w : Nat) (ns s : xN) : xN := if w = 0 then upd (upd (upd (upd s 0 (ns 0)) 5 0) 7 0) 9 0 else if w = 1 then upd (upd s 1 (ns 0)) 2 (ns 1) else if w = 2 then upd s 3 (ns 0) else if w = 3 then upd s 4 (ns 0) else if w = 4 then upd s 5 (s 5 ||| 1 <<< (ns 0 &&& 31)) else if w = 5 then upd s 7 (s 7 ||| 1 <<< (ns 0 &&& 31)) else if w = 9 then upd s 9 0 else if w < 9 then upd s 9 (s 9 + 1) else s
def dlA (w : Nat) (ns s : xN) (a : Nat → xN) : Nat → xN := if w = 4 then va_up a 6 (upd (upd (upd (a 6) (3 * (ns 0).toNatClampNeg) (ns 1)) (3 * (ns 0).toNatClampNeg + 1) (ns 2)) (3 * (ns 0).toNatClampNeg + 2) (ns 3)) else if w = 5 then va_up a 8 (upd (upd (a 8) (2 * (ns 0).toNatClampNeg) (ns 1)) (2 * (ns 0).toNatClampNeg + 1) (ns 2)) else if 6 ≤ w ∧ w ≤ 8 then addP a (s 9).toNatClampNeg (ns 0) (nI w - 6) (ns 1) else a
theorem w10 {w : Nat} (h : w < 10) : w = 0 ∨ w = 1 ∨ w = 2 ∨ w = 3 ∨ w = 4 ∨ w = 5 ∨ w = 6 ∨ w = 7 ∨ w = 8 ∨ w = 9 := by omega
theorem dl_congr {w : Nat} (hw : w < 10) {ns ns' : xN} (h : ∀ k, k < cntN w → ns k = ns' k) (s : xN) (a : Nat → xN) : dlS w ns s = dlS w ns' s ∧ dlA w ns s a = dlA w ns' s a := by
  rcases w10 hw with rfl | rfl | rfl | rfl | rfl | rfl | rfl | rfl | rfl | rfl
  · have h0 := h 0 (by decide)
    constructor <;> simp [dlS, dlA, h0]
  · have h0 := h 0 (by decide)
    have h1 := h 1 (by decide)
    constructor <;> simp [dlS, dlA, h0, h1]
  · have h0 := h 0 (by decide)
    constructor <;> simp [dlS, dlA, h0]
  · have h0 := h 0 (by decide)
    constructor <;> simp [dlS, dlA, h0]
  · have h0 := h 0 (by decide)
    have h1 := h 1 (by decide)
    have h2 := h 2 (by decide)
    have h3 := h 3 (by decide)
    constructor <;> simp [dlS, dlA, h0, h1, h2, h3]
  · have h0 := h 0 (by decide)
    have h1 := h 1 (by decide)
    have h2 := h 2 (by decide)
    constructor <;> simp [dlS, dlA, h0, h1, h2]
  · have h0 := h 0 (by decide)
    have h1 := h 1 (by decide)
    constructor <;> simp [dlS, dlA, h0, h1]
  · have h0 := h 0 (by decide)
    have h1 := h 1 (by decide)
    constructor <;> simp [dlS, dlA, h0, h1]
  · have h0 := h 0 (by decide)
    have h1 := h 1 (by decide)
    constructor <;> simp [dlS, dlA, h0, h1]
  · constructor <;> simp [dlS, dlA]
theorem dlS_0 {w : Nat} (hw : w < 10) (ns s : xN) : dlS w ns s 0 = lpP w ns (s 0) ∧ dlS w ns s 7 = lfP w ns (s 7) ∧ dlS w ns s 9 = lmP w (s 9) := by
  rcases w10 hw with rfl | rfl | rfl | rfl | rfl | rfl | rfl | rfl | rfl | rfl <;> exact ⟨rfl, rfl, rfl⟩
/-- only what is told counts -/
def eqL (s : xN) (a : Nat → xN) (s' : xN) (a' : Nat → xN) : Prop := (∀ i, i < 10 → s' i = s i) ∧ a' 6 = a 6 ∧ a' 8 = a 8 ∧ a' 10 = a 10
theorem upd_lo {f g : xN} {b : Nat} (h : ∀ i, i < b → f i = g i) {k : Nat} {v w : Int32} (hv : v = w) : ∀ i, i < b → upd f k v i = upd g k w i := by
  intro i hi
  unfold upd
  split
  · exact hv
  · exact h i hi
theorem dl_eqL {w : Nat} (hw : w < 10) (ns : xN) {s s' : xN} {a a' : Nat → xN} (h : eqL s a s' a') : eqL (dlS w ns s) (dlA w ns s a) (dlS w ns s') (dlA w ns s' a') := by
  obtain ⟨h1, h6, h8, h10⟩ := h
  have e5 := h1 5 (by omega)
  have e7 := h1 7 (by omega)
  have e9 := h1 9 (by omega)
  rcases w10 hw with rfl | rfl | rfl | rfl | rfl | rfl | rfl | rfl | rfl | rfl
  · exact ⟨upd_lo (upd_lo (upd_lo (upd_lo h1 rfl) rfl) rfl) rfl, h6, h8, h10⟩
  · exact ⟨upd_lo (upd_lo h1 rfl) rfl, h6, h8, h10⟩
  · exact ⟨upd_lo h1 rfl, h6, h8, h10⟩
  · exact ⟨upd_lo h1 rfl, h6, h8, h10⟩
  · refine ⟨upd_lo h1 (by rw [e5]), ?_, h8, h10⟩
    show upd (upd (upd (a' 6) _ _) _ _) _ _ = upd (upd (upd (a 6) _ _) _ _) _ _
    rw [h6]
  · refine ⟨upd_lo h1 (by rw [e7]), h6, ?_, h10⟩
    show upd (upd (a' 8) _ _) _ _ = upd (upd (a 8) _ _) _ _
    rw [h8]
  · refine ⟨upd_lo h1 (by rw [e9]), h6, h8, ?_⟩
    show upd (upd (upd (a' 10) (3 * (s' 9).toNatClampNeg) _) _ _) _ _ = upd (upd (upd (a 10) (3 * (s 9).toNatClampNeg) _) _ _) _ _
    rw [h10, e9]
  · refine ⟨upd_lo h1 (by rw [e9]), h6, h8, ?_⟩
    show upd (upd (upd (a' 10) (3 * (s' 9).toNatClampNeg) _) _ _) _ _ = upd (upd (upd (a 10) (3 * (s 9).toNatClampNeg) _) _ _) _ _
    rw [h10, e9]
  · refine ⟨upd_lo h1 (by rw [e9]), h6, h8, ?_⟩
    show upd (upd (upd (a' 10) (3 * (s' 9).toNatClampNeg) _) _ _) _ _ = upd (upd (upd (a 10) (3 * (s 9).toNatClampNeg) _) _ _) _ _
    rw [h10, e9]
  · exact ⟨upd_lo h1 rfl, h6, h8, h10⟩
theorem cstP_congr {w i : Nat} {RP RF : Int32} {ns ns' : xN} (h : ∀ x, x < i → ns x = ns' x) (v : Int32) : cstP w i RP RF ns v = cstP w i RP RF ns' v := by
  unfold cstP
  split <;> try rfl
  split
  · rfl
  split
  · rfl
  rw [h 1 (by omega)]
theorem numsP_all {f : xN} {n w : Nat} {RP RF : Int32} : ∀ (k i : Nat) (ns : xN) (p : Nat) (ns' : xN) (p' : Nat), numsP f n w RP RF k i ns p = .inr (ns', p') → (∀ q, q < i → ns' q = ns q) ∧ (∀ q, i ≤ q → q < i + k → cstP w q RP RF ns' (ns' q) = true) ∧ (p ≤ n → p' ≤ n) := by
  intro k
  induction k with
  | zero =>
    intro i ns p ns' p' h
    rw [numsP] at h
    cases h
    exact ⟨fun _ _ => rfl, fun q h1 h2 => by omega, fun h => h⟩
  | succ k ih =>
    intro i ns p ns' p' h
    rw [numsP] at h
    split at h
    · next hc =>
      obtain ⟨h1, h2, h3⟩ := ih _ _ _ _ _ h
      refine ⟨fun q hq => (h1 q (by omega)).trans (pk_un (by omega)), fun q hq1 hq2 => ?_, fun hp => h3 (tkE_le hp).2⟩
      by_cases e : q = i
      · subst e
        have e1 : ns' q = tkN f n p := (h1 q (by omega)).trans pk_us
        rw [e1, cstP_congr (ns' := ns) (fun x hx => (h1 x (by omega)).trans (pk_un (by omega)))]
        exact hc.2
      · exact h2 q (by omega) (by omega)
    · cases h
/-- a line that may stand -/
def lnOK (w : Nat) (ns s : xN) : Prop := w < 10 ∧ (6 ≤ w ∧ w ≤ 8 → ¬ s 9 = 24) ∧ ∀ k, k < cntN w → cstP w k (s 0) (s 7) ns (ns k) = true
theorem lnOK_congr {w : Nat} {ns ns' s s' : xN} (h : lnOK w ns s) (hn : ∀ k, k < cntN w → ns' k = ns k) (hs : ∀ i, i < 10 → s' i = s i) : lnOK w ns' s' := by
  refine ⟨h.1, fun hw => by rw [hs 9 (by omega)]; exact h.2.1 hw, fun k hk => ?_⟩
  rw [hs 0 (by omega), hs 7 (by omega), hn k hk, cstP_congr (fun x hx => hn x (by omega))]
  exact h.2.2 k hk
theorem lineP_ok {f : xN} {n p : Nat} {s : xN} {w : Nat} {ns : xN} {p' : Nat} (h : lineP f n p (s 0) (s 7) (s 9) = .inr (w, ns, p')) : lnOK w ns s ∧ (p ≤ n → p' ≤ n) := by
  unfold lineP at h
  split at h
  · cases h
  next hc =>
  split at h
  · cases h
  next ns1 p1 hN =>
  cases h
  obtain ⟨h1, h2, h3⟩ := numsP_all _ _ _ _ _ _ hN
  refine ⟨⟨?_, fun hw hz => hc (Or.inr ⟨hw.1, hw.2, hz⟩), fun k hk => h2 k (by omega) (by omega)⟩, fun hp => h3 (tkE_le hp).2⟩
  have : wdN (tkJ f n p) ≤ 10 := by
    unfold wdN
    split <;> first | omega | (split <;> first | omega | (split <;> first | omega | (split <;> first | omega | (split <;> first | omega | (split <;> first | omega | (split <;> first | omega | (split <;> first | omega | (split <;> first | omega | (split <;> omega)))))))))
  have : ¬ wdN (tkJ f n p) = 10 := fun z => hc (Or.inl z)
  omega
/-- the lines from p on: a fault's place, or how many, and what is told then -/
def rdL (f : xN) (n : Nat) : Nat → Nat → Nat → xN → (Nat → xN) → Nat ⊕ (Nat × xN × (Nat → xN))
  | 0, _, _, _, _ => .inl 0
  | k + 1, i, p, s, a => match lineP f n p (s 0) (s 7) (s 9) with
    | .inl e => .inl e
    | .inr (w, ns, p') => if tkJ f n p' = -3 ∧ i + 1 < 10 then rdL f n k (i + 1) (tkE f n p') (dlS w ns s) (dlA w ns s a) else if tkJ f n p' = -2 then .inr (i + 1, dlS w ns s, dlA w ns s a) else .inl (tkS f n p')
/-- the lines as the reference keeps them -/
def dlR (rd : xN) (s : xN) (a : Nat → xN) : Nat → xN × (Nat → xN)
  | 0 => (s, a)
  | i + 1 => (dlS (rd (5 * i)).toNatClampNeg (fun k => rd (5 * i + 1 + k)) (dlR rd s a i).1, dlA (rd (5 * i)).toNatClampNeg (fun k => rd (5 * i + 1 + k)) (dlR rd s a i).1 (dlR rd s a i).2)
/-- each kept line may stand where it stands -/
def rdOK (rd : xN) (s : xN) (a : Nat → xN) (l : Nat) : Prop := ∀ i, i < l → (∃ w, w < 10 ∧ rd (5 * i) = nI w) ∧ lnOK (rd (5 * i)).toNatClampNeg (fun k => rd (5 * i + 1 + k)) (dlR rd s a i).1
theorem cntN_le (w : Nat) : cntN w ≤ 4 := by
  unfold cntN
  split <;> omega
theorem dlR_congr {rd rd' : xN} (s : xN) (a : Nat → xN) : ∀ l, rdOK rd s a l → (∀ x, x < 5 * l → rd' x = rd x) → dlR rd' s a l = dlR rd s a l
  | 0, _, _ => rfl
  | l + 1, h, e => by
    have ih := dlR_congr s a l (fun i hi => h i (by omega)) (fun x hx => e x (by omega))
    obtain ⟨-, h2, h3, h4⟩ := h l (by omega)
    have hc := cntN_le (rd (5 * l)).toNatClampNeg
    have hd := dl_congr h2 (ns := fun k => rd' (5 * l + 1 + k)) (ns' := fun k => rd (5 * l + 1 + k)) (fun k hk => e _ (by omega)) (dlR rd s a l).1 (dlR rd s a l).2
    rw [dlR, dlR, ih, e (5 * l) (by omega), hd.1, hd.2]
theorem rdOK_congr {rd rd' : xN} {s : xN} {a : Nat → xN} {l : Nat} (h : rdOK rd s a l) (e : ∀ x, x < 5 * l → rd' x = rd x) : rdOK rd' s a l := by
  intro i hi
  obtain ⟨h1, h2⟩ := h i hi
  have hd := dlR_congr (rd' := rd') s a i (fun k hk => h k (by omega)) (fun x hx => e x (by omega))
  rw [e (5 * i) (by omega), hd]
  have hc := cntN_le (rd (5 * i)).toNatClampNeg
  exact ⟨h1, lnOK_congr h2 (fun k hk => e _ (by omega)) (fun _ _ => rfl)⟩
end
section
/-! ===== the reference: the whole text ===== -/
def rdQ (f : xN) (n : Nat) (s : xN) (a : Nat → xN) : Option Value → List xE → Prop := fun r Y => (∃ e, rdL f n 10 0 0 s a = .inl e ∧ r = some (.int 0) ∧ ∃ s' j' a', Y = modW s' j' a' ∧ (∀ x, x < 15 → s' x = s x) ∧ (∀ x, x ≠ 25 → a' x = a x) ∧ s' 20 = nI e) ∨ (∃ l S A, rdL f n 10 0 0 s a = .inr (l, S, A) ∧ r = some (.int 1) ∧ ∃ s' j' a', Y = modW s' j' a' ∧ (∀ x, x < 15 → s' x = s x) ∧ (∀ x, x ≠ 25 → a' x = a x) ∧ s' 21 = nI l ∧ l ≤ 10 ∧ rdOK (a' 25) s a l ∧ dlR (a' 25) s a l = (S, A))
/-- how it stands ahead of line i, from p on -/
def rdI (f : xN) (n k i p : Nat) (s : xN) (a : Nat → xN) (s1 : xN) (a1 : Nat → xN) : Prop := (∀ x, x < 15 → s1 x = s x) ∧ (∀ x, x ≠ 25 → a1 x = a x) ∧ s1 15 = nI p ∧ p ≤ n ∧ s1 21 = nI i ∧ rdOK (a1 25) s a i ∧ s1 22 = (dlR (a1 25) s a i).1 0 ∧ s1 23 = (dlR (a1 25) s a i).1 7 ∧ s1 24 = (dlR (a1 25) s a i).1 9 ∧ rdL f n 10 0 0 s a = rdL f n k i p (dlR (a1 25) s a i).1 (dlR (a1 25) s a i).2
/-- one line more: what is told then -/
theorem rd_step {n i w p' : Nat} {ns s : xN} {a : Nat → xN} {s1 s2 : xN} {a1 a2 : Nat → xN} (hO : rdOK (a1 25) s a i) (h : okL n i w s1 a1 s2 a2 ns p') (hl : lnOK w ns (dlR (a1 25) s a i).1) : rdOK (a2 25) s a (i + 1) ∧ dlR (a2 25) s a (i + 1) = (dlS w ns (dlR (a1 25) s a i).1, dlA w ns (dlR (a1 25) s a i).1 (dlR (a1 25) s a i).2) := by
  obtain ⟨k1, k2, k3, k4, k5, k6, k7, -⟩ := h
  have hd := dlR_congr (rd' := a2 25) s a i hO k3
  have hO2 := rdOK_congr hO k3
  have ew : (a2 25 (5 * i)).toNatClampNeg = w := by rw [k4, nI_clamp (by have := hl.1; omega)]
  refine ⟨fun q hq => ?_, ?_⟩
  · by_cases e : q = i
    · subst e
      refine ⟨⟨w, hl.1, k4⟩, ?_⟩
      rw [ew, hd]
      exact lnOK_congr hl k7 (fun _ _ => rfl)
    · exact hO2 q (by omega)
  · have hc := dl_congr hl.1 (ns := fun k => a2 25 (5 * i + 1 + k)) (ns' := ns) k7 (dlR (a1 25) s a i).1 (dlR (a1 25) s a i).2
    rw [dlR, ew, hd, hc.1, hc.2]
theorem rdL_er {f : xN} {n k i p : Nat} {s : xN} {a : Nat → xN} {e : Nat} (hl : lineP f n p (s 0) (s 7) (s 9) = .inl e) : rdL f n (k + 1) i p s a = .inl e := by
  rw [rdL, hl]
theorem rdL_go {f : xN} {n k i p : Nat} {s : xN} {a : Nat → xN} {w : Nat} {ns : xN} {p' : Nat} (hl : lineP f n p (s 0) (s 7) (s 9) = .inr (w, ns, p')) : rdL f n (k + 1) i p s a = if tkJ f n p' = -3 ∧ i + 1 < 10 then rdL f n k (i + 1) (tkE f n p') (dlS w ns s) (dlA w ns s a) else if tkJ f n p' = -2 then .inr (i + 1, dlS w ns s, dlA w ns s a) else .inl (tkS f n p') := by
  rw [rdL, hl]
set_option maxHeartbeats 1000000 in
theorem c8_isRead_loop (L : xLn) (Q : Option Value → List xE → Prop) (s : xN) (a : Nat → xN) (n n0 : Nat) (hn : s 13 = nI n) (h200 : n ≤ 200) (nxt : ∀ r Y, rdQ (a 14) n s a r Y → Q r Y) :
    ∀ (k i p : Nat) (s1 : xN) (j1 : Int64) (a1 : Nat → xN), k + i = 10 → i < 10 → rdI (a 14) n k i p s a s1 a1 → AJ L mX8_isRead 5 0 0 Q n0 (0, 0) 36 [some (.ref 0), some (.int 1)] [] (modW s1 j1 a1) := by
  intro k
  induction k with
  | zero => intro i p s1 j1 a1 h1 h2; omega
  | succ k ih =>
    intro i p s1 j1 a1 hki hi hI
    obtain ⟨f1, f2, f3, f4, f5, f6, f7, f8, f9, f10⟩ := hI
    have c := c8_isLine L s1 j1 a1 n i p hi ((f1 13 (by omega)).trans hn) h200 f3 f4
    rw [show nI (5 * i) = 5 * s1 21 by rw [f5]; exact (pk_mul 5 i).symm] at c
    refine AJ.run kX8_isRead [47] 60 ⟨fun hz => absurd hz (by decide), fun _ => ?_⟩
    refine AJ.callF kX8_isRead c bX8_isLine rfl (by decide +kernel) [] rfl rfl rfl rfl rfl rfl rfl rfl ?_
    unfold liQ
    rw [f2 14 (by omega), f7, f8, f9]
    rintro r Y (⟨e, hl, rfl, s2, j2, a2, rfl, g1, g2, g3, g4⟩ | ⟨w, ns, p', hl, hw, rfl, s2, j2, a2, rfl, hok⟩)
    · have fin := nxt (some (.int 0)) (modW s2 j2 a2) (Or.inl ⟨e, f10.trans (rdL_er hl), rfl, s2, j2, a2, rfl, fun x hx => (g1 x (by omega)).trans (f1 x hx), fun x hx => (g2 x hx).trans (f2 x hx), g4⟩)
      exact ⟨rfl, rfl, AJ.run kX8_isRead [] 60 ⟨fun hz => absurd rfl hz, fun _ => ⟨Or.inl rfl, fin⟩⟩⟩
    obtain ⟨hlo, hpp⟩ := lineP_ok hl
    have hp' := hpp f4
    obtain ⟨o1, o2⟩ := rd_step f6 hok hlo
    have hS0 := dlS_0 hlo.1 ns (dlR (a1 25) s a i).1
    obtain ⟨k1, k2, k3, k4, k5, k6, k7, k8, k9, k10⟩ := hok
    have f10 := f10.trans (rdL_go hl)
    have f10 : rdL (a 14) n 10 0 0 s a = if tkJ (a 14) n p' = -3 ∧ i + 1 < 10 then rdL (a 14) n k (i + 1) (tkE (a 14) n p') (dlR (a2 25) s a (i + 1)).1 (dlR (a2 25) s a (i + 1)).2 else if tkJ (a 14) n p' = -2 then .inr (i + 1, (dlR (a2 25) s a (i + 1)).1, (dlR (a2 25) s a (i + 1)).2) else .inl (tkS (a 14) n p') := by rw [f10, o2]
    rw [f7] at k8
    rw [f8] at k9
    rw [f9] at k10
    rw [← hS0.1, show dlS w ns (dlR (a1 25) s a i).1 = (dlR (a2 25) s a (i + 1)).1 by rw [o2]] at k8
    rw [← hS0.2.1, show dlS w ns (dlR (a1 25) s a i).1 = (dlR (a2 25) s a (i + 1)).1 by rw [o2]] at k9
    rw [← hS0.2.2, show dlS w ns (dlR (a1 25) s a i).1 = (dlR (a2 25) s a (i + 1)).1 by rw [o2]] at k10
    have a14 : a2 14 = a 14 := (k2 14 (by omega)).trans (f2 14 (by omega))
    have s13 : s2 13 = nI n := (k1 13 (by omega)).trans ((f1 13 (by omega)).trans hn)
    have s21 : s2 21 + 1 = nI (i + 1) := by rw [k1 21 (by omega), f5, nI_1]
    have c2 := c8_nextToken L (upd s2 21 (s2 21 + 1)) j2 a2 n p' s13 h200 k5 k6
    refine ⟨rfl, rfl, AJ.run kX8_isRead [66] 60 ⟨fun _ => ?_, fun hz => absurd hz (by decide)⟩⟩
    refine AJ.callF kX8_isRead c2 bX8_nextToken rfl (by decide +kernel) [] rfl rfl rfl rfl rfl rfl rfl rfl ?_
    rw [a14]
    rintro r Y ⟨rfl, s3, j3, rfl, t1, t2, t3, t4, t5⟩
    have F1 : ∀ x, x < 15 → s3 x = s x := fun x hx => (t1 x (by omega) (by omega) (by omega) (by omega)).trans ((pk_un (by omega)).trans ((k1 x (by omega)).trans (f1 x hx)))
    have F2 : ∀ x, x ≠ 25 → a2 x = a x := fun x hx => (k2 x hx).trans (f2 x hx)
    have e21 : s3 21 = nI (i + 1) := (t1 21 (by omega) (by omega) (by omega) (by omega)).trans (pk_us.trans s21)
    have e22 := (t1 22 (by omega) (by omega) (by omega) (by omega)).trans ((pk_un (by omega)).trans k8)
    have e23 := (t1 23 (by omega) (by omega) (by omega) (by omega)).trans ((pk_un (by omega)).trans k9)
    have e24 := (t1 24 (by omega) (by omega) (by omega) (by omega)).trans ((pk_un (by omega)).trans k10)
    have hE := tkE_le (f := a 14) hp'
    rw [← t4] at f10
    clear t1 t5 k1 k2 k3 k4 k5 k6 k7 k8 k9 k10 c c2 hS0
    -- the text's end, or what stands behind the last line
    have at93 : ¬ (j3 = -3 ∧ i + 1 < 10) → AJ L mX8_isRead 5 0 0 Q n0 (0, 0) 93 [some (.ref 0), some (.int 1)] [] (modW s3 j3 a2) := by
      intro hc
      rw [if_neg hc] at f10
      refine AJ.run kX8_isRead [] 60 ⟨fun _ => ⟨fun h2 => ⟨Or.inr rfl, ?_⟩, fun h2 => ?_⟩, fun hz => absurd rfl hz⟩
      · rw [lg_cmp_eq] at h2
        rw [if_pos h2] at f10
        exact nxt _ _ (Or.inr ⟨i + 1, _, _, f10, rfl, s3, j3, a2, rfl, F1, F2, e21, by omega, o1, rfl⟩)
      · rw [lg_cmp_eq] at h2
        rw [if_neg h2] at f10
        refine AJ.callF kX8_isRead (c8_fails L s3 j3 a2) bX8_fails rfl (by decide +kernel) [] rfl rfl rfl rfl rfl rfl rfl rfl ?_
        rintro r Y ⟨rfl, rfl⟩
        have fin := nxt _ _ (Or.inl ⟨_, f10, rfl, upd s3 20 (s3 16), j3, a2, rfl, fun x hx => (pk_un (by omega)).trans (F1 x hx), F2, t3⟩)
        exact ⟨rfl, rfl, AJ.run kX8_isRead [] 60 ⟨fun _ => ⟨Or.inl rfl, fin⟩, fun hz => absurd rfl hz⟩⟩
    refine ⟨rfl, rfl, AJ.run kX8_isRead [36, 93] 60 ⟨fun h2 => at93 ?_, fun h2 => ⟨fun h3 => at93 ?_, fun h3 => ?_⟩⟩⟩
    · rw [lg_cmp_eq] at h2
      exact fun z => h2 z.1
    · have h3 : nI 10 ≤ s3 21 := h3
      rw [e21, nI_leI (by omega) (by omega)] at h3
      omega
    · rw [lg_cmp_eq] at h2
      have h3 : ¬ nI 10 ≤ s3 21 := h3
      rw [e21, nI_leI (by omega) (by omega)] at h3
      rw [if_pos ⟨h2, by omega⟩] at f10
      exact ih (i + 1) (tkE (a 14) n p') s3 j3 a2 (by omega) (by omega) ⟨F1, F2, t2, hE.2, e21, o1, e22, e23, e24, f10⟩
theorem c8_isRead (L : xLn) (s : xN) (j : Int64) (a : Nat → xN) (n : Nat) (hn : s 13 = nI n) (h200 : n ≤ 200) : CT L mX8_isRead 5 0 0 [.ref 0] (modW s j a) (rdQ (a 14) n s a) := by
  refine CT.of rfl (Nat.le_of_ble_eq_true rfl) (Nat.le_of_ble_eq_true rfl) ?_
  have nxt : ∀ r Y, rdQ (a 14) n s a r Y → rdQ (a 14) n s a r Y := fun _ _ h => h
  have key := c8_isRead_loop L (rdQ (a 14) n s a) s a n (modW s j a).length hn h200 nxt 10 0 0 (upd (upd (upd (upd (upd s 15 0) 21 0) 22 (s 0)) 23 (s 7)) 24 (s 9)) j a rfl (by omega) ⟨fun x hx => by rw [pk_un (by omega), pk_un (by omega), pk_un (by omega), pk_un (by omega), pk_un (by omega)], fun _ _ => rfl, rfl, by omega, rfl, fun i hi => by omega, rfl, rfl, rfl, rfl⟩
  generalize rdQ (a 14) n s a = Q at key ⊢
  exact AJ.run kX8_isRead [36] 60 key
def fauP (f : xN) (n : Nat) (s : xN) (a : Nat → xN) : Int32 := match rdL f n 10 0 0 s a with
  | .inl e => nI e
  | .inr _ => -1
theorem c8_fault (L : xLn) (s : xN) (j : Int64) (a : Nat → xN) (n m : Nat) (hn : s 13 = nI n) (h200 : n ≤ 200) : CT L mX8_fault 6 0 0 [.ref 0] (modW s j a) (kpQ m s a (fauP (a 14) n s a)) := by
  refine CT.of rfl (Nat.le_of_ble_eq_true rfl) (Nat.le_of_ble_eq_true rfl) ?_
  refine AJ.run kX8_fault [] 60 ?_
  have kept : ∀ s' a', (∀ x, x < 15 → s' x = s x) → (∀ x, x ≠ 25 → a' x = a x) → keptM m s a s' a' := fun s' a' h1 h2 => ⟨h1, ⟨h2 6 (by omega), h2 8 (by omega), h2 12 (by omega), h2 14 (by omega), h2 28 (by omega), h2 29 (by omega)⟩, fun i hi => by rw [h2 10 (by omega)], fun i hi => by rw [h2 26 (by omega)]⟩
  refine AJ.callF kX8_fault (c8_isRead L s j a n hn h200) bX8_isRead rfl (by decide +kernel) [] rfl rfl rfl rfl rfl rfl rfl rfl ?_
  rintro r Y (⟨e, hl, rfl, s2, j2, a2, rfl, g1, g2, g3⟩ | ⟨l, S, A, hl, rfl, s2, j2, a2, rfl, g1, g2, -⟩)
  · have fin : kpQ m s a (fauP (a 14) n s a) (some (.int (s2 20))) (modW s2 j2 a2) := ⟨by rw [g3, fauP, hl], s2, j2, a2, rfl, kept _ _ g1 g2⟩
    generalize kpQ m s a (fauP (a 14) n s a) = Q at fin ⊢
    exact ⟨rfl, rfl, AJ.run kX8_fault [] 60 ⟨fun _ => fin, fun hz => absurd rfl hz⟩⟩
  · have fin : kpQ m s a (fauP (a 14) n s a) (some (.int (-1))) (modW s2 j2 a2) := ⟨by rw [fauP, hl], s2, j2, a2, rfl, kept _ _ g1 g2⟩
    generalize kpQ m s a (fauP (a 14) n s a) = Q at fin ⊢
    exact ⟨rfl, rfl, AJ.run kX8_fault [] 60 ⟨fun hz => absurd hz (by decide), fun _ => fin⟩⟩
end
section
/-! ===== the reference: a line is done ===== -/
/-- this answer, this world -/
def eqQ (r0 : Option Value) (Y0 : List xE) : Option Value → List xE → Prop := fun r Y => r = r0 ∧ Y = Y0
theorem dlS_w0 (ns s : xN) : dlS 0 ns s = upd (upd (upd (upd s 0 (ns 0)) 5 0) 7 0) 9 0 := by simp [dlS]
theorem dlS_w1 (ns s : xN) : dlS 1 ns s = upd (upd s 1 (ns 0)) 2 (ns 1) := by simp [dlS]
theorem dlS_w2 (ns s : xN) : dlS 2 ns s = upd s 3 (ns 0) := by simp [dlS]
theorem dlS_w3 (ns s : xN) : dlS 3 ns s = upd s 4 (ns 0) := by simp [dlS]
theorem dlS_w4 (ns s : xN) : dlS 4 ns s = upd s 5 (s 5 ||| 1 <<< (ns 0 &&& 31)) := by simp [dlS]
theorem dlS_w5 (ns s : xN) : dlS 5 ns s = upd s 7 (s 7 ||| 1 <<< (ns 0 &&& 31)) := by simp [dlS]
theorem dlS_w9 (ns s : xN) : dlS 9 ns s = upd s 9 0 := by simp [dlS]
theorem dlS_wm {w : Nat} (h : 6 ≤ w ∧ w ≤ 8) (ns s : xN) : dlS w ns s = upd s 9 (s 9 + 1) := by
  unfold dlS
  rw [if_neg (by omega), if_neg (by omega), if_neg (by omega), if_neg (by omega), if_neg (by omega), if_neg (by omega), if_neg (by omega), if_pos (by omega)]
theorem dlA_w {w : Nat} (h : w < 4 ∨ w = 9) (ns s : xN) (a : Nat → xN) : dlA w ns s a = a := by
  unfold dlA
  rw [if_neg (by omega), if_neg (by omega), if_neg (by omega)]
theorem dlA_w4 (ns s : xN) (a : Nat → xN) : dlA 4 ns s a = va_up a 6 (upd (upd (upd (a 6) (3 * (ns 0).toNatClampNeg) (ns 1)) (3 * (ns 0).toNatClampNeg + 1) (ns 2)) (3 * (ns 0).toNatClampNeg + 2) (ns 3)) := by simp [dlA]
theorem dlA_w5 (ns s : xN) (a : Nat → xN) : dlA 5 ns s a = va_up a 8 (upd (upd (a 8) (2 * (ns 0).toNatClampNeg) (ns 1)) (2 * (ns 0).toNatClampNeg + 1) (ns 2)) := by simp [dlA]
theorem dlA_wm {w : Nat} (h : 6 ≤ w ∧ w ≤ 8) (ns s : xN) (a : Nat → xN) : dlA w ns s a = addP a (s 9).toNatClampNeg (ns 0) (nI w - 6) (ns 1) := by
  unfold dlA
  rw [if_neg (by omega), if_neg (by omega), if_pos h]
set_option maxHeartbeats 1000000 in
theorem c8_doLine (L : xLn) (s : xN) (j : Int64) (a : Nat → xN) (i w m : Nat) (ns : xN) (hi : i < 10) (hm : s 9 = nI m) (hm2 : m ≤ 24) (ha : a 25 (5 * i) = nI w) (hns : ∀ k, a 25 (5 * i + 1 + k) = ns k) (hl : lnOK w ns s) : CT L mX8_doLine 1 0 0 [.ref 0, .int (nI (5 * i))] (modW s j a) (eqQ none (modW (dlS w ns s) j (dlA w ns s a))) := by
  refine CT.of rfl (Nat.le_of_ble_eq_true rfl) (Nat.le_of_ble_eq_true rfl) ?_
  have nxt : eqQ none (modW (dlS w ns s) j (dlA w ns s a)) none (modW (dlS w ns s) j (dlA w ns s a)) := ⟨rfl, rfl⟩
  generalize eqQ none (modW (dlS w ns s) j (dlA w ns s a)) = Q at nxt ⊢
  obtain ⟨hw, hl2, hl3⟩ := hl
  have i1 : nI (5 * i) + 1 = nI (5 * i + 1) := nI_1 _
  have i2 : nI (5 * i) + 2 = nI (5 * i + 2) := nI_add _ 2
  have i3 : nI (5 * i) + 3 = nI (5 * i + 3) := nI_add _ 3
  have q0 : a 25 (5 * i + 1) = ns 0 := hns 0
  have q1 : a 25 (5 * i + 2) = ns 1 := hns 1
  have q2 : a 25 (5 * i + 3) = ns 2 := hns 2
  have q3 : a 25 (5 * i + 4) = ns 3 := hns 3
  have sw : ∀ k, a 25 (5 * i) = nI k → k < 10 → k = w := by
    intro k hk h
    rw [ha, nI_eq (by omega) (by omega)] at hk
    exact hk.symm
  refine AJ.run kX8_doLine [80, 103, 116, 124, 132, 184, 226, 234] 60 ⟨5 * i + 1, i1, by omega, 5 * i + 2, i2, by omega, 5 * i, rfl, by omega, ?_⟩
  rw [q0, q1]
  refine ⟨fun h => ?_, fun h0 => ⟨fun h => ?_, fun h1 => ⟨fun h => ?_, fun h2 => ⟨fun h => ?_, fun h3 => ⟨fun h => ?_, fun h4 => ⟨fun h => ?_, fun h5 => ⟨fun h => ?_, fun h6 => ⟨fun h => ?_, fun h7 => ⟨fun h => ?_, fun h8 => ⟨fun h => ?_, fun h9 => ?_⟩⟩⟩⟩⟩⟩⟩⟩⟩⟩
  · obtain rfl := sw 0 h (by omega)
    rw [dlS_w0, dlA_w (by omega)] at nxt
    exact AJ.run kX8_doLine [] 60 nxt
  · obtain rfl := sw 1 h (by omega)
    rw [dlS_w1, dlA_w (by omega)] at nxt
    exact AJ.run kX8_doLine [] 60 nxt
  · obtain rfl := sw 2 h (by omega)
    rw [dlS_w2, dlA_w (by omega)] at nxt
    exact AJ.run kX8_doLine [] 60 nxt
  · obtain rfl := sw 3 h (by omega)
    rw [dlS_w3, dlA_w (by omega)] at nxt
    exact AJ.run kX8_doLine [] 60 nxt
  · obtain rfl := sw 4 h (by omega)
    obtain ⟨v, hv, ev⟩ := inP_nI (n := 1) (by omega) (hl3 0 (by decide))
    rw [dlS_w4, dlA_w4, ev, nI_clamp (by omega), ← q1, ← q2, ← q3] at nxt
    rw [ev]
    have j0 : 3 * nI v + 0 = nI (3 * v) := by rw [show (3 : Int32) = nI 3 from rfl, pk_mul]; exact nI_add _ 0
    have j1 : 3 * nI v + (0 + 1) = nI (3 * v + 1) := by rw [show (3 : Int32) = nI 3 from rfl, pk_mul]; exact nI_add _ 1
    have j2 : 3 * nI v + (0 + 1 + 1) = nI (3 * v + 2) := by rw [show (3 : Int32) = nI 3 from rfl, pk_mul]; exact nI_add _ 2
    have l0 : nI (5 * i) + 2 + 0 = nI (5 * i + 2) := by rw [i2]; exact nI_add _ 0
    have l1 : nI (5 * i) + 2 + (0 + 1) = nI (5 * i + 3) := by rw [i2]; exact nI_add _ 1
    have l2 : nI (5 * i) + 2 + (0 + 1 + 1) = nI (5 * i + 4) := by rw [i2]; exact nI_add _ 2
    exact AJ.run kX8_doLine [] 150 ⟨fun hz => absurd hz (by decide), fun _ => ⟨5 * i + 2, l0, by omega, 3 * v, j0, by omega, fun hz => absurd hz (by decide), fun _ => ⟨5 * i + 3, l1, by omega, 3 * v + 1, j1, by omega, fun hz => absurd hz (by decide), fun _ => ⟨5 * i + 4, l2, by omega, 3 * v + 2, j2, by omega, fun _ => nxt, fun hz => absurd (by decide) hz⟩⟩⟩⟩
  · obtain rfl := sw 5 h (by omega)
    obtain ⟨v, hv, ev⟩ := inP_nI (n := 7) (by omega) (hl3 0 (by decide))
    rw [dlS_w5, dlA_w5, ev, nI_clamp (by omega), ← q2] at nxt
    rw [ev]
    have j0 : 2 * nI v = nI (2 * v) := by rw [show (2 : Int32) = nI 2 from rfl, pk_mul]
    have j1 : 2 * nI v + 1 = nI (2 * v + 1) := by rw [j0, nI_1]
    exact AJ.run kX8_doLine [] 150 ⟨2 * v, j0, by omega, 5 * i + 3, i3, by omega, 2 * v + 1, j1, by omega, nxt⟩
  case refine_10 =>
    obtain rfl := sw 9 h (by omega)
    rw [dlS_w9, dlA_w (by omega)] at nxt
    exact AJ.run kX8_doLine [] 60 nxt
  case refine_11 =>
    exfalso
    rcases w10 hw with z | z | z | z | z | z | z | z | z | z <;> subst z
    · exact h0 ha
    · exact h1 ha
    · exact h2 ha
    · exact h3 ha
    · exact h4 ha
    · exact h5 ha
    · exact h6 ha
    · exact h7 ha
    · exact h8 ha
    · exact h9 ha
  all_goals
    have hw3 : 6 ≤ w ∧ w ≤ 8 := by
      first
      | exact ⟨by rw [← sw 6 h (by omega)]; omega, by rw [← sw 6 h (by omega)]; omega⟩
      | exact ⟨by rw [← sw 7 h (by omega)]; omega, by rw [← sw 7 h (by omega)]; omega⟩
      | exact ⟨by rw [← sw 8 h (by omega)]; omega, by rw [← sw 8 h (by omega)]; omega⟩
    have hm24 : m < 24 := by
      have h24 := hl2 hw3
      rw [hm] at h24
      rcases Nat.lt_or_ge m 24 with z | z
      · exact z
      · exact absurd (by rw [show m = 24 by omega]; rfl) h24
    rw [dlS_wm hw3, dlA_wm hw3, hm, nI_clamp (by omega), ← hm, ← ha] at nxt
    refine AJ.run kX8_doLine [246] 60 ⟨5 * i, rfl, by omega, ?_⟩
    refine AJ.callF kX8_doLine (c8_addMood L s j a (ns 0) (a 25 (5 * i) - 6) (ns 1) m hm (by omega)) bX8_addMood rfl (by decide +kernel) [] rfl rfl rfl rfl rfl rfl rfl rfl ?_
    rintro r Y ⟨rfl, rfl⟩
    exact ⟨rfl, rfl, AJ.run kX8_doLine [] 60 nxt⟩
end
section
/-! ===== sets by bits ===== -/
theorem nI_31 {q : Nat} (h : q < 32) : nI q &&& 31 = nI q := by
  have := pk_andN (n := q) (by omega) (m := 31) 5 rfl
  rw [this]
  congr 1
  omega
theorem nI_smod {q : Nat} (h : q < 32) : ((nI q).toBitVec.smod 32).toNat = q := by
  have key : ∀ q : Fin 32, ((nI q.val).toBitVec.smod 32).toNat = q.val := by decide
  exact key ⟨q, h⟩
theorem bv1 (v : BitVec 32) : (v &&& 1#32 = 1#32) ↔ v.getLsbD 0 = true := by
  constructor
  · intro h
    have := congrArg (fun b : BitVec 32 => b.getLsbD 0) h
    simpa using this
  · intro h
    apply BitVec.eq_of_getLsbD_eq
    intro i hi
    rw [BitVec.getLsbD_and]
    by_cases e : i = 0
    · subst e; simp [h]
    · have : (1#32).getLsbD i = false := by
        rw [BitVec.getLsbD_one]
        simp [e]
      rw [this]; simp
theorem hasP_bit (x : Int32) {q : Nat} (h : q < 32) : hasP x (nI q) = x.toBitVec.getLsbD q := by
  unfold hasP
  rw [nI_31 h]
  have e : (x >>> nI q &&& 1 = 1) ↔ x.toBitVec.getLsbD q = true := by
    rw [← Int32.toBitVec_inj, Int32.toBitVec_and, show (1 : Int32).toBitVec = 1#32 from rfl, bv1, Int32.toBitVec_shiftRight, BitVec.sshiftRight_eq', nI_smod h, BitVec.getLsbD_sshiftRight]
    simp [h]
  by_cases hb : x.toBitVec.getLsbD q = true
  · rw [hb, decide_eq_true (e.mpr hb)]
  · rw [decide_eq_false (fun z => hb (e.mp z))]
    cases hc : x.toBitVec.getLsbD q
    · rfl
    · exact absurd hc hb
theorem one_bit {v q : Nat} (hv : v < 32) (hq : q < 32) : hasP (1 <<< (nI v &&& 31)) (nI q) = decide (q = v) := by
  rw [hasP_bit _ hq, nI_31 hv, Int32.toBitVec_shiftLeft, BitVec.shiftLeft_eq', nI_smod hv, BitVec.getLsbD_shiftLeft, show (1 : Int32).toBitVec = 1#32 from rfl, BitVec.getLsbD_one]
  by_cases e : q = v
  · subst e; simp [hq]
  · simp only [decide_eq_false e]
    by_cases h : q < v
    · simp [h]
    · have : ¬ q - v = 0 := by omega
      simp [this]
theorem or_bit (x y : Int32) {q : Nat} (hq : q < 32) : hasP (x ||| y) (nI q) = (hasP x (nI q) || hasP y (nI q)) := by
  rw [hasP_bit _ hq, hasP_bit _ hq, hasP_bit _ hq, Int32.toBitVec_or, BitVec.getLsbD_or]
theorem and_bit (x y : Int32) {q : Nat} (hq : q < 32) : hasP (x &&& y) (nI q) = (hasP x (nI q) && hasP y (nI q)) := by
  rw [hasP_bit _ hq, hasP_bit _ hq, hasP_bit _ hq, Int32.toBitVec_and, BitVec.getLsbD_and]
theorem not_bit (x : Int32) {q : Nat} (hq : q < 32) : hasP (x ^^^ -1) (nI q) = !hasP x (nI q) := by
  rw [hasP_bit _ hq, hasP_bit _ hq, Int32.toBitVec_xor, BitVec.getLsbD_xor, show (-1 : Int32).toBitVec = BitVec.allOnes 32 from rfl, BitVec.getLsbD_allOnes]
  simp [hq]
theorem zero_bit {q : Nat} (hq : q < 32) : hasP 0 (nI q) = false := by
  rw [hasP_bit _ hq, show (0 : Int32).toBitVec = 0#32 from rfl]
  simp
theorem bit_ext {x y : Int32} (h : ∀ q, q < 32 → hasP x (nI q) = hasP y (nI q)) : x = y := by
  rw [← Int32.toBitVec_inj]
  apply BitVec.eq_of_getLsbD_eq
  intro q hq
  rw [← hasP_bit _ hq, ← hasP_bit _ hq]
  exact h q hq
theorem set_bit (x : Int32) {v q : Nat} (hv : v < 32) (hq : q < 32) : hasP (x ||| 1 <<< (nI v &&& 31)) (nI q) = (hasP x (nI q) || decide (q = v)) := by
  rw [or_bit _ _ hq, one_bit hv hq]
theorem clr_bit (x : Int32) {v q : Nat} (hv : v < 32) (hq : q < 32) : hasP (x &&& (1 <<< (nI v &&& 31) ^^^ -1)) (nI q) = (hasP x (nI q) && !decide (q = v)) := by
  rw [and_bit _ _ hq, not_bit _ hq, one_bit hv hq]
/-- the bit as it is asked for -/
theorem hasP_iff (x k : Int32) : x >>> (k &&& 31) &&& 1 = 1 ↔ hasP x k = true := by simp [hasP]
theorem hasP_val (x : Int32) {q : Nat} (hq : q < 32) : x >>> (nI q &&& 31) &&& 1 = bI (hasP x (nI q)) := by
  rw [hasP_bit x hq, nI_31 hq]
  have e : ∀ v : BitVec 32, v &&& 1#32 = if v.getLsbD 0 then 1#32 else 0#32 := by
    intro v
    apply BitVec.eq_of_getLsbD_eq
    intro i hi
    rw [BitVec.getLsbD_and, BitVec.getLsbD_one]
    by_cases e : i = 0
    · subst e
      cases h : v.getLsbD 0 <;> simp
    · cases h : v.getLsbD 0 <;> simp [e]
  rw [← Int32.toBitVec_inj, Int32.toBitVec_and, show (1 : Int32).toBitVec = 1#32 from rfl, e, Int32.toBitVec_shiftRight, BitVec.sshiftRight_eq', nI_smod hq, BitVec.getLsbD_sshiftRight]
  unfold bI
  cases x.toBitVec.getLsbD q <;> simp [hq]
end
section
/-! ===== what is told is as it can be ===== -/
def WT (l m : Nat) (s : xN) (a : Nat → xN) : Prop :=
  (2 ≤ l ∧ l ≤ 12 ∧ s 0 = nI l) ∧ (m ≤ 24 ∧ s 9 = nI m) ∧
  ((∃ v, v < 8 ∧ s 1 = nI v) ∧ (∃ v, 1 ≤ v ∧ v ≤ 30 ∧ s 2 = nI v) ∧ (∃ v, 1 ≤ v ∧ v ≤ 6 ∧ s 3 = nI v) ∧ (∃ v, v ≤ 99 ∧ s 4 = nI v)) ∧
  (∀ k, k < 2 → hasP (s 5) (nI k) = true → (∃ v, v < l ∧ a 6 (3 * k) = nI v) ∧ (∃ v, v < 60 ∧ a 6 (3 * k + 1) = nI v)) ∧
  (∀ k, k < 2 → ∃ v, v < 2 ∧ a 6 (3 * k + 2) = nI v) ∧
  (∀ q, 8 ≤ q → q < 32 → hasP (s 7) (nI q) = false) ∧
  (∀ q, q < 8 → hasP (s 7) (nI q) = true → ∃ b h, b < l ∧ h < l ∧ a 8 (2 * q) = nI b ∧ a 8 (2 * q + 1) = nI h) ∧
  (∀ k, k < m → ∃ p kd t, p < 8 ∧ hasP (s 7) (nI p) = true ∧ kd < 3 ∧ t < 60 ∧ a 10 (3 * k) = nI p ∧ a 10 (3 * k + 1) = nI kd ∧ a 10 (3 * k + 2) = nI t)
theorem WT.t {l m : Nat} {s : xN} {a : Nat → xN} (h : WT l m s a) : okT s a m := by
  obtain ⟨-, ⟨h1, h2⟩, -, -, -, -, -, h3⟩ := h
  refine ⟨h2, h1, fun k hk => ?_⟩
  obtain ⟨p, kd, t, hp, -, -, -, e, -⟩ := h3 k hk
  exact ⟨p, hp, e⟩
theorem WT_congr {l m : Nat} {s s' : xN} {a a' : Nat → xN} (h : WT l m s a) (hs : ∀ i, i < 10 → s' i = s i) (h6 : a' 6 = a 6) (h8 : a' 8 = a 8) (h10 : ∀ i, i < 3 * m → a' 10 i = a 10 i) : WT l m s' a' := by
  unfold WT at h ⊢
  rw [hs 0 (by omega), hs 9 (by omega), hs 1 (by omega), hs 2 (by omega), hs 3 (by omega), hs 4 (by omega), hs 5 (by omega), hs 7 (by omega), h6, h8]
  refine ⟨h.1, h.2.1, h.2.2.1, h.2.2.2.1, h.2.2.2.2.1, h.2.2.2.2.2.1, h.2.2.2.2.2.2.1, fun k hk => ?_⟩
  rw [h10 (3 * k) (by omega), h10 (3 * k + 1) (by omega), h10 (3 * k + 2) (by omega)]
  exact h.2.2.2.2.2.2.2 k hk
theorem inP_1 {k : Int32} {n : Nat} (hn : n < 1000) (h : inP k 1 (nI n) = true) : ∃ p, 1 ≤ p ∧ p ≤ n ∧ k = nI p := by
  have h := of_decide_eq_true h
  have h1 := h.1
  simp only [i32_le] at h1
  have e1 : (1 : Int32).toInt = 1 := rfl
  obtain ⟨p, hp, e⟩ := nI_of2 (M := nI n) (nI_toInt (by omega)) (by rw [i32_lt]; have e0 : (0 : Int32).toInt = 0 := rfl; omega) h.2
  rw [e, nI_toInt (by omega)] at h1
  exact ⟨p, by omega, hp, e⟩
theorem inP_2 {k : Int32} {n : Nat} (hn : n < 1000) (h : inP k 2 (nI n) = true) : ∃ p, 2 ≤ p ∧ p ≤ n ∧ k = nI p := by
  have h := of_decide_eq_true h
  have h1 := h.1
  simp only [i32_le] at h1
  have e1 : (2 : Int32).toInt = 2 := rfl
  obtain ⟨p, hp, e⟩ := nI_of2 (M := nI n) (nI_toInt (by omega)) (by rw [i32_lt]; have e0 : (0 : Int32).toInt = 0 := rfl; omega) h.2
  rw [e, nI_toInt (by omega)] at h1
  exact ⟨p, by omega, hp, e⟩
theorem inP_l {k : Int32} {l : Nat} (hl : 1 ≤ l) (hn : l < 1000) (h : inP k 0 (nI l - 1) = true) : ∃ p, p < l ∧ k = nI p := in_lt hn h
set_option maxHeartbeats 1000000 in
theorem WT_dl {l m w : Nat} {ns s : xN} {a : Nat → xN} (h : WT l m s a) (hl : lnOK w ns s) : ∃ l' m', WT l' m' (dlS w ns s) (dlA w ns s a) := by
  obtain ⟨⟨g1, g2, g3⟩, ⟨m1, m2⟩, ⟨n1, n2, n3, n4⟩, t1, t2, f1, f2, d1⟩ := h
  obtain ⟨hw, o1, o2⟩ := hl
  rcases (show w = 0 ∨ w = 1 ∨ w = 2 ∨ w = 3 ∨ w = 4 ∨ w = 5 ∨ (6 ≤ w ∧ w ≤ 8) ∨ w = 9 by omega) with rfl | rfl | rfl | rfl | rfl | rfl | hw3 | rfl
  · obtain ⟨v, v1, v2, ev⟩ := inP_2 (n := 12) (by omega) (o2 0 (by decide))
    rw [dlS_w0, dlA_w (by omega)]
    refine ⟨v, 0, ⟨v1, v2, ev⟩, ⟨by omega, rfl⟩, ⟨n1, n2, n3, n4⟩, fun k hk hz => ?_, t2, fun q h1 h2 => zero_bit h2, fun q hq hz => ?_, fun k hk => by omega⟩
    · exact absurd hz (by rw [show (upd (upd (upd (upd s 0 (ns 0)) 5 0) 7 0) 9 0) 5 = 0 from rfl, zero_bit (by omega)]; simp)
    · exact absurd hz (by rw [show (upd (upd (upd (upd s 0 (ns 0)) 5 0) 7 0) 9 0) 7 = 0 from rfl, zero_bit (by omega)]; simp)
  · obtain ⟨v, v1, ev⟩ := inP_nI (n := 7) (by omega) (o2 0 (by decide))
    obtain ⟨u, u1, u2, eu⟩ := inP_1 (n := 30) (by omega) (o2 1 (by decide))
    rw [dlS_w1, dlA_w (by omega)]
    exact ⟨l, m, ⟨g1, g2, g3⟩, ⟨m1, m2⟩, ⟨⟨v, by omega, ev⟩, ⟨u, u1, u2, eu⟩, n3, n4⟩, t1, t2, f1, f2, d1⟩
  · obtain ⟨u, u1, u2, eu⟩ := inP_1 (n := 6) (by omega) (o2 0 (by decide))
    rw [dlS_w2, dlA_w (by omega)]
    exact ⟨l, m, ⟨g1, g2, g3⟩, ⟨m1, m2⟩, ⟨n1, n2, ⟨u, u1, u2, eu⟩, n4⟩, t1, t2, f1, f2, d1⟩
  · obtain ⟨v, v1, ev⟩ := inP_nI (n := 99) (by omega) (o2 0 (by decide))
    rw [dlS_w3, dlA_w (by omega)]
    exact ⟨l, m, ⟨g1, g2, g3⟩, ⟨m1, m2⟩, ⟨n1, n2, n3, ⟨v, v1, ev⟩⟩, t1, t2, f1, f2, d1⟩
  · obtain ⟨v, v1, ev⟩ := inP_nI (n := 1) (by omega) (o2 0 (by decide))
    have b1 := o2 1 (by decide)
    have b2 := o2 2 (by decide)
    have b3 := o2 3 (by decide)
    rw [g3] at b1
    obtain ⟨p, p1, ep⟩ := inP_l (by omega) (by omega) b1
    obtain ⟨t, q1, et⟩ := inP_nI (n := 59) (by omega) b2
    obtain ⟨y, y1, ey⟩ := inP_nI (n := 1) (by omega) b3
    rw [dlS_w4, dlA_w4, ev, nI_clamp (by omega), ep, et, ey]
    refine ⟨l, m, ⟨g1, g2, g3⟩, ⟨m1, m2⟩, ⟨n1, n2, n3, n4⟩, fun k hk hz => ?_, fun k hk => ?_, f1, f2, d1⟩
    · show (∃ v', v' < l ∧ upd (upd (upd (a 6) (3 * v) (nI p)) (3 * v + 1) (nI t)) (3 * v + 2) (nI y) (3 * k) = nI v') ∧ (∃ v', v' < 60 ∧ upd (upd (upd (a 6) (3 * v) (nI p)) (3 * v + 1) (nI t)) (3 * v + 2) (nI y) (3 * k + 1) = nI v')
      have hz : hasP (s 5 ||| 1 <<< (nI v &&& 31)) (nI k) = true := hz
      rw [set_bit _ (by omega) (by omega)] at hz
      by_cases e : k = v
      · subst e
        rw [pk_un (by omega), pk_un (by omega), pk_us, pk_un (by omega), pk_us]
        exact ⟨⟨p, p1, rfl⟩, ⟨t, by omega, rfl⟩⟩
      · rw [pk_un (by omega), pk_un (by omega), pk_un (by omega), pk_un (by omega), pk_un (by omega), pk_un (by omega)]
        simp [e] at hz
        exact t1 k hk hz
    · show ∃ v', v' < 2 ∧ upd (upd (upd (a 6) (3 * v) (nI p)) (3 * v + 1) (nI t)) (3 * v + 2) (nI y) (3 * k + 2) = nI v'
      by_cases e : k = v
      · subst e
        rw [pk_us]
        exact ⟨y, by omega, rfl⟩
      · rw [pk_un (by omega), pk_un (by omega), pk_un (by omega)]
        exact t2 k hk
  · obtain ⟨v, v1, ev⟩ := inP_nI (n := 7) (by omega) (o2 0 (by decide))
    have b1 := o2 1 (by decide)
    have b2 := o2 2 (by decide)
    rw [g3] at b1 b2
    obtain ⟨p, p1, ep⟩ := inP_l (by omega) (by omega) b1
    have b2 : (inP (ns 2) 0 (nI l - 1) && decide (¬ ns 1 = ns 2)) = true := b2
    rw [Bool.and_eq_true] at b2
    obtain ⟨t, q1, et⟩ := inP_l (by omega) (by omega) b2.1
    rw [dlS_w5, dlA_w5, ev, nI_clamp (by omega), ep, et]
    refine ⟨l, m, ⟨g1, g2, g3⟩, ⟨m1, m2⟩, ⟨n1, n2, n3, n4⟩, t1, t2, fun q h1 h2 => ?_, fun q hq hz => ?_, fun k hk => ?_⟩
    · show hasP (s 7 ||| 1 <<< (nI v &&& 31)) (nI q) = false
      rw [set_bit _ (by omega) (by omega), f1 q h1 h2]
      have : ¬ q = v := by omega
      simp [this]
    · show ∃ b h, b < l ∧ h < l ∧ upd (upd (a 8) (2 * v) (nI p)) (2 * v + 1) (nI t) (2 * q) = nI b ∧ upd (upd (a 8) (2 * v) (nI p)) (2 * v + 1) (nI t) (2 * q + 1) = nI h
      have hz : hasP (s 7 ||| 1 <<< (nI v &&& 31)) (nI q) = true := hz
      rw [set_bit _ (by omega) (by omega)] at hz
      by_cases e : q = v
      · subst e
        refine ⟨p, t, p1, q1, ?_, ?_⟩
        · rw [pk_un (by omega), pk_us]
        · rw [pk_us]
      · rw [pk_un (by omega), pk_un (by omega), pk_un (by omega), pk_un (by omega)]
        simp [e] at hz
        exact f2 q hq hz
    · obtain ⟨p', kd, t', h1, h2, h3, h4, h5⟩ := d1 k hk
      refine ⟨p', kd, t', h1, ?_, h3, h4, h5⟩
      show hasP (s 7 ||| 1 <<< (nI v &&& 31)) (nI p') = true
      rw [set_bit _ (by omega) (by omega), h2]; rfl
  · have hc : ∀ i ns v, cstP w i (s 0) (s 7) ns v = if i = 0 then inP v 0 7 && hasP (s 7) v else inP v 0 59 := by
      intro i ns v
      rcases (show w = 6 ∨ w = 7 ∨ w = 8 by omega) with rfl | rfl | rfl <;> rfl
    have hcn : cntN w = 2 := by rcases (show w = 6 ∨ w = 7 ∨ w = 8 by omega) with rfl | rfl | rfl <;> rfl
    have b0 := o2 0 (by omega)
    have b1 := o2 1 (by omega)
    rw [hc, if_pos rfl, Bool.and_eq_true] at b0
    rw [hc, if_neg (by decide)] at b1
    obtain ⟨v, v1, ev⟩ := inP_nI (n := 7) (by omega) b0.1
    obtain ⟨t, q1, et⟩ := inP_nI (n := 59) (by omega) b1
    have hv := b0.2
    rw [ev] at hv
    have hm24 : m < 24 := by
      have h24 := o1 hw3
      rw [m2] at h24
      rcases Nat.lt_or_ge m 24 with z | z
      · exact z
      · exact absurd (by rw [show m = 24 by omega]; rfl) h24
    rw [dlS_wm hw3, dlA_wm hw3, m2, nI_clamp (by omega), ev, et]
    refine ⟨l, m + 1, ⟨g1, g2, g3⟩, ⟨by omega, nI_1 m⟩, ⟨n1, n2, n3, n4⟩, t1, t2, f1, f2, fun k hk => ?_⟩
    show ∃ p kd t', p < 8 ∧ hasP (s 7) (nI p) = true ∧ kd < 3 ∧ t' < 60 ∧ upd (upd (upd (a 10) (3 * m) (nI v)) (3 * m + 1) (nI w - 6)) (3 * m + 2) (nI t) (3 * k) = nI p ∧ upd (upd (upd (a 10) (3 * m) (nI v)) (3 * m + 1) (nI w - 6)) (3 * m + 2) (nI t) (3 * k + 1) = nI kd ∧ upd (upd (upd (a 10) (3 * m) (nI v)) (3 * m + 1) (nI w - 6)) (3 * m + 2) (nI t) (3 * k + 2) = nI t'
    by_cases e : k = m
    · subst e
      refine ⟨v, w - 6, t, by omega, hv, by omega, by omega, ?_, ?_, ?_⟩
      · rw [pk_un (by omega), pk_un (by omega), pk_us]
      · rw [pk_un (by omega), pk_us]
        exact pk_sub (a := w) (b := 6) (by omega)
      · rw [pk_us]
    · rw [pk_un (by omega), pk_un (by omega), pk_un (by omega), pk_un (by omega), pk_un (by omega), pk_un (by omega), pk_un (by omega), pk_un (by omega), pk_un (by omega)]
      exact d1 k (by omega)
  · rw [dlS_w9, dlA_w (by omega)]
    exact ⟨l, 0, ⟨g1, g2, g3⟩, ⟨by omega, rfl⟩, ⟨n1, n2, n3, n4⟩, t1, t2, f1, f2, fun k hk => by omega⟩
theorem WT_dlR {l m : Nat} {rd s : xN} {a : Nat → xN} (h : WT l m s a) (n : Nat) : rdOK rd s a n → ∃ l' m', WT l' m' (dlR rd s a n).1 (dlR rd s a n).2 := by
  induction n with
  | zero => exact fun _ => ⟨l, m, h⟩
  | succ n ih =>
    intro hO
    obtain ⟨l', m', ih⟩ := ih (fun i hi => hO i (by omega))
    have h2 := (hO n (by omega)).2
    rw [dlR]
    generalize dlR rd s a n = T at ih h2 ⊢
    generalize (rd (5 * n)).toNatClampNeg = w at h2 ⊢
    generalize (fun k => rd (5 * n + 1 + k)) = ns at h2 ⊢
    exact WT_dl ih h2
theorem WT_rdL {f : xN} {n : Nat} : ∀ (k i p : Nat) (s : xN) (a : Nat → xN) (l m : Nat), WT l m s a → ∀ c S A, rdL f n k i p s a = .inr (c, S, A) → ∃ l' m', WT l' m' S A := by
  intro k
  induction k with
  | zero => intro i p s a l m h c S A h2; rw [rdL] at h2; cases h2
  | succ k ih =>
    intro i p s a l m h c S A h2
    cases hl : lineP f n p (s 0) (s 7) (s 9) with
    | inl e => rw [rdL_er hl] at h2; cases h2
    | inr q =>
      obtain ⟨w, ns, p'⟩ := q
      rw [rdL_go hl] at h2
      obtain ⟨l', m', hW⟩ := WT_dl h (lineP_ok hl).1
      split at h2
      · exact ih _ _ _ _ _ _ hW _ _ _ h2
      · split at h2
        · cases h2; exact ⟨l', m', hW⟩
        · cases h2
end
section
/-! ===== the reference: rail, and the begin of all ===== -/
theorem dlS_hi {w : Nat} (ns s : xN) {x : Nat} (hx : 10 ≤ x) : dlS w ns s x = s x := by
  have h : ∀ (f : xN) (k : Nat) (v : Int32), k < 10 → upd f k v x = f x := fun f k v hk => pk_un (by omega)
  unfold dlS
  split
  · rw [h _ _ _ (by omega), h _ _ _ (by omega), h _ _ _ (by omega), h _ _ _ (by omega)]
  split
  · rw [h _ _ _ (by omega), h _ _ _ (by omega)]
  split
  · rw [h _ _ _ (by omega)]
  split
  · rw [h _ _ _ (by omega)]
  split
  · rw [h _ _ _ (by omega)]
  split
  · rw [h _ _ _ (by omega)]
  split
  · rw [h _ _ _ (by omega)]
  split
  · rw [h _ _ _ (by omega)]
  · rfl
theorem dlA_hi {w : Nat} (ns s : xN) (a : Nat → xN) {x : Nat} (h6 : x ≠ 6) (h8 : x ≠ 8) (h10 : x ≠ 10) : dlA w ns s a x = a x := by
  unfold dlA
  split
  · exact if_neg h6
  split
  · exact if_neg h8
  split
  · exact if_neg h10
  · rfl
def railQ (f : xN) (n m : Nat) (s : xN) (a : Nat → xN) : Option Value → List xE → Prop := fun r Y => (∃ e, rdL f n 10 0 0 s a = .inl e ∧ r = some (.int (-4)) ∧ ∃ s' j' a', Y = modW s' j' a' ∧ keptM m s a s' a') ∨ (∃ c S A, rdL f n 10 0 0 s a = .inr (c, S, A) ∧ r = some (.int (nI c)) ∧ ∃ s' j' a' N, Y = modW s' j' a' ∧ eqL S A s' a' ∧ s' 11 = 0 ∧ s' 13 = 0 ∧ a' 29 0 = 0 ∧ a' 29 1 = 0 ∧ a' 26 = beginP (A 6) (A 8) N)
theorem eqL.rf (s : xN) (a : Nat → xN) : eqL s a s a := ⟨fun _ _ => rfl, rfl, rfl, rfl⟩
set_option maxHeartbeats 1000000 in
theorem c8_rail (L : xLn) (s : xN) (j : Int64) (a : Nat → xN) (n l m : Nat) (hn : s 13 = nI n) (h200 : n ≤ 200) (hW : WT l m s a) : CT L mX8_rail 6 0 0 [.ref 0] (modW s j a) (railQ (a 14) n m s a) := by
  refine CT.of rfl (Nat.le_of_ble_eq_true rfl) (Nat.le_of_ble_eq_true rfl) ?_
  refine AJ.run kX8_rail [] 60 ?_
  refine AJ.callF kX8_rail (c8_isRead L s j a n hn h200) bX8_isRead rfl (by decide +kernel) [] rfl rfl rfl rfl rfl rfl rfl rfl ?_
  rintro r Y (⟨e, hl, rfl, s2, j2, a2, rfl, g1, g2, g3⟩ | ⟨c, S, A, hl, rfl, s2, j2, a2, rfl, g1, g2, g3, g4, g5, g6⟩)
  · have fin : railQ (a 14) n m s a (some (.int (-4))) (modW s2 j2 a2) := Or.inl ⟨e, hl, rfl, s2, j2, a2, rfl, g1, ⟨g2 6 (by omega), g2 8 (by omega), g2 12 (by omega), g2 14 (by omega), g2 28 (by omega), g2 29 (by omega)⟩, fun i hi => by rw [g2 10 (by omega)], fun i hi => by rw [g2 26 (by omega)]⟩
    generalize railQ (a 14) n m s a = Q at fin ⊢
    exact ⟨rfl, rfl, AJ.run kX8_rail [] 60 ⟨fun hz => absurd rfl hz, fun _ => fin⟩⟩
  have fin : ∀ s' j' a' N, eqL S A s' a' → s' 11 = 0 → s' 13 = 0 → a' 29 0 = 0 → a' 29 1 = 0 → a' 26 = beginP (A 6) (A 8) N → railQ (a 14) n m s a (some (.int (nI c))) (modW s' j' a') := fun s' j' a' N h1 h2 h3 h4 h5 h6 => Or.inr ⟨c, S, A, hl, rfl, s', j', a', N, rfl, h1, h2, h3, h4, h5, h6⟩
  generalize railQ (a 14) n m s a = Q at fin ⊢
  have hWd := fun i (hi : i ≤ c) => WT_dlR (rd := a2 25) hW i (fun k hk => g5 k (by omega))
  -- the lines are done one by one
  have loop : ∀ (f i : Nat) (s1 : xN) (a1 : Nat → xN), i + f = c → eqL (dlR (a2 25) s a i).1 (dlR (a2 25) s a i).2 s1 a1 → s1 21 = nI c → a1 25 = a2 25 → AJ L mX8_rail 6 0 0 Q (modW s j a).length (0, 0) 12 [some (.ref 0), some (.int (nI i))] [] (modW s1 j2 a1) := by
    intro f
    induction f with
    | zero =>
      intro i s1 a1 hi hE h21 h25
      obtain rfl : i = c := by omega
      rw [g6] at hE
      refine AJ.run kX8_rail [39] 60 ⟨fun _ => ?_, fun hz => absurd ?_ hz⟩
      · refine AJ.callF kX8_rail (c8_begin L (upd s1 13 0) j2 a1 (a1 26)) bX8_begin rfl (by decide +kernel) [] rfl rfl rfl rfl rfl rfl rfl rfl ?_
        rintro r Y ⟨rfl, rfl⟩
        obtain ⟨e1, e2, e3, e4⟩ := hE
        have fin := fin (upd (upd s1 13 0) 11 0) j2 (va_up (va_up a1 26 (beginP (a1 6) (a1 8) (a1 26))) 29 (upd (upd (a1 29) 0 0) 1 0)) (a1 26) ⟨fun x hx => by rw [pk_un (by omega), pk_un (by omega)]; exact e1 x hx, e2, e3, e4⟩ rfl rfl rfl rfl (by
          show beginP (a1 6) (a1 8) (a1 26) = _
          rw [e2, e3])
        generalize beginP (a1 6) (a1 8) (a1 26) = B at fin ⊢
        rw [← h21] at fin
        exact ⟨rfl, rfl, AJ.run kX8_rail [] 60 ⟨0, rfl, by omega, Or.inl rfl, 1, rfl, by omega, Or.inl rfl, fin⟩⟩
      · show s1 21 ≤ nI i
        rw [h21]; exact nI_le (by omega) (by omega)
    | succ f ih =>
      intro i s1 a1 hi hE h21 h25
      obtain ⟨⟨w, hw, ew⟩, hl1⟩ := g5 i (by omega)
      obtain ⟨l', m', hW'⟩ := hWd i (by omega)
      rw [ew, nI_clamp (by omega)] at hl1
      have e9 : s1 9 = nI m' := (hE.1 9 (by omega)).trans hW'.2.1.2
      have c1 := c8_doLine L s1 j2 a1 i w m' (fun k => a2 25 (5 * i + 1 + k)) (by omega) e9 hW'.2.1.1 (by rw [h25]; exact ew) (fun k => by rw [h25]) (lnOK_congr hl1 (fun _ _ => rfl) hE.1)
      rw [← pk_mul] at c1
      have hE2 := dl_eqL hw (fun k => a2 25 (5 * i + 1 + k)) hE
      have hd : dlR (a2 25) s a (i + 1) = (dlS w (fun k => a2 25 (5 * i + 1 + k)) (dlR (a2 25) s a i).1, dlA w (fun k => a2 25 (5 * i + 1 + k)) (dlR (a2 25) s a i).1 (dlR (a2 25) s a i).2) := by
        rw [dlR, ew, nI_clamp (by omega)]
      have h2 := ih (i + 1) (dlS w (fun k => a2 25 (5 * i + 1 + k)) s1) (dlA w (fun k => a2 25 (5 * i + 1 + k)) s1 a1) (by omega) (by rw [hd]; exact hE2) (by rw [dlS_hi _ _ (by omega)]; exact h21) (by rw [dlA_hi _ _ _ (by omega) (by omega) (by omega)]; exact h25)
      rw [nI_succ] at h2
      refine AJ.run kX8_rail [24] 60 ⟨fun hz => absurd hz ?_, fun _ => ?_⟩
      · show ¬ s1 21 ≤ nI i
        rw [h21]; exact nI_ge (by omega) (by omega)
      refine AJ.callF kX8_rail c1 bX8_doLine rfl (by decide +kernel) [] rfl rfl rfl rfl rfl rfl rfl rfl ?_
      rintro r Y ⟨rfl, rfl⟩
      exact ⟨rfl, rfl, AJ.run kX8_rail [12] 60 h2⟩
  have key := loop c 0 s2 a2 (by omega) ⟨fun x hx => g1 x (by omega), g2 6 (by omega), g2 8 (by omega), g2 10 (by omega)⟩ g3 rfl
  exact ⟨rfl, rfl, AJ.run kX8_rail [12] 60 ⟨fun _ => key, fun hz => absurd hz (by decide)⟩⟩
end
section
def iniS : xN := fun i => if i = 0 then 6 else if i = 1 then 7 else if i = 2 then 10 else if i = 3 then 4 else if i = 4 then 1 else 0
def iniA : Nat → xN := va_up (fun _ _ => 0) 26 (beginP (fun _ => 0) (fun _ => 0) (fun _ => 0))
theorem c8_in_0 (L : xLn) (Q : Option Value → List xE → Prop) (h : AJ L mX8_init 1 12 2667 Q 1 (1, 6) 40 [some (.ref 0)] [] [.inr (.inr (8, [.int 6, .int 7, .int 10, .int 4, .int 1, .int 0, .ref 1, .int 0, .null, .int 0, .null, .int 0, .null, .int 0, .null, .int 0, .int 0, .long 0, .int 0, .int 0, .int 0, .int 0, .int 0, .int 0, .int 0, .null, .null, .null, .null, .null, .int 0, .int 0, .int 0, .null, .int 0, .int 0, .null])), .inl (0, 6, fun _ => 0)]) : AJ L mX8_init 1 12 2667 Q 1 (0, 0) 32 [some (.ref 0)] [] [.inr (.inr (8, [.int 6, .int 7, .int 10, .int 4, .int 1, .int 0, .null, .int 0, .null, .int 0, .null, .int 0, .null, .int 0, .null, .int 0, .int 0, .long 0, .int 0, .int 0, .int 0, .int 0, .int 0, .int 0, .int 0, .null, .null, .null, .null, .null, .int 0, .int 0, .int 0, .null, .int 0, .int 0, .null]))] := AJ.run kX8_init [40] 20 h
theorem c8_in_1 (L : xLn) (Q : Option Value → List xE → Prop) (h : AJ L mX8_init 1 12 2667 Q 1 (2, 22) 48 [some (.ref 0)] [] [.inr (.inr (8, [.int 6, .int 7, .int 10, .int 4, .int 1, .int 0, .ref 1, .int 0, .ref 2, .int 0, .null, .int 0, .null, .int 0, .null, .int 0, .int 0, .long 0, .int 0, .int 0, .int 0, .int 0, .int 0, .int 0, .int 0, .null, .null, .null, .null, .null, .int 0, .int 0, .int 0, .null, .int 0, .int 0, .null])), .inl (0, 6, fun _ => 0), .inl (0, 16, fun _ => 0)]) : AJ L mX8_init 1 12 2667 Q 1 (1, 6) 40 [some (.ref 0)] [] [.inr (.inr (8, [.int 6, .int 7, .int 10, .int 4, .int 1, .int 0, .ref 1, .int 0, .null, .int 0, .null, .int 0, .null, .int 0, .null, .int 0, .int 0, .long 0, .int 0, .int 0, .int 0, .int 0, .int 0, .int 0, .int 0, .null, .null, .null, .null, .null, .int 0, .int 0, .int 0, .null, .int 0, .int 0, .null])), .inl (0, 6, fun _ => 0)] := AJ.run kX8_init [48] 20 h
theorem c8_in_2 (L : xLn) (Q : Option Value → List xE → Prop) (h : AJ L mX8_init 1 12 2667 Q 1 (3, 100) 56 [some (.ref 0)] [] [.inr (.inr (8, [.int 6, .int 7, .int 10, .int 4, .int 1, .int 0, .ref 1, .int 0, .ref 2, .int 0, .ref 3, .int 0, .null, .int 0, .null, .int 0, .int 0, .long 0, .int 0, .int 0, .int 0, .int 0, .int 0, .int 0, .int 0, .null, .null, .null, .null, .null, .int 0, .int 0, .int 0, .null, .int 0, .int 0, .null])), .inl (0, 6, fun _ => 0), .inl (0, 16, fun _ => 0), .inl (0, 78, fun _ => 0)]) : AJ L mX8_init 1 12 2667 Q 1 (2, 22) 48 [some (.ref 0)] [] [.inr (.inr (8, [.int 6, .int 7, .int 10, .int 4, .int 1, .int 0, .ref 1, .int 0, .ref 2, .int 0, .null, .int 0, .null, .int 0, .null, .int 0, .int 0, .long 0, .int 0, .int 0, .int 0, .int 0, .int 0, .int 0, .int 0, .null, .null, .null, .null, .null, .int 0, .int 0, .int 0, .null, .int 0, .int 0, .null])), .inl (0, 6, fun _ => 0), .inl (0, 16, fun _ => 0)] := AJ.run kX8_init [56] 20 h
theorem c8_in_3 (L : xLn) (Q : Option Value → List xE → Prop) (h : AJ L mX8_init 1 12 2667 Q 1 (4, 116) 64 [some (.ref 0)] [] [.inr (.inr (8, [.int 6, .int 7, .int 10, .int 4, .int 1, .int 0, .ref 1, .int 0, .ref 2, .int 0, .ref 3, .int 0, .ref 4, .int 0, .null, .int 0, .int 0, .long 0, .int 0, .int 0, .int 0, .int 0, .int 0, .int 0, .int 0, .null, .null, .null, .null, .null, .int 0, .int 0, .int 0, .null, .int 0, .int 0, .null])), .inl (0, 6, fun _ => 0), .inl (0, 16, fun _ => 0), .inl (0, 78, fun _ => 0), .inl (0, 16, fun _ => 0)]) : AJ L mX8_init 1 12 2667 Q 1 (3, 100) 56 [some (.ref 0)] [] [.inr (.inr (8, [.int 6, .int 7, .int 10, .int 4, .int 1, .int 0, .ref 1, .int 0, .ref 2, .int 0, .ref 3, .int 0, .null, .int 0, .null, .int 0, .int 0, .long 0, .int 0, .int 0, .int 0, .int 0, .int 0, .int 0, .int 0, .null, .null, .null, .null, .null, .int 0, .int 0, .int 0, .null, .int 0, .int 0, .null])), .inl (0, 6, fun _ => 0), .inl (0, 16, fun _ => 0), .inl (0, 78, fun _ => 0)] := AJ.run kX8_init [64] 20 h
theorem c8_in_4 (L : xLn) (Q : Option Value → List xE → Prop) (h : AJ L mX8_init 1 12 2667 Q 1 (5, 316) 73 [some (.ref 0)] [] [.inr (.inr (8, [.int 6, .int 7, .int 10, .int 4, .int 1, .int 0, .ref 1, .int 0, .ref 2, .int 0, .ref 3, .int 0, .ref 4, .int 0, .ref 5, .int 0, .int 0, .long 0, .int 0, .int 0, .int 0, .int 0, .int 0, .int 0, .int 0, .null, .null, .null, .null, .null, .int 0, .int 0, .int 0, .null, .int 0, .int 0, .null])), .inl (0, 6, fun _ => 0), .inl (0, 16, fun _ => 0), .inl (0, 78, fun _ => 0), .inl (0, 16, fun _ => 0), .inl (0, 200, fun _ => 0)]) : AJ L mX8_init 1 12 2667 Q 1 (4, 116) 64 [some (.ref 0)] [] [.inr (.inr (8, [.int 6, .int 7, .int 10, .int 4, .int 1, .int 0, .ref 1, .int 0, .ref 2, .int 0, .ref 3, .int 0, .ref 4, .int 0, .null, .int 0, .int 0, .long 0, .int 0, .int 0, .int 0, .int 0, .int 0, .int 0, .int 0, .null, .null, .null, .null, .null, .int 0, .int 0, .int 0, .null, .int 0, .int 0, .null])), .inl (0, 6, fun _ => 0), .inl (0, 16, fun _ => 0), .inl (0, 78, fun _ => 0), .inl (0, 16, fun _ => 0)] := AJ.run kX8_init [73] 20 h
theorem c8_in_5 (L : xLn) (Q : Option Value → List xE → Prop) (h : AJ L mX8_init 1 12 2667 Q 1 (6, 366) 81 [some (.ref 0)] [] [.inr (.inr (8, [.int 6, .int 7, .int 10, .int 4, .int 1, .int 0, .ref 1, .int 0, .ref 2, .int 0, .ref 3, .int 0, .ref 4, .int 0, .ref 5, .int 0, .int 0, .long 0, .int 0, .int 0, .int 0, .int 0, .int 0, .int 0, .int 0, .ref 6, .null, .null, .null, .null, .int 0, .int 0, .int 0, .null, .int 0, .int 0, .null])), .inl (0, 6, fun _ => 0), .inl (0, 16, fun _ => 0), .inl (0, 78, fun _ => 0), .inl (0, 16, fun _ => 0), .inl (0, 200, fun _ => 0), .inl (0, 50, fun _ => 0)]) : AJ L mX8_init 1 12 2667 Q 1 (5, 316) 73 [some (.ref 0)] [] [.inr (.inr (8, [.int 6, .int 7, .int 10, .int 4, .int 1, .int 0, .ref 1, .int 0, .ref 2, .int 0, .ref 3, .int 0, .ref 4, .int 0, .ref 5, .int 0, .int 0, .long 0, .int 0, .int 0, .int 0, .int 0, .int 0, .int 0, .int 0, .null, .null, .null, .null, .null, .int 0, .int 0, .int 0, .null, .int 0, .int 0, .null])), .inl (0, 6, fun _ => 0), .inl (0, 16, fun _ => 0), .inl (0, 78, fun _ => 0), .inl (0, 16, fun _ => 0), .inl (0, 200, fun _ => 0)] := AJ.run kX8_init [81] 20 h
theorem c8_in_6 (L : xLn) (Q : Option Value → List xE → Prop) (h : AJ L mX8_init 1 12 2667 Q 1 (7, 939) 90 [some (.ref 0)] [] [.inr (.inr (8, [.int 6, .int 7, .int 10, .int 4, .int 1, .int 0, .ref 1, .int 0, .ref 2, .int 0, .ref 3, .int 0, .ref 4, .int 0, .ref 5, .int 0, .int 0, .long 0, .int 0, .int 0, .int 0, .int 0, .int 0, .int 0, .int 0, .ref 6, .ref 7, .null, .null, .null, .int 0, .int 0, .int 0, .null, .int 0, .int 0, .null])), .inl (0, 6, fun _ => 0), .inl (0, 16, fun _ => 0), .inl (0, 78, fun _ => 0), .inl (0, 16, fun _ => 0), .inl (0, 200, fun _ => 0), .inl (0, 50, fun _ => 0), .inl (0, 573, fun _ => 0)]) : AJ L mX8_init 1 12 2667 Q 1 (6, 366) 81 [some (.ref 0)] [] [.inr (.inr (8, [.int 6, .int 7, .int 10, .int 4, .int 1, .int 0, .ref 1, .int 0, .ref 2, .int 0, .ref 3, .int 0, .ref 4, .int 0, .ref 5, .int 0, .int 0, .long 0, .int 0, .int 0, .int 0, .int 0, .int 0, .int 0, .int 0, .ref 6, .null, .null, .null, .null, .int 0, .int 0, .int 0, .null, .int 0, .int 0, .null])), .inl (0, 6, fun _ => 0), .inl (0, 16, fun _ => 0), .inl (0, 78, fun _ => 0), .inl (0, 16, fun _ => 0), .inl (0, 200, fun _ => 0), .inl (0, 50, fun _ => 0)] := AJ.run kX8_init [90] 20 h
theorem c8_in_7 (L : xLn) (Q : Option Value → List xE → Prop) (h : AJ L mX8_init 1 12 2667 Q 1 (8, 1512) 99 [some (.ref 0)] [] [.inr (.inr (8, [.int 6, .int 7, .int 10, .int 4, .int 1, .int 0, .ref 1, .int 0, .ref 2, .int 0, .ref 3, .int 0, .ref 4, .int 0, .ref 5, .int 0, .int 0, .long 0, .int 0, .int 0, .int 0, .int 0, .int 0, .int 0, .int 0, .ref 6, .ref 7, .ref 8, .null, .null, .int 0, .int 0, .int 0, .null, .int 0, .int 0, .null])), .inl (0, 6, fun _ => 0), .inl (0, 16, fun _ => 0), .inl (0, 78, fun _ => 0), .inl (0, 16, fun _ => 0), .inl (0, 200, fun _ => 0), .inl (0, 50, fun _ => 0), .inl (0, 573, fun _ => 0), .inl (0, 573, fun _ => 0)]) : AJ L mX8_init 1 12 2667 Q 1 (7, 939) 90 [some (.ref 0)] [] [.inr (.inr (8, [.int 6, .int 7, .int 10, .int 4, .int 1, .int 0, .ref 1, .int 0, .ref 2, .int 0, .ref 3, .int 0, .ref 4, .int 0, .ref 5, .int 0, .int 0, .long 0, .int 0, .int 0, .int 0, .int 0, .int 0, .int 0, .int 0, .ref 6, .ref 7, .null, .null, .null, .int 0, .int 0, .int 0, .null, .int 0, .int 0, .null])), .inl (0, 6, fun _ => 0), .inl (0, 16, fun _ => 0), .inl (0, 78, fun _ => 0), .inl (0, 16, fun _ => 0), .inl (0, 200, fun _ => 0), .inl (0, 50, fun _ => 0), .inl (0, 573, fun _ => 0)] := AJ.run kX8_init [99] 20 h
theorem c8_in_8 (L : xLn) (Q : Option Value → List xE → Prop) (h : AJ L mX8_init 1 12 2667 Q 1 (9, 2658) 108 [some (.ref 0)] [] [.inr (.inr (8, [.int 6, .int 7, .int 10, .int 4, .int 1, .int 0, .ref 1, .int 0, .ref 2, .int 0, .ref 3, .int 0, .ref 4, .int 0, .ref 5, .int 0, .int 0, .long 0, .int 0, .int 0, .int 0, .int 0, .int 0, .int 0, .int 0, .ref 6, .ref 7, .ref 8, .ref 9, .null, .int 0, .int 0, .int 0, .null, .int 0, .int 0, .null])), .inl (0, 6, fun _ => 0), .inl (0, 16, fun _ => 0), .inl (0, 78, fun _ => 0), .inl (0, 16, fun _ => 0), .inl (0, 200, fun _ => 0), .inl (0, 50, fun _ => 0), .inl (0, 573, fun _ => 0), .inl (0, 573, fun _ => 0), .inl (0, 1146, fun _ => 0)]) : AJ L mX8_init 1 12 2667 Q 1 (8, 1512) 99 [some (.ref 0)] [] [.inr (.inr (8, [.int 6, .int 7, .int 10, .int 4, .int 1, .int 0, .ref 1, .int 0, .ref 2, .int 0, .ref 3, .int 0, .ref 4, .int 0, .ref 5, .int 0, .int 0, .long 0, .int 0, .int 0, .int 0, .int 0, .int 0, .int 0, .int 0, .ref 6, .ref 7, .ref 8, .null, .null, .int 0, .int 0, .int 0, .null, .int 0, .int 0, .null])), .inl (0, 6, fun _ => 0), .inl (0, 16, fun _ => 0), .inl (0, 78, fun _ => 0), .inl (0, 16, fun _ => 0), .inl (0, 200, fun _ => 0), .inl (0, 50, fun _ => 0), .inl (0, 573, fun _ => 0), .inl (0, 573, fun _ => 0)] := AJ.run kX8_init [108] 20 h
theorem c8_in_9 (L : xLn) (Q : Option Value → List xE → Prop) (h : AJ L mX8_init 1 12 2667 Q 1 (10, 2660) 115 [some (.ref 0)] [] [.inr (.inr (8, [.int 6, .int 7, .int 10, .int 4, .int 1, .int 0, .ref 1, .int 0, .ref 2, .int 0, .ref 3, .int 0, .ref 4, .int 0, .ref 5, .int 0, .int 0, .long 0, .int 0, .int 0, .int 0, .int 0, .int 0, .int 0, .int 0, .ref 6, .ref 7, .ref 8, .ref 9, .ref 10, .int 0, .int 0, .int 0, .null, .int 0, .int 0, .null])), .inl (0, 6, fun _ => 0), .inl (0, 16, fun _ => 0), .inl (0, 78, fun _ => 0), .inl (0, 16, fun _ => 0), .inl (0, 200, fun _ => 0), .inl (0, 50, fun _ => 0), .inl (0, 573, fun _ => 0), .inl (0, 573, fun _ => 0), .inl (0, 1146, fun _ => 0), .inl (1, 2, fun _ => 0)]) : AJ L mX8_init 1 12 2667 Q 1 (9, 2658) 108 [some (.ref 0)] [] [.inr (.inr (8, [.int 6, .int 7, .int 10, .int 4, .int 1, .int 0, .ref 1, .int 0, .ref 2, .int 0, .ref 3, .int 0, .ref 4, .int 0, .ref 5, .int 0, .int 0, .long 0, .int 0, .int 0, .int 0, .int 0, .int 0, .int 0, .int 0, .ref 6, .ref 7, .ref 8, .ref 9, .null, .int 0, .int 0, .int 0, .null, .int 0, .int 0, .null])), .inl (0, 6, fun _ => 0), .inl (0, 16, fun _ => 0), .inl (0, 78, fun _ => 0), .inl (0, 16, fun _ => 0), .inl (0, 200, fun _ => 0), .inl (0, 50, fun _ => 0), .inl (0, 573, fun _ => 0), .inl (0, 573, fun _ => 0), .inl (0, 1146, fun _ => 0)] := AJ.run kX8_init [115] 20 h
theorem c8_in_10 (L : xLn) (Q : Option Value → List xE → Prop) (h : AJ L mX8_init 1 12 2667 Q 1 (11, 2664) 122 [some (.ref 0)] [] [.inr (.inr (8, [.int 6, .int 7, .int 10, .int 4, .int 1, .int 0, .ref 1, .int 0, .ref 2, .int 0, .ref 3, .int 0, .ref 4, .int 0, .ref 5, .int 0, .int 0, .long 0, .int 0, .int 0, .int 0, .int 0, .int 0, .int 0, .int 0, .ref 6, .ref 7, .ref 8, .ref 9, .ref 10, .int 0, .int 0, .int 0, .ref 11, .int 0, .int 0, .null])), .inl (0, 6, fun _ => 0), .inl (0, 16, fun _ => 0), .inl (0, 78, fun _ => 0), .inl (0, 16, fun _ => 0), .inl (0, 200, fun _ => 0), .inl (0, 50, fun _ => 0), .inl (0, 573, fun _ => 0), .inl (0, 573, fun _ => 0), .inl (0, 1146, fun _ => 0), .inl (1, 2, fun _ => 0), .inl (0, 4, fun _ => 0)]) : AJ L mX8_init 1 12 2667 Q 1 (10, 2660) 115 [some (.ref 0)] [] [.inr (.inr (8, [.int 6, .int 7, .int 10, .int 4, .int 1, .int 0, .ref 1, .int 0, .ref 2, .int 0, .ref 3, .int 0, .ref 4, .int 0, .ref 5, .int 0, .int 0, .long 0, .int 0, .int 0, .int 0, .int 0, .int 0, .int 0, .int 0, .ref 6, .ref 7, .ref 8, .ref 9, .ref 10, .int 0, .int 0, .int 0, .null, .int 0, .int 0, .null])), .inl (0, 6, fun _ => 0), .inl (0, 16, fun _ => 0), .inl (0, 78, fun _ => 0), .inl (0, 16, fun _ => 0), .inl (0, 200, fun _ => 0), .inl (0, 50, fun _ => 0), .inl (0, 573, fun _ => 0), .inl (0, 573, fun _ => 0), .inl (0, 1146, fun _ => 0), .inl (1, 2, fun _ => 0)] := AJ.run kX8_init [122] 20 h
theorem c8_in_11 (L : xLn) (Q : Option Value → List xE → Prop) (h : AJ L mX8_init 1 12 2667 Q 1 (12, 2667) 129 [some (.ref 0)] [] [.inr (.inr (8, [.int 6, .int 7, .int 10, .int 4, .int 1, .int 0, .ref 1, .int 0, .ref 2, .int 0, .ref 3, .int 0, .ref 4, .int 0, .ref 5, .int 0, .int 0, .long 0, .int 0, .int 0, .int 0, .int 0, .int 0, .int 0, .int 0, .ref 6, .ref 7, .ref 8, .ref 9, .ref 10, .int 0, .int 0, .int 0, .ref 11, .int 0, .int 0, .ref 12])), .inl (0, 6, fun _ => 0), .inl (0, 16, fun _ => 0), .inl (0, 78, fun _ => 0), .inl (0, 16, fun _ => 0), .inl (0, 200, fun _ => 0), .inl (0, 50, fun _ => 0), .inl (0, 573, fun _ => 0), .inl (0, 573, fun _ => 0), .inl (0, 1146, fun _ => 0), .inl (1, 2, fun _ => 0), .inl (0, 4, fun _ => 0), .inl (0, 3, fun _ => 0)]) : AJ L mX8_init 1 12 2667 Q 1 (11, 2664) 122 [some (.ref 0)] [] [.inr (.inr (8, [.int 6, .int 7, .int 10, .int 4, .int 1, .int 0, .ref 1, .int 0, .ref 2, .int 0, .ref 3, .int 0, .ref 4, .int 0, .ref 5, .int 0, .int 0, .long 0, .int 0, .int 0, .int 0, .int 0, .int 0, .int 0, .int 0, .ref 6, .ref 7, .ref 8, .ref 9, .ref 10, .int 0, .int 0, .int 0, .ref 11, .int 0, .int 0, .null])), .inl (0, 6, fun _ => 0), .inl (0, 16, fun _ => 0), .inl (0, 78, fun _ => 0), .inl (0, 16, fun _ => 0), .inl (0, 200, fun _ => 0), .inl (0, 50, fun _ => 0), .inl (0, 573, fun _ => 0), .inl (0, 573, fun _ => 0), .inl (0, 1146, fun _ => 0), .inl (1, 2, fun _ => 0), .inl (0, 4, fun _ => 0)] := AJ.run kX8_init [129] 20 h
set_option maxHeartbeats 1000000 in
theorem c8_init (L : xLn) : CT L mX8_init 1 12 2667 [.ref 0] [.inr (.inr (8, [.int 0, .int 0, .int 0, .int 0, .int 0, .int 0, .null, .int 0, .null, .int 0, .null, .int 0, .null, .int 0, .null, .int 0, .int 0, .long 0, .int 0, .int 0, .int 0, .int 0, .int 0, .int 0, .int 0, .null, .null, .null, .null, .null, .int 0, .int 0, .int 0, .null, .int 0, .int 0, .null]))] (eqQ none (modW iniS 0 iniA)) := by
  refine CT.of rfl (Nat.le_of_ble_eq_true rfl) (Nat.le_of_ble_eq_true rfl) ?_
  have fin : eqQ none (modW iniS 0 iniA) none (modW iniS 0 iniA) := ⟨rfl, rfl⟩
  generalize eqQ none (modW iniS 0 iniA) = Q at fin ⊢
  refine AJ.run kX8_init [32] 200 ?_
  refine c8_in_0 L Q ?_
  refine c8_in_1 L Q ?_
  refine c8_in_2 L Q ?_
  refine c8_in_3 L Q ?_
  refine c8_in_4 L Q ?_
  refine c8_in_5 L Q ?_
  refine c8_in_6 L Q ?_
  refine c8_in_7 L Q ?_
  refine c8_in_8 L Q ?_
  refine c8_in_9 L Q ?_
  refine c8_in_10 L Q ?_
  refine c8_in_11 L Q ?_
  refine AJ.run kX8_init [130] 20 ?_
  refine AJ.callF kX8_init (c8_begin L iniS 0 (fun _ _ => 0) (fun _ => 0)) bX8_begin rfl (by decide +kernel) [] rfl rfl rfl rfl rfl rfl rfl rfl ?_
  rintro r Y ⟨rfl, rfl⟩
  unfold iniA at fin
  generalize beginP (fun _ => 0) (fun _ => 0) (fun _ => 0) = B at fin ⊢
  exact ⟨rfl, rfl, AJ.run kX8_init [] 60 fin⟩
theorem ini_WT : WT 6 0 iniS iniA := by
  refine ⟨⟨by decide, by decide, rfl⟩, ⟨by decide, rfl⟩, ⟨⟨7, by decide, rfl⟩, ⟨10, by decide, by decide, rfl⟩, ⟨4, by decide, by decide, rfl⟩, ⟨1, by decide, rfl⟩⟩, fun k hk hz => ?_, fun k hk => ⟨0, by decide, rfl⟩, fun q h1 h2 => zero_bit h2, fun q hq hz => ?_, fun k hk => by omega⟩
  · exact absurd hz (by rw [show iniS 5 = 0 from rfl, zero_bit (by omega)]; simp)
  · exact absurd hz (by rw [show iniS 7 = 0 from rfl, zero_bit (by omega)]; simp)
end
section
/-! ===== calls over a part of the world ===== -/
theorem xput_same {σ : List Nat} {X Xc : List xE} (hX : σ.map (fun i => X[i]?) = Xc.map (fun c => some (xrE (xsg σ X.length) c))) (hnd : va_nd σ = true) : xput σ X Xc = X := by
  have hl : σ.length = Xc.length := by simpa using congrArg List.length hX
  have hat : ∀ (j i : Nat), σ[j]? = some i → ∃ c, Xc[j]? = some c ∧ X[i]? = some (xrE (xsg σ X.length) c) := by
    intro j i h
    have h1 := congrArg (fun l : List (Option xE) => l[j]?) hX
    simp only [List.getElem?_map, h, Option.map_some] at h1
    cases hc : Xc[j]? with
    | none => rw [hc] at h1; cases h1
    | some c => rw [hc] at h1; exact ⟨c, rfl, by simpa using h1⟩
  unfold xput
  rw [List.drop_eq_nil_of_le (by omega), List.map_nil, List.append_nil]
  apply List.ext_getElem?
  intro i
  by_cases hi : i ∈ σ
  · obtain ⟨j, hj⟩ := List.getElem?_of_mem hi
    obtain ⟨c, h1, h2⟩ := hat j i hj
    rw [xputs_in _ σ X Xc hnd (fun q hq => by
      obtain ⟨j', hj'⟩ := List.getElem?_of_mem hq
      obtain ⟨c', -, h4⟩ := hat j' q hj'
      exact (List.getElem?_eq_some_iff.mp h4).1) (by omega) j i c hj h1, h2]
  · exact xputs_out _ _ _ _ _ hi
/-- a call of an instance's method that leaves the world as it was -/
theorem AJ.callP {L : xLn} {M : xM} {d mc ms : Nat} {Q : Option Value → List xE → Prop} {n0 : Nat} {z : Nat × Nat} {pc : Nat} {ls : List (Option Value)} {st : List Value} {X : List xE} (hM : xMk M = true) {M' : xM} {d' q0 n : Nat} {as : List Value} {Xc : List xE} {P : Option Value → Prop}
    (hC : CT L M' d' 0 0 (.ref q0 :: as) Xc (fun r Y => P r ∧ Y = Xc)) (hcv : xcB M' 0 n = true) {idx nx tg : Nat} {v : Int32} {w : Int64} {a b t : Nat} {sw : List (Int32 × Nat)} (ho : xat M pc = some (.invokevirtual idx, nx, tg, v, w, a, b, t, sw)) (hlk : xmt t (.methodLink (xown M) idx M'.1) = true)
    (σ : List Nat) (rest : List Value) (hst : st = (as.map (xv (xsg σ X.length))).reverse ++ .ref (xsg σ X.length q0) :: rest) (hn : as.length = n) (hX : σ.map (fun i => X[i]?) = Xc.map (fun c => some (xrE (xsg σ X.length) c))) {ci : Nat} {fs : List Value} (hq : Xc[q0]? = some (.inr (.inr (ci, fs)))) {r : vw_C} (hci : vwCl[ci]? = some r) (hr1 : r.1 = M'.1.cls)
    (hnd : va_nd σ = true) (hwf : xwf X ls rest = true) (hd : Nat.blt d' d = true) (hmm : (Nat.ble z.1 mc && Nat.ble z.2 ms && Nat.ble (X.length + Xc.length) xB) = true)
    (kk : ∀ r : Option Value, P r → AJ L M d mc ms Q n0 z nx ls (r.toList ++ rest) X) : AJ L M d mc ms Q n0 z pc ls st X := by
  simp only [Bool.and_eq_true] at hmm
  refine AJ.callV hM hC hcv ho hlk σ rest hst hn hX hq hci hr1 hnd hwf hd (by simp only [Bool.and_eq_true]; exact hmm.1) ?_
  rintro r Y ⟨h1, rfl⟩
  rw [xput_same hX hnd]
  exact ⟨hmm.2, kk r h1⟩
/-- a call of an instance's method over a part; the world behind it is named -/
theorem AJ.callU {L : xLn} {M : xM} {d mc ms : Nat} {Q : Option Value → List xE → Prop} {n0 : Nat} {z : Nat × Nat} {pc : Nat} {ls : List (Option Value)} {st : List Value} {X : List xE} (hM : xMk M = true) {M' : xM} {d' mc' ms' q0 n : Nat} {as : List Value} {Xc : List xE} {Qc : Option Value → List xE → Prop}
    (hC : CT L M' d' mc' ms' (.ref q0 :: as) Xc Qc) (hcv : xcB M' 0 n = true) {idx nx tg : Nat} {v : Int32} {w : Int64} {a b t : Nat} {sw : List (Int32 × Nat)} (ho : xat M pc = some (.invokevirtual idx, nx, tg, v, w, a, b, t, sw)) (hlk : xmt t (.methodLink (xown M) idx M'.1) = true)
    (σ : List Nat) (rest : List Value) (hst : st = (as.map (xv (xsg σ X.length))).reverse ++ .ref (xsg σ X.length q0) :: rest) (hn : as.length = n) (hX : σ.map (fun i => X[i]?) = Xc.map (fun c => some (xrE (xsg σ X.length) c))) {ci : Nat} {fs : List Value} (hq : Xc[q0]? = some (.inr (.inr (ci, fs)))) {r : vw_C} (hci : vwCl[ci]? = some r) (hr1 : r.1 = M'.1.cls)
    (hnd : va_nd σ = true) (hwf : xwf X ls rest = true) (hd : Nat.blt d' d = true) (hmm : (Nat.ble (z.1 + mc') mc && Nat.ble (z.2 + ms') ms) = true)
    (kk : ∀ (r : Option Value) (Y : List xE), Qc r Y → ∃ X', xput σ X Y = X' ∧ Nat.ble (X.length + Y.length) xB = true ∧ AJ L M d mc ms Q n0 (z.1 + mc', z.2 + ms') nx ls (r.toList ++ rest) X') : AJ L M d mc ms Q n0 z pc ls st X := by
  refine AJ.callV hM hC hcv ho hlk σ rest hst hn hX hq hci hr1 hnd hwf hd hmm ?_
  intro r Y hr
  obtain ⟨X', h1, h2, h3⟩ := kk r Y hr
  rw [h1]
  exact ⟨h2, h3⟩
/-- the same for a static method -/
theorem AJ.callT {L : xLn} {M : xM} {d mc ms : Nat} {Q : Option Value → List xE → Prop} {n0 : Nat} {z : Nat × Nat} {pc : Nat} {ls : List (Option Value)} {st : List Value} {X : List xE} (hM : xMk M = true) {M' : xM} {d' mc' ms' n : Nat} {as : List Value} {Xc : List xE} {Qc : Option Value → List xE → Prop}
    (hC : CT L M' d' mc' ms' as Xc Qc) (hcv : xcB M' 1 n = true) {idx nx tg : Nat} {v : Int32} {w : Int64} {a b t : Nat} {sw : List (Int32 × Nat)} (ho : xat M pc = some (.invokestatic idx, nx, tg, v, w, a, b, t, sw)) (hlk : xmt t (.methodLink (xown M) idx M'.1) = true)
    (σ : List Nat) (rest : List Value) (hst : st = (as.map (xv (xsg σ X.length))).reverse ++ rest) (hn : as.length = n) (hX : σ.map (fun i => X[i]?) = Xc.map (fun c => some (xrE (xsg σ X.length) c)))
    (hnd : va_nd σ = true) (hwf : xwf X ls rest = true) (hd : Nat.blt d' d = true) (hmm : (Nat.ble (z.1 + mc') mc && Nat.ble (z.2 + ms') ms) = true)
    (kk : ∀ (r : Option Value) (Y : List xE), Qc r Y → ∃ X', xput σ X Y = X' ∧ Nat.ble (X.length + Y.length) xB = true ∧ AJ L M d mc ms Q n0 (z.1 + mc', z.2 + ms') nx ls (r.toList ++ rest) X') : AJ L M d mc ms Q n0 z pc ls st X := by
  refine AJ.callS hM hC hcv ho hlk σ rest hst hn hX hnd hwf hd hmm ?_
  intro r Y hr
  obtain ⟨X', h1, h2, h3⟩ := kk r Y hr
  rw [h1]
  exact ⟨h2, h3⟩
/-! ===== a row filled; the bits counted ===== -/
theorem cJ_fill3 (L : xLn) (f : xN) (v : Int32) : CT L mJ7_fill_53178 0 0 0 [.ref 0, .int v] [.inl (0, 3, f)] (fun r Y => r = none ∧ ∃ g : xN, (∀ i, i < 3 → g i = v) ∧ Y = [.inl (0, 3, g)]) := by
  refine CT.of rfl (Nat.le_of_ble_eq_true rfl) (Nat.le_of_ble_eq_true rfl) ?_
  have loop : ∀ (k i : Nat) (g : xN), i + k = 3 → (∀ q, q < i → g q = v) → AJ L mJ7_fill_53178 0 0 0 (fun r Y => r = none ∧ ∃ g : xN, (∀ i, i < 3 → g i = v) ∧ Y = [.inl (0, 3, g)]) 1 (0, 0) 5 [some (.ref 0), some (.int v), some (.int (nI i)), some (.int (nI 3))] [] [.inl (0, 3, g)] := by
    intro k
    induction k with
    | zero =>
      intro i g hi hg
      obtain rfl : i = 3 := by omega
      exact AJ.run kJ7_fill_53178 [5] 20 ⟨fun _ => ⟨rfl, g, hg, rfl⟩, fun hz => absurd (by decide) hz⟩
    | succ k ih =>
      intro i g hi hg
      have h2 := ih (i + 1) (upd g i v) (by omega) (fun q hq => by
        by_cases e : q = i
        · subst e; rw [pk_us]
        · rw [pk_un e]; exact hg q (by omega))
      rw [nI_succ] at h2
      exact AJ.run kJ7_fill_53178 [5] 20 ⟨fun hz => absurd hz (nI_ge (b := 3) (by omega) (by omega)), fun _ => ⟨i, rfl, by omega, h2⟩⟩
  exact AJ.run kJ7_fill_53178 [5] 20 (loop 3 0 f (by omega) (fun q hq => by omega))
theorem cJ_fill8 (L : xLn) (f : xN) (v : Int32) : CT L mJ7_fill_53178 0 0 0 [.ref 0, .int v] [.inl (0, 8, f)] (fun r Y => r = none ∧ ∃ g : xN, (∀ i, i < 8 → g i = v) ∧ Y = [.inl (0, 8, g)]) := by
  refine CT.of rfl (Nat.le_of_ble_eq_true rfl) (Nat.le_of_ble_eq_true rfl) ?_
  have loop : ∀ (k i : Nat) (g : xN), i + k = 8 → (∀ q, q < i → g q = v) → AJ L mJ7_fill_53178 0 0 0 (fun r Y => r = none ∧ ∃ g : xN, (∀ i, i < 8 → g i = v) ∧ Y = [.inl (0, 8, g)]) 1 (0, 0) 5 [some (.ref 0), some (.int v), some (.int (nI i)), some (.int (nI 8))] [] [.inl (0, 8, g)] := by
    intro k
    induction k with
    | zero =>
      intro i g hi hg
      obtain rfl : i = 8 := by omega
      exact AJ.run kJ7_fill_53178 [5] 20 ⟨fun _ => ⟨rfl, g, hg, rfl⟩, fun hz => absurd (by decide) hz⟩
    | succ k ih =>
      intro i g hi hg
      have h2 := ih (i + 1) (upd g i v) (by omega) (fun q hq => by
        by_cases e : q = i
        · subst e; rw [pk_us]
        · rw [pk_un e]; exact hg q (by omega))
      rw [nI_succ] at h2
      exact AJ.run kJ7_fill_53178 [5] 20 ⟨fun hz => absurd hz (nI_ge (b := 8) (by omega) (by omega)), fun _ => ⟨i, rfl, by omega, h2⟩⟩
  exact AJ.run kJ7_fill_53178 [5] 20 (loop 8 0 f (by omega) (fun q hq => by omega))
theorem cJ_fill12 (L : xLn) (f : xN) (v : Int32) : CT L mJ7_fill_53178 0 0 0 [.ref 0, .int v] [.inl (0, 12, f)] (fun r Y => r = none ∧ ∃ g : xN, (∀ i, i < 12 → g i = v) ∧ Y = [.inl (0, 12, g)]) := by
  refine CT.of rfl (Nat.le_of_ble_eq_true rfl) (Nat.le_of_ble_eq_true rfl) ?_
  have loop : ∀ (k i : Nat) (g : xN), i + k = 12 → (∀ q, q < i → g q = v) → AJ L mJ7_fill_53178 0 0 0 (fun r Y => r = none ∧ ∃ g : xN, (∀ i, i < 12 → g i = v) ∧ Y = [.inl (0, 12, g)]) 1 (0, 0) 5 [some (.ref 0), some (.int v), some (.int (nI i)), some (.int (nI 12))] [] [.inl (0, 12, g)] := by
    intro k
    induction k with
    | zero =>
      intro i g hi hg
      obtain rfl : i = 12 := by omega
      exact AJ.run kJ7_fill_53178 [5] 20 ⟨fun _ => ⟨rfl, g, hg, rfl⟩, fun hz => absurd (by decide) hz⟩
    | succ k ih =>
      intro i g hi hg
      have h2 := ih (i + 1) (upd g i v) (by omega) (fun q hq => by
        by_cases e : q = i
        · subst e; rw [pk_us]
        · rw [pk_un e]; exact hg q (by omega))
      rw [nI_succ] at h2
      exact AJ.run kJ7_fill_53178 [5] 20 ⟨fun hz => absurd hz (nI_ge (b := 12) (by omega) (by omega)), fun _ => ⟨i, rfl, by omega, h2⟩⟩
  exact AJ.run kJ7_fill_53178 [5] 20 (loop 12 0 f (by omega) (fun q hq => by omega))
theorem cJ_fill26 (L : xLn) (f : xN) (v : Int32) : CT L mJ7_fill_53178 0 0 0 [.ref 0, .int v] [.inl (0, 26, f)] (fun r Y => r = none ∧ ∃ g : xN, (∀ i, i < 26 → g i = v) ∧ Y = [.inl (0, 26, g)]) := by
  refine CT.of rfl (Nat.le_of_ble_eq_true rfl) (Nat.le_of_ble_eq_true rfl) ?_
  have loop : ∀ (k i : Nat) (g : xN), i + k = 26 → (∀ q, q < i → g q = v) → AJ L mJ7_fill_53178 0 0 0 (fun r Y => r = none ∧ ∃ g : xN, (∀ i, i < 26 → g i = v) ∧ Y = [.inl (0, 26, g)]) 1 (0, 0) 5 [some (.ref 0), some (.int v), some (.int (nI i)), some (.int (nI 26))] [] [.inl (0, 26, g)] := by
    intro k
    induction k with
    | zero =>
      intro i g hi hg
      obtain rfl : i = 26 := by omega
      exact AJ.run kJ7_fill_53178 [5] 20 ⟨fun _ => ⟨rfl, g, hg, rfl⟩, fun hz => absurd (by decide) hz⟩
    | succ k ih =>
      intro i g hi hg
      have h2 := ih (i + 1) (upd g i v) (by omega) (fun q hq => by
        by_cases e : q = i
        · subst e; rw [pk_us]
        · rw [pk_un e]; exact hg q (by omega))
      rw [nI_succ] at h2
      exact AJ.run kJ7_fill_53178 [5] 20 ⟨fun hz => absurd hz (nI_ge (b := 26) (by omega) (by omega)), fun _ => ⟨i, rfl, by omega, h2⟩⟩
  exact AJ.run kJ7_fill_53178 [5] 20 (loop 26 0 f (by omega) (fun q hq => by omega))
theorem cJ_fill60 (L : xLn) (f : xN) (v : Int32) : CT L mJ7_fill_53178 0 0 0 [.ref 0, .int v] [.inl (0, 60, f)] (fun r Y => r = none ∧ ∃ g : xN, (∀ i, i < 60 → g i = v) ∧ Y = [.inl (0, 60, g)]) := by
  refine CT.of rfl (Nat.le_of_ble_eq_true rfl) (Nat.le_of_ble_eq_true rfl) ?_
  have loop : ∀ (k i : Nat) (g : xN), i + k = 60 → (∀ q, q < i → g q = v) → AJ L mJ7_fill_53178 0 0 0 (fun r Y => r = none ∧ ∃ g : xN, (∀ i, i < 60 → g i = v) ∧ Y = [.inl (0, 60, g)]) 1 (0, 0) 5 [some (.ref 0), some (.int v), some (.int (nI i)), some (.int (nI 60))] [] [.inl (0, 60, g)] := by
    intro k
    induction k with
    | zero =>
      intro i g hi hg
      obtain rfl : i = 60 := by omega
      exact AJ.run kJ7_fill_53178 [5] 20 ⟨fun _ => ⟨rfl, g, hg, rfl⟩, fun hz => absurd (by decide) hz⟩
    | succ k ih =>
      intro i g hi hg
      have h2 := ih (i + 1) (upd g i v) (by omega) (fun q hq => by
        by_cases e : q = i
        · subst e; rw [pk_us]
        · rw [pk_un e]; exact hg q (by omega))
      rw [nI_succ] at h2
      exact AJ.run kJ7_fill_53178 [5] 20 ⟨fun hz => absurd hz (nI_ge (b := 60) (by omega) (by omega)), fun _ => ⟨i, rfl, by omega, h2⟩⟩
  exact AJ.run kJ7_fill_53178 [5] 20 (loop 60 0 f (by omega) (fun q hq => by omega))
def bcP (x : Int32) : Int32 :=
  let x1 := x - ((x.toUInt32 >>> (Int32.toUInt32 1 &&& Int32.toUInt32 31)).toInt32 &&& 1431655765)
  let x2 := (x1 &&& 858993459) + ((x1.toUInt32 >>> (Int32.toUInt32 2 &&& Int32.toUInt32 31)).toInt32 &&& 858993459)
  let x3 := (x2 + (x2.toUInt32 >>> (Int32.toUInt32 4 &&& Int32.toUInt32 31)).toInt32) &&& 252645135
  let x4 := x3 + (x3.toUInt32 >>> (Int32.toUInt32 8 &&& Int32.toUInt32 31)).toInt32
  let x5 := x4 + (x4.toUInt32 >>> (Int32.toUInt32 16 &&& Int32.toUInt32 31)).toInt32
  x5 &&& 63
theorem bc_256 : ∀ k : Fin 256, bcP (nI k.val) = bitsP (nI k.val) 8 := by decide +kernel
theorem lo8 : ∀ q : Fin 32, hasP 255 (nI q.val) = decide (q.val < 8) := by decide +kernel
theorem lo_256 {x : Int32} (h : ∀ q, 8 ≤ q → q < 32 → hasP x (nI q) = false) : ∃ k, k < 256 ∧ x = nI k := by
  have e : x &&& 255 = x := by
    apply bit_ext
    intro q hq
    rw [and_bit _ _ hq, lo8 ⟨q, hq⟩]
    by_cases h8 : q < 8
    · simp [h8]
    · rw [h q (by omega) hq]; simp
  obtain ⟨j, h1, h2⟩ := pk_andE x (m := 255) 8 rfl
  exact ⟨j, h1, by rw [← e, h2]⟩
theorem cJ_bitCount (L : xLn) (x : Int32) (h : ∀ q, 8 ≤ q → q < 32 → hasP x (nI q) = false) : CT L mJ6_bitCount_0f7a4 0 0 0 [.int x] [] (fun r Y => r = some (.int (bitsP x 8)) ∧ Y = []) := by
  obtain ⟨k, h1, h2⟩ := lo_256 h
  have e : bcP x = bitsP x 8 := by rw [h2]; exact bc_256 ⟨k, h1⟩
  rw [← e]
  refine CT.of rfl (Nat.le_of_ble_eq_true rfl) (Nat.le_of_ble_eq_true rfl) ?_
  exact AJ.run kJ6_bitCount_0f7a4 [] 60 ⟨rfl, rfl⟩
end
section
/-! ===== the class: what stands for what ===== -/
/-- a day and what is told to it -/
def dtW (d : xN) (da : Nat → xN) (t : xN) (ta : Nat → xN) : List xE := dayW 0 13 d da ++ tolW 13 t ta
def dtQ (t : xN) (ta : Nat → xN) (P : xN → (Nat → xN) → Prop) : Option Value → List xE → Prop := fun r Y => r = none ∧ ∃ d da, P d da ∧ Y = dtW d da t ta
/-- how many of the first k -/
def cntB (P : Nat → Bool) : Nat → Nat
  | 0 => 0
  | k + 1 => cntB P k + (if P k = true then 1 else 0)
theorem cntB_congr {P P' : Nat → Bool} : ∀ k, (∀ i, i < k → P i = P' i) → cntB P k = cntB P' k
  | 0, _ => rfl
  | k + 1, h => by rw [cntB, cntB, cntB_congr k (fun i hi => h i (by omega)), h k (by omega)]
theorem cntB_le (P : Nat → Bool) : ∀ k, cntB P k ≤ k
  | 0 => Nat.le_refl _
  | k + 1 => by
    have := cntB_le P k
    rw [cntB]
    split <;> omega
theorem cntB_lt {P : Nat → Bool} : ∀ k i, i < k → P i = false → cntB P k < k
  | 0, i, h, _ => by omega
  | k + 1, i, h, hp => by
    rw [cntB]
    by_cases e : i = k
    · subst e
      have := cntB_le P i
      rw [hp]
      simp
      omega
    · have := cntB_lt k i (by omega) hp
      split <;> omega
theorem cntB_one {P P' : Nat → Bool} {c : Nat} (h1 : P c = false) (h2 : P' c = true) (h3 : ∀ i, i ≠ c → P' i = P i) : ∀ k, cntB P' k = cntB P k + (if c < k then 1 else 0)
  | 0 => rfl
  | k + 1 => by
    rw [cntB, cntB, cntB_one h1 h2 h3 k]
    by_cases e : k = c
    · subst e
      rw [h1, h2]
      simp
    · rw [h3 k e]
      by_cases hc : c < k
      · rw [if_pos hc, if_pos (show c < k + 1 by omega)]; omega
      · rw [if_neg hc, if_neg (show ¬ c < k + 1 by omega)]
        omega
/-- what is told, by which law a day goes -/
def WD (l m sp : Nat) (s : xN) (a : Nat → xN) : Prop :=
  (2 ≤ l ∧ l ≤ 12 ∧ s 0 = nI l) ∧ m ≤ 26 ∧ (∃ v, v < 8 ∧ s 30 = nI v) ∧ (1 ≤ sp ∧ sp ≤ 30 ∧ s 31 = nI sp) ∧ (∃ v, 1 ≤ v ∧ v ≤ 6 ∧ s 3 = nI v) ∧
  (∀ k, k < 2 → hasP (s 5) (nI k) = true → (∃ v, v < l ∧ a 6 (3 * k) = nI v) ∧ (∃ v, v < 60 ∧ a 6 (3 * k + 1) = nI v)) ∧
  (∀ k, k < 2 → ∃ v, v < 2 ∧ a 6 (3 * k + 2) = nI v) ∧
  (∀ q, 8 ≤ q → q < 32 → hasP (s 7) (nI q) = false) ∧
  (∀ q, q < 8 → hasP (s 7) (nI q) = true → ∃ b h, b < l ∧ h < l ∧ a 8 (2 * q) = nI b ∧ a 8 (2 * q + 1) = nI h) ∧
  (∀ k, k < m → ∃ p kd t, p < 8 ∧ hasP (s 7) (nI p) = true ∧ kd < 3 ∧ t < 60 ∧ a 10 (3 * k) = nI p ∧ a 10 (3 * k + 1) = nI kd ∧ a 10 (3 * k + 2) = nI t)
/-- what is told, in the class's words and in the reference's -/
def RT (m : Nat) (t : xN) (ta : Nat → xN) (s : xN) (a : Nat → xN) : Prop :=
  (t 0 = s 0 ∧ t 1 = s 1 ∧ t 2 = s 2 ∧ t 3 = s 3 ∧ t 4 = s 4 ∧ t 5 = s 5 ∧ t 9 = s 7 ∧ t 12 = nI m) ∧
  (∀ k, k < 2 → ta 6 k = a 6 (3 * k) ∧ ta 7 k = a 6 (3 * k + 1) ∧ ta 8 k = a 6 (3 * k + 2)) ∧
  (∀ q, q < 8 → ta 10 q = a 8 (2 * q) ∧ ta 11 q = a 8 (2 * q + 1)) ∧
  (∀ k, k < m → ta 13 k = a 10 (3 * k) ∧ ta 14 k = a 10 (3 * k + 1) ∧ ta 15 k = a 10 (3 * k + 2)) ∧
  ∀ g, g < 60 → ∀ k, k < 32 → hasP (ta 16 g) (nI k) = decide (k < m ∧ a 10 (3 * k + 2) = nI g)
/-- a day as it can be: trams, people, moods, halts; g is the minute, e what is done of it -/
def IVa (l g : Nat) (s N : xN) : Prop := (N 0 = nI g ∧ g ≤ 60) ∧ ∀ k, k < 2 → (hasP (s 5) (nI k) = true → ∃ v, v < l ∧ N (1 + k) = nI v) ∧ (N (3 + k) = 0 ∨ N (3 + k) = 1) ∧ (N (5 + k) = 0 ∨ N (5 + k) = 1)
def IVp (e : Nat) (s : xN) (a : Nat → xN) (N : xN) : Prop := ∀ q, q < 8 →
  (N (17 + q) = -1 ∨ ∃ k, k < 2 ∧ N (17 + q) = nI k ∧ hasP (s 5) (nI k) = true ∧ hasP (s 7) (nI q) = true ∧ N (25 + q) = -1) ∧
  (hasP (s 7) (nI q) = false → N (25 + q) = -1 ∧ N (33 + q) = 0) ∧ (N (9 + q) = if N (25 + q) = -1 then a 8 (2 * q) else a 8 (2 * q + 1)) ∧ (N (25 + q) = -1 ∨ ∃ t, t < e ∧ N (25 + q) = nI t)
def IVm (l m e : Nat) (a : Nat → xN) (N : xN) : Prop := ∀ k, k < 26 →
  (N (41 + k) = -1 ∨ ∃ p, p < l ∧ N (41 + k) = nI p) ∧ (N (67 + k) = 0 ∨ N (67 + k) = 1) ∧ (N (41 + k) = -1 → N (67 + k) = 0) ∧ (m ≤ k → N (41 + k) = -1) ∧ (k < m → ∀ t, e ≤ t → t < 60 → a 10 (3 * k + 2) = nI t → N (41 + k) = -1)
def IVh (m e : Nat) (N : xN) : Prop := ∃ h, N 7 + N 8 = nI h ∧ h = cntB (fun k => decide (N (67 + k) = 1)) m ∧ (∀ k, k < 2 → N (7 + k) = nI (cntB (fun i => decide (N (93 + 4 * i) = nI k)) h)) ∧
  ∀ i, i < h → (∃ c, c < m ∧ N (93 + 4 * i + 3) = nI c) ∧ (∃ t, t < e ∧ N (93 + 4 * i + 2) = nI t)
/-- the day of the class and that of the reference -/
def RA (d : xN) (da : Nat → xN) (N : xN) : Prop := d 3 = N 0 ∧ ∀ k, k < 2 → da 4 k = N (1 + k) ∧ da 5 k = N (3 + k) ∧ N (5 + k) = bI (hasP (d 7) (nI k))
def RP (da : Nat → xN) (N : xN) : Prop := (∀ k, k < 2 → ∀ q, q < 32 → hasP (da 6 k) (nI q) = decide (q < 8 ∧ N (17 + q) = nI k)) ∧ ∀ q, q < 8 → da 8 q = N (25 + q) ∧ da 9 q = N (33 + q)
def RF (m b sp : Nat) (s : xN) (a : Nat → xN) (d : xN) (da : Nat → xN) (N : xN) : Prop :=
  (∀ k, k < 26 → da 10 k = N (41 + k) ∧ N (67 + k) = bI (hasP (d 13) (nI k))) ∧
  (∀ p, p < 12 → ∀ k, k < 32 → hasP (da 11 p) (nI k) = decide (k < m ∧ N (41 + k) = nI p)) ∧
  ∀ k, k < 32 → hasP (d 12) (nI k) = decide (k < m ∧ ¬ N (41 + k) = -1 ∧ N (67 + k) = 0 ∧ hasP (s 30) (a 10 (3 * k + 1)) = true ∧ b ≤ (a 10 (3 * k + 2)).toNatClampNeg + sp)
def RH (d : xN) (da : Nat → xN) (N : xN) : Prop := d 20 = N 7 + N 8 ∧ ∀ i, i < hmP N → da 20 i = N (93 + 4 * i) ∧ da 21 i = N (93 + 4 * i + 1) ∧ da 22 i = N (93 + 4 * i + 2) ∧ da 23 i = N (93 + 4 * i + 3)
def RLw (s d : xN) : Prop := d 1 = s 30 ∧ d 2 = s 31
def RD (m b sp : Nat) (s : xN) (a : Nat → xN) (d : xN) (da : Nat → xN) (N : xN) : Prop := RLw s d ∧ RA d da N ∧ RP da N ∧ RF m b sp s a d da N ∧ RH d da N
/-! ===== they stay where their numbers stay ===== -/
theorem IVa.same {l g : Nat} {s N B : xN} (h : IVa l g s N) (e : ∀ i, i < 7 → B i = N i) : IVa l g s B := by
  refine ⟨by rw [e 0 (by omega)]; exact h.1, fun k hk => ?_⟩
  rw [e (1 + k) (by omega), e (3 + k) (by omega), e (5 + k) (by omega)]
  exact h.2 k hk
theorem IVp.same {e0 : Nat} {s : xN} {a : Nat → xN} {N B : xN} (h : IVp e0 s a N) (e : ∀ i, 9 ≤ i → i < 41 → B i = N i) : IVp e0 s a B := by
  intro q hq
  rw [e (17 + q) (by omega) (by omega), e (25 + q) (by omega) (by omega), e (33 + q) (by omega) (by omega), e (9 + q) (by omega) (by omega)]
  exact h q hq
theorem IVm.same {l m e0 : Nat} {a : Nat → xN} {N B : xN} (h : IVm l m e0 a N) (e : ∀ i, 41 ≤ i → i < 93 → B i = N i) : IVm l m e0 a B := by
  intro k hk
  rw [e (41 + k) (by omega) (by omega), e (67 + k) (by omega) (by omega)]
  exact h k hk
theorem IVh.same {m e0 : Nat} {N B : xN} (hm : m ≤ 26) (h : IVh m e0 N) (e : ∀ i, i = 7 ∨ i = 8 ∨ 67 ≤ i → B i = N i) : IVh m e0 B := by
  obtain ⟨h, h1, h2, h3, h4⟩ := h
  refine ⟨h, by rw [e 7 (by omega), e 8 (by omega)]; exact h1, by rw [h2]; exact cntB_congr m (fun i hi => by rw [e (67 + i) (by omega)]), fun k hk => ?_, fun i hi => ?_⟩
  · rw [e (7 + k) (by omega), h3 k hk]
    exact congrArg nI (cntB_congr h (fun i hi => by rw [e (93 + 4 * i) (by omega)]))
  · rw [e (93 + 4 * i + 3) (by omega), e (93 + 4 * i + 2) (by omega)]
    exact h4 i hi
theorem RA.same {d : xN} {da : Nat → xN} {N B : xN} (h : RA d da N) (e : ∀ i, i < 7 → B i = N i) : RA d da B := by
  refine ⟨by rw [e 0 (by omega)]; exact h.1, fun k hk => ?_⟩
  rw [e (1 + k) (by omega), e (3 + k) (by omega), e (5 + k) (by omega)]
  exact h.2 k hk
theorem RP.same {da : Nat → xN} {N B : xN} (h : RP da N) (e : ∀ i, 17 ≤ i → i < 41 → B i = N i) : RP da B := by
  refine ⟨fun k hk q hq => ?_, fun q hq => ?_⟩
  · rw [h.1 k hk q hq]
    by_cases h8 : q < 8
    · rw [e (17 + q) (by omega) (by omega)]
    · simp [h8]
  · rw [e (25 + q) (by omega) (by omega), e (33 + q) (by omega) (by omega)]
    exact h.2 q hq
theorem RF.same {m b sp : Nat} {s : xN} {a : Nat → xN} {d : xN} {da : Nat → xN} {N B : xN} (hm : m ≤ 26) (h : RF m b sp s a d da N) (e : ∀ i, 41 ≤ i → i < 93 → B i = N i) : RF m b sp s a d da B := by
  refine ⟨fun k hk => ?_, fun p hp k hk => ?_, fun k hk => ?_⟩
  · rw [e (41 + k) (by omega) (by omega), e (67 + k) (by omega) (by omega)]
    exact h.1 k hk
  · rw [h.2.1 p hp k hk]
    by_cases h8 : k < m
    · rw [e (41 + k) (by omega) (by omega)]
    · simp [h8]
  · rw [h.2.2 k hk]
    by_cases h8 : k < m
    · rw [e (41 + k) (by omega) (by omega), e (67 + k) (by omega) (by omega)]
    · simp [h8]
theorem RH.same {d : xN} {da : Nat → xN} {N B : xN} (h : RH d da N) (e : ∀ i, i = 7 ∨ i = 8 ∨ 93 ≤ i → B i = N i) : RH d da B := by
  have e1 : hmP B = hmP N := by unfold hmP; rw [e 7 (by omega), e 8 (by omega)]
  refine ⟨by rw [e 7 (by omega), e 8 (by omega)]; exact h.1, fun i hi => ?_⟩
  rw [e1] at hi
  rw [e (93 + 4 * i) (by omega), e (93 + 4 * i + 1) (by omega), e (93 + 4 * i + 2) (by omega), e (93 + 4 * i + 3) (by omega)]
  exact h.2 i hi
end
section
/-! ===== the class: who is told, where one is ===== -/
theorem in_bI {k : Int32} {b : Nat} (hb : b < 1000) (P : Bool) : (k < 0 → bI (inP k 0 (nI b) && P) = 0) ∧ (nI (b + 1) ≤ k → bI (inP k 0 (nI b) && P) = 0) := by
  constructor
  · intro h
    have : inP k 0 (nI b) = false := by
      simp only [inP, decide_eq_false_iff_not, i32_le]
      simp only [i32_lt] at h
      intro h2
      have : (0 : Int32).toInt = 0 := rfl
      omega
    rw [this]; rfl
  · intro h
    have : inP k 0 (nI b) = false := by
      simp only [inP, decide_eq_false_iff_not, i32_le]
      simp only [i32_le] at h
      rw [nI_toInt (by omega)] at h ⊢
      intro h2
      omega
    rw [this]; rfl
theorem in_ok {k : Int32} {b : Nat} (hb : b < 1000) (h1 : ¬ k < 0) (h2 : ¬ nI (b + 1) ≤ k) : inP k 0 (nI b) = true := by
  simp only [inP, decide_eq_true_eq, i32_le]
  simp only [i32_le, i32_lt] at h1 h2
  rw [nI_toInt (by omega)] at h2 ⊢
  have : (0 : Int32).toInt = 0 := rfl
  omega
theorem cT_isPerson (L : xLn) (t : xN) (ta : Nat → xN) (k : Int32) : CT L mX6_isPerson 0 0 0 [.ref 0, .int k] (tolW 0 t ta) (fun r Y => r = some (.int (bI (inP k 0 (nI 7) && hasP (t 9) k))) ∧ Y = tolW 0 t ta) := by
  refine CT.of rfl (Nat.le_of_ble_eq_true rfl) (Nat.le_of_ble_eq_true rfl) ?_
  refine AJ.run kX6_isPerson [] 30 ⟨fun h => ⟨Or.inl rfl, ?_, rfl⟩, fun h => ⟨fun h2 => ⟨Or.inl rfl, ?_, rfl⟩, fun h2 => ⟨fun h3 => ⟨Or.inl rfl, ?_, rfl⟩, fun h3 => ⟨Or.inr rfl, ?_, rfl⟩⟩⟩⟩
  · rw [(in_bI (by omega) _).1 h]
  · rw [(in_bI (by omega) _).2 h2]
  · have h3 : ¬ t 9 >>> (k &&& 31) &&& 1 = 1 := h3
    rw [hasP_iff] at h3
    simp [h3, bI]
  · have h3 : t 9 >>> (k &&& 31) &&& 1 = 1 := h3
    rw [hasP_iff] at h3
    rw [in_ok (b := 7) (by omega) h h2, h3]; rfl
theorem cT_isTram (L : xLn) (t : xN) (ta : Nat → xN) (k : Int32) : CT L mX6_isTram 0 0 0 [.ref 0, .int k] (tolW 0 t ta) (fun r Y => r = some (.int (bI (inP k 0 (nI 1) && hasP (t 5) k))) ∧ Y = tolW 0 t ta) := by
  refine CT.of rfl (Nat.le_of_ble_eq_true rfl) (Nat.le_of_ble_eq_true rfl) ?_
  refine AJ.run kX6_isTram [] 30 ⟨fun h => ⟨Or.inl rfl, ?_, rfl⟩, fun h => ⟨fun h2 => ⟨Or.inl rfl, ?_, rfl⟩, fun h2 => ⟨fun h3 => ⟨Or.inl rfl, ?_, rfl⟩, fun h3 => ⟨Or.inr rfl, ?_, rfl⟩⟩⟩⟩
  · rw [(in_bI (by omega) _).1 h]
  · rw [(in_bI (by omega) _).2 h2]
  · have h3 : ¬ t 5 >>> (k &&& 31) &&& 1 = 1 := h3
    rw [hasP_iff] at h3
    simp [h3, bI]
  · have h3 : t 5 >>> (k &&& 31) &&& 1 = 1 := h3
    rw [hasP_iff] at h3
    rw [in_ok (b := 1) (by omega) h h2, h3]; rfl
theorem cT_isPlace (L : xLn) (t : xN) (ta : Nat → xN) (k : Int32) (l : Nat) (hl : t 0 = nI l) (h1 : 1 ≤ l) (h2 : l ≤ 12) : CT L mX6_isPlace 0 0 0 [.ref 0, .int k] (tolW 0 t ta) (fun r Y => r = some (.int (bI (inP k 0 (nI (l - 1))))) ∧ Y = tolW 0 t ta) := by
  refine CT.of rfl (Nat.le_of_ble_eq_true rfl) (Nat.le_of_ble_eq_true rfl) ?_
  have e : nI l = nI (l - 1 + 1) := by rw [Nat.sub_add_cancel h1]
  have f : ∀ P : Prop, P → P := fun _ h => h
  refine AJ.run kX6_isPlace [] 30 ⟨fun h => ⟨Or.inl rfl, ?_, rfl⟩, fun h => ⟨fun h3 => ⟨Or.inl rfl, ?_, rfl⟩, fun h3 => ⟨fun h4 => ⟨Or.inl rfl, ?_, rfl⟩, fun h4 => ⟨Or.inr rfl, ?_, rfl⟩⟩⟩⟩
  · have := (in_bI (b := l - 1) (by omega) true).1 h
    rw [Bool.and_true] at this
    rw [this]
  · have h3 : t 0 ≤ k := h3
    rw [hl, e] at h3
    have := (in_bI (b := l - 1) (by omega) true).2 h3
    rw [Bool.and_true] at this
    rw [this]
  · have h3 : ¬ t 0 ≤ k := h3
    have h4 : nI 12 ≤ k := h4
    exfalso
    rw [hl] at h3
    simp only [i32_le] at h3 h4
    rw [nI_toInt (by omega)] at h3 h4
    omega
  · have h3 : ¬ t 0 ≤ k := h3
    rw [hl, e] at h3
    rw [in_ok (by omega) h h3]; rfl
theorem nI_m1 {n : Nat} (h : n < 2 ^ 31) : ¬ nI n = -1 := by
  intro q
  rw [i32_eq, nI_toInt h] at q
  have : (-1 : Int32).toInt = -1 := rfl
  omega
theorem in_nI {p b : Nat} (hb : b < 1000) : inP (nI p) 0 (nI b) = decide (p ≤ b) ∨ 2 ^ 31 ≤ p := by
  by_cases h : p < 2 ^ 31
  · left
    simp only [inP, i32_le]
    rw [nI_toInt h, nI_toInt (by omega)]
    have : (0 : Int32).toInt = 0 := rfl
    congr 1
    simp only [eq_iff_iff]
    omega
  · right; omega
theorem in_nI' {p b : Nat} (hb : b < 1000) (hp : p < 2 ^ 31) : inP (nI p) 0 (nI b) = decide (p ≤ b) := by
  rcases in_nI (p := p) hb with h | h
  · exact h
  · omega
/-- whose tram: none, or one -/
theorem cD_tramOf (L : xLn) (d : xN) (da : Nat → xN) (t : xN) (ta : Nat → xN) (N : xN) (q : Nat) (hq : q < 8) (hP : RP da N) (hN : abO N) : CT L mX0_tramOf 0 0 0 [.ref 0, .int (nI q)] (dtW d da t ta) (fun r Y => r = some (.int (N (17 + q))) ∧ Y = dtW d da t ta) := by
  refine CT.of rfl (Nat.le_of_ble_eq_true rfl) (Nat.le_of_ble_eq_true rfl) ?_
  have b0 := hP.1 0 (by omega) q (by omega)
  have b1 := hP.1 1 (by omega) q (by omega)
  have key : ∀ k, k < 2 → (da 6 k >>> (nI q &&& 31) &&& 1 = 1 ↔ N (17 + q) = nI k) := by
    intro k hk
    rw [hasP_iff, hP.1 k hk q (by omega)]
    simp [hq]
  refine AJ.run kX0_tramOf [] 60 ⟨fun h => absurd h (by decide), fun h => ⟨0, rfl, by omega, fun h2 => ⟨fun h => absurd h (by decide), fun h => ⟨1, rfl, by omega, fun h3 => ⟨fun h => ⟨?_, rfl⟩, fun h => absurd (by decide) h⟩, fun h3 => ⟨?_, rfl⟩⟩⟩, fun h2 => ⟨?_, rfl⟩⟩⟩
  · have h2 : ¬ da 6 0 >>> (nI q &&& 31) &&& 1 = 1 := h2
    have h3 : ¬ da 6 1 >>> (nI q &&& 31) &&& 1 = 1 := h3
    rw [key 0 (by omega)] at h2
    rw [key 1 (by omega)] at h3
    rcases hN q hq with h | h | h
    · rw [h]
    · exact absurd h h2
    · exact absurd h h3
  · have h3 : da 6 1 >>> (nI q &&& 31) &&& 1 = 1 := h3
    rw [key 1 (by omega)] at h3
    rw [h3]; rfl
  · have h2 : da 6 0 >>> (nI q &&& 31) &&& 1 = 1 := h2
    rw [key 0 (by omega)] at h2
    rw [h2]; rfl
theorem IVp.ab {e : Nat} {s : xN} {a : Nat → xN} {N : xN} (h : IVp e s a N) : abO N := by
  intro p hp
  rcases (h p hp).1 with h1 | ⟨k, hk, h1, -⟩
  · exact Or.inl h1
  · rcases (show k = 0 ∨ k = 1 by omega) with rfl | rfl
    · exact Or.inr (Or.inl h1)
    · exact Or.inr (Or.inr h1)
theorem cD_placeOf (L : xLn) (d : xN) (da : Nat → xN) (t : xN) (ta : Nat → xN) (m e : Nat) (s : xN) (a : Nat → xN) (N : xN) (q : Nat) (hq : q < 8) (hT : RT m t ta s a) (hf : hasP (s 7) (nI q) = true) (hA : RA d da N) (hP : RP da N) (hI : IVp e s a N) : CT L mX0_placeOf 1 0 0 [.ref 0, .int (nI q)] (dtW d da t ta) (fun r Y => r = some (.int (plP N q)) ∧ Y = dtW d da t ta) := by
  refine CT.of rfl (Nat.le_of_ble_eq_true rfl) (Nat.le_of_ble_eq_true rfl) ?_
  have hN := hI.ab
  have e1 : bI (inP (nI q) 0 (nI 7) && hasP (t 9) (nI q)) = 1 := by
    rw [in_nI' (by omega) (by omega), hT.1.2.2.2.2.2.2.1, hf]
    have : q ≤ 7 := by omega
    simp [this, bI]
  have e2 := hT.2.2.1 q hq
  have e3 := (hI q hq).2.2.1
  have e4 := (hP.2 q hq).1
  refine AJ.run kX0_placeOf [] 30 ?_
  refine AJ.callP kX0_placeOf (cT_isPerson L t ta (nI q)) bX6_isPerson rfl (by decide +kernel) [13, 14, 15, 16, 17, 18, 19, 20, 21, 22] [] rfl rfl rfl rfl rfl rfl rfl rfl rfl rfl ?_
  rintro r rfl
  rw [e1]
  refine AJ.run kX0_placeOf [] 30 ⟨fun _ => ?_, fun h => absurd h (by decide)⟩
  refine AJ.callF kX0_placeOf (cD_tramOf L d da t ta N q hq hP hN) bX0_tramOf rfl (by decide +kernel) [] rfl rfl rfl rfl rfl rfl rfl rfl ?_
  rintro r Y ⟨rfl, rfl⟩
  refine ⟨rfl, rfl, ?_⟩
  refine AJ.run kX0_placeOf [] 30 ⟨fun h => ?_, fun h => ?_⟩
  · have h : N (17 + q) = -1 := h
    refine ⟨q, rfl, by omega, fun h2 => ⟨q, rfl, by omega, ?_, rfl⟩, fun h2 => ⟨q, rfl, by omega, ?_, rfl⟩⟩
    · have h2 : ¬ da 8 q = -1 := h2
      rw [e4] at h2
      show some (Value.int (ta 11 q)) = _
      rw [plP, if_pos h, e3, if_neg h2, e2.2]
    · have h2 : da 8 q = -1 := h2
      rw [e4] at h2
      show some (Value.int (ta 10 q)) = _
      rw [plP, if_pos h, e3, if_pos h2, e2.1]
  · have h : ¬ N (17 + q) = -1 := h
    rcases hN q hq with h2 | h2 | h2
    · exact absurd h2 h
    · refine ⟨0, h2, by omega, ?_, rfl⟩
      show some (Value.int (da 4 0)) = _
      rw [plP, if_neg h, h2, (hA.2 0 (by omega)).1, nI_clamp (by omega)]
    · refine ⟨1, h2, by omega, ?_, rfl⟩
      show some (Value.int (da 4 1)) = _
      rw [plP, if_neg h, h2, (hA.2 1 (by omega)).1, nI_clamp (by omega)]
end
section
/-! ===== the class: moods felt, the eldest cause ===== -/
theorem dt_gen {L : xLn} {M : xM} {n : Nat} {av : List Value} {X : List xE} {t : xN} {ta : Nat → xN} {P : xN → (Nat → xN) → Prop} (H : ∀ Q : Option Value → List xE → Prop, (∀ d da, P d da → Q none (dtW d da t ta)) → CT L M n 0 0 av X Q) : CT L M n 0 0 av X (dtQ t ta P) := H _ (fun d da h => ⟨rfl, d, da, h, rfl⟩)
theorem WD.mo {l m sp : Nat} {s : xN} {a : Nat → xN} (h : WD l m sp s a) : ∀ k, k < m → ∃ p kd t, p < 8 ∧ hasP (s 7) (nI p) = true ∧ kd < 3 ∧ t < 60 ∧ a 10 (3 * k) = nI p ∧ a 10 (3 * k + 1) = nI kd ∧ a 10 (3 * k + 2) = nI t := h.2.2.2.2.2.2.2.2.2
theorem RF_drop {l m sp g : Nat} {t : xN} {ta : Nat → xN} {s : xN} {a : Nat → xN} {d : xN} {da : Nat → xN} {N : xN} (hW : WD l m sp s a) (hT : RT m t ta s a) (h60 : g < 60) (hF : RF m g sp s a d da N) {d' : xN} (hd : d' 13 = d 13) (h12 : (g < sp ∧ d' 12 = d 12) ∨ (sp ≤ g ∧ d' 12 = d 12 &&& (ta 16 (g - sp) ^^^ -1))) : RF m (g + 1) sp s a d' da N := by
  refine ⟨fun k hk => by rw [hd]; exact hF.1 k hk, hF.2.1, fun k hk => ?_⟩
  have h3 := hF.2.2 k hk
  by_cases hkm : k < m
  · obtain ⟨p, kd, tt, -, -, -, ht, -, -, e3⟩ := hW.mo k hkm
    rw [e3, nI_clamp (by omega)] at h3 ⊢
    rcases h12 with ⟨q1, q2⟩ | ⟨q1, q2⟩
    · rw [q2, h3]
      congr 1
      simp only [eq_iff_iff]
      have : g ≤ tt + sp ∧ g + 1 ≤ tt + sp := by omega
      simp [this]
    · rw [q2, and_bit _ _ hk, not_bit _ hk, h3, hT.2.2.2.2 (g - sp) (by omega) k hk, e3]
      simp only [show (nI tt = nI (g - sp)) ↔ tt = g - sp from nI_eq (by omega) (by omega)]
      by_cases hz : tt = g - sp
      · have : ¬ g + 1 ≤ tt + sp := by omega
        rw [show decide (k < m ∧ tt = g - sp) = true by simp [hz, hkm], show decide (k < m ∧ ¬ N (41 + k) = -1 ∧ N (67 + k) = 0 ∧ hasP (s 30) (a 10 (3 * k + 1)) = true ∧ g + 1 ≤ tt + sp) = false by simp only [decide_eq_false_iff_not]; rintro ⟨-, -, -, -, z⟩; exact this z]
        simp
      · have : (g + 1 ≤ tt + sp) ↔ (g ≤ tt + sp) := by omega
        simp [this, hz]
  · have : hasP (d' 12) (nI k) = false := by
      rw [show decide (k < m ∧ ¬ N (41 + k) = -1 ∧ N (67 + k) = 0 ∧ hasP (s 30) (a 10 (3 * k + 1)) = true ∧ g ≤ (a 10 (3 * k + 2)).toNatClampNeg + sp) = false by simp [hkm]] at h3
      rcases h12 with ⟨q1, q2⟩ | ⟨q1, q2⟩
      · rw [q2, h3]
      · rw [q2, and_bit _ _ hk, h3]; rfl
    rw [this]
    simp [hkm]
theorem cD_drop (L : xLn) (d : xN) (da : Nat → xN) (t : xN) (ta : Nat → xN) (l m sp g : Nat) (s : xN) (a : Nat → xN) (N : xN) (hW : WD l m sp s a) (hT : RT m t ta s a) (hL : RLw s d) (hg : N 0 = nI g) (h60 : g < 60) (hA : RA d da N) (hF : RF m g sp s a d da N) : CT L mX0_dropStaleCauses 0 0 0 [.ref 0] (dtW d da t ta) (dtQ t ta (fun d' da' => da' = da ∧ (∀ i, i ≠ 12 → d' i = d i) ∧ RF m (g + 1) sp s a d' da N)) := by
  refine dt_gen fun Q fin => ?_
  refine CT.of rfl (Nat.le_of_ble_eq_true rfl) (Nat.le_of_ble_eq_true rfl) ?_
  obtain ⟨hs1, hs2, hs3⟩ := hW.2.2.2.1
  have e2 : d 2 = nI sp := hL.2.trans hs3
  have e3 : d 3 = nI g := hA.1.trans hg
  refine AJ.run kX0_dropStaleCauses [] 60 ⟨fun h => absurd h ?_, fun _ => ⟨fun h => fin d da ⟨rfl, fun _ _ => rfl, RF_drop hW hT h60 hF rfl (Or.inl ⟨?_, rfl⟩)⟩, fun h => ⟨g - sp, ?_, by omega, fin (upd d 12 (d 12 &&& (ta 16 (g - sp) ^^^ -1))) da ⟨rfl, fun i hi => pk_un hi, RF_drop hW hT h60 hF (pk_un (by omega)) (Or.inr ⟨?_, pk_us⟩)⟩⟩⟩⟩
  · show ¬ d 2 < 0
    rw [e2]; exact nI_pos (by omega)
  · have h : d 3 < d 2 := h
    rw [e2, e3, nI_ltI (by omega) (by omega)] at h
    exact h
  · have h : ¬ d 3 < d 2 := h
    rw [e2, e3, nI_ltI (by omega) (by omega)] at h
    show d 3 - d 2 = nI (g - sp)
    rw [e2, e3, pk_sub (by omega)]
  · have h : ¬ d 3 < d 2 := h
    rw [e2, e3, nI_ltI (by omega) (by omega)] at h
    omega
theorem RF_feel {l m sp g k p tt : Nat} {s : xN} {a : Nat → xN} {d : xN} {da : Nat → xN} {N : xN} (hm : m ≤ 26) (hk : k < m) (hp : p < l) (hl : l ≤ 12) (hsp : 1 ≤ sp) (h41 : N (41 + k) = -1) (h67 : N (67 + k) = 0) (ht : a 10 (3 * k + 2) = nI g) (h60 : g < 60) (hF : RF m (g + 1) sp s a d da N) {d' : xN} {da' : Nat → xN} (hd : d' 13 = d 13) (h10 : da' 10 = upd (da 10) k (nI p)) (h11 : da' 11 = upd (da 11) p (da 11 p ||| 1 <<< (nI k &&& 31))) (h12 : (hasP (s 30) (a 10 (3 * k + 1)) = true ∧ d' 12 = d 12 ||| 1 <<< (nI k &&& 31)) ∨ (hasP (s 30) (a 10 (3 * k + 1)) = false ∧ d' 12 = d 12)) : RF m (g + 1) sp s a d' da' (upd N (41 + k) (nI p)) := by
  refine ⟨fun i hi => ?_, fun p' hp' i hi => ?_, fun i hi => ?_⟩
  · rw [hd, h10, pk_un (show 67 + i ≠ 41 + k by omega)]
    refine ⟨?_, (hF.1 i hi).2⟩
    by_cases e : i = k
    · subst e; rw [pk_us, pk_us]
    · rw [pk_un e, pk_un (by omega)]; exact (hF.1 i hi).1
  · rw [h11]
    by_cases e : p' = p
    · subst e
      rw [pk_us, set_bit _ (by omega) hi, hF.2.1 p' hp' i hi]
      by_cases e2 : i = k
      · subst e2
        rw [pk_us]
        simp [hk]
      · rw [pk_un (by omega)]
        simp [e2]
    · rw [pk_un e, hF.2.1 p' hp' i hi]
      by_cases e2 : i = k
      · subst e2
        rw [pk_us, h41]
        have h1 : ¬ (-1 : Int32) = nI p' := fun q => nI_m1 (by omega) q.symm
        have h2 : ¬ nI p = nI p' := by rw [nI_eq (by omega) (by omega)]; omega
        simp [h1, h2]
      · rw [pk_un (by omega)]
  · rw [pk_un (show 67 + i ≠ 41 + k by omega)]
    have h3 := hF.2.2 i hi
    by_cases e2 : i = k
    · subst e2
      rw [h41, ht, nI_clamp (by omega)] at h3
      rw [pk_us, ht, nI_clamp (by omega)]
      have h1 : ¬ nI p = -1 := nI_m1 (by omega)
      have h2 : g + 1 ≤ g + sp := by omega
      rcases h12 with ⟨q1, q2⟩ | ⟨q1, q2⟩
      · rw [q2, set_bit _ (by omega) hi]
        simp [h1, h2, q1, h67, hk]
      · rw [q2, h3]
        simp [q1]
    · rw [pk_un (by omega)]
      rcases h12 with ⟨q1, q2⟩ | ⟨q1, q2⟩
      · rw [q2, set_bit _ (by omega) hi, h3]
        simp [e2]
      · rw [q2, h3]
theorem cD_feelMood (L : xLn) (d : xN) (da : Nat → xN) (t : xN) (ta : Nat → xN) (l m sp g k p : Nat) (s : xN) (a : Nat → xN) (N : xN) (hW : WD l m sp s a) (hT : RT m t ta s a) (hL : RLw s d) (h60 : g < 60) (hk : k < m) (hp : p < l) (h41 : N (41 + k) = -1) (h67 : N (67 + k) = 0) (ht : a 10 (3 * k + 2) = nI g) (hF : RF m (g + 1) sp s a d da N) : CT L mX0_feelMood 1 0 0 [.ref 0, .int (nI k), .int (nI p)] (dtW d da t ta) (dtQ t ta (fun d' da' => (∀ i, i ≠ 10 → i ≠ 11 → da' i = da i) ∧ (∀ i, i ≠ 12 → d' i = d i) ∧ RF m (g + 1) sp s a d' da' (upd N (41 + k) (nI p)))) := by
  refine dt_gen fun Q fin => ?_
  refine CT.of rfl (Nat.le_of_ble_eq_true rfl) (Nat.le_of_ble_eq_true rfl) ?_
  obtain ⟨l2, l12, hs0⟩ := hW.1
  have hm := hW.2.1
  have t0 : t 0 = nI l := hT.1.1.trans hs0
  have hsp := hW.2.2.2.1.1
  refine AJ.run kX0_feelMood [] 30 ?_
  refine AJ.callP kX0_feelMood (cT_isPlace L t ta (nI p) l t0 (by omega) l12) bX6_isPlace rfl (by decide +kernel) [13, 14, 15, 16, 17, 18, 19, 20, 21, 22] [] rfl rfl rfl rfl rfl rfl rfl rfl rfl rfl ?_
  rintro r rfl
  rw [in_nI' (by omega) (by omega), show decide (p ≤ l - 1) = true by simp; omega]
  have e14 : d 1 >>> (ta 14 k &&& 31) &&& 1 = 1 ↔ hasP (s 30) (a 10 (3 * k + 1)) = true := by rw [hasP_iff, hL.1, (hT.2.2.2.1 k hk).2.1]
  refine AJ.run kX0_feelMood [] 60 ⟨fun _ => ⟨k, rfl, by omega, p, rfl, by omega, p, rfl, by omega, k, rfl, by omega, fun h => ?_, fun h => ?_⟩, fun h => absurd h (by decide)⟩
  · have h : ¬ d 1 >>> (ta 14 k &&& 31) &&& 1 = 1 := h
    rw [e14] at h
    exact fin d (va_up (va_up da 10 (upd (da 10) k (nI p))) 11 (upd (da 11) p (da 11 p ||| 1 <<< (nI k &&& 31)))) ⟨fun i h1 h2 => by rw [va_up_ne _ _ h2, va_up_ne _ _ h1], fun _ _ => rfl, RF_feel (tt := 0) hm hk hp l12 hsp h41 h67 ht h60 hF rfl rfl rfl (Or.inr ⟨by simpa using h, rfl⟩)⟩
  · have h : d 1 >>> (ta 14 k &&& 31) &&& 1 = 1 := h
    rw [e14] at h
    exact fin (upd d 12 (d 12 ||| 1 <<< (nI k &&& 31))) (va_up (va_up da 10 (upd (da 10) k (nI p))) 11 (upd (da 11) p (da 11 p ||| 1 <<< (nI k &&& 31)))) ⟨fun i h1 h2 => by rw [va_up_ne _ _ h2, va_up_ne _ _ h1], fun i hi => pk_un hi, RF_feel (tt := 0) hm hk hp l12 hsp h41 h67 ht h60 hF rfl rfl rfl (Or.inl ⟨h, rfl⟩)⟩
theorem feltL_hi (mo N : xN) : ∀ k i, 41 + k ≤ i → feltL mo N k i = N i
  | 0, _, _ => rfl
  | k + 1, i, h => by
    rw [feltL, feltF]
    split
    · rw [pk_un (by omega), feltL_hi mo N k i (by omega)]
    · exact feltL_hi mo N k i (by omega)
theorem feltL_none (mo N : xN) : ∀ k, (∀ i, i < k → ¬ mo (3 * i + 2) = N 0) → k ≤ 26 → feltL mo N k = N
  | 0, _, _ => rfl
  | k + 1, h, hk => by
    rw [feltL, feltL_none mo N k (fun i hi => h i (by omega)) (by omega), feltF, if_neg (h k (by omega))]
theorem plP_same {N B : xN} {q : Nat} (hq : q < 8) (hN : abO N) (e : ∀ i, i < 25 → B i = N i) : plP B q = plP N q := by
  unfold plP
  rw [e (17 + q) (by omega), e (9 + q) (by omega)]
  rcases hN q hq with h | h | h
  · rw [if_pos h, if_pos h]
  · rw [h, nI_clamp (by omega), e (1 + 0) (by omega)]
  · rw [h, nI_clamp (by omega), e (1 + 1) (by omega)]
/-- where one is, is a place -/
theorem plP_in {l m sp g e : Nat} {s : xN} {a : Nat → xN} {N : xN} (hW : WD l m sp s a) (hI : IVa l g s N) (hp : IVp e s a N) {q : Nat} (hq : q < 8) (hf : hasP (s 7) (nI q) = true) : ∃ p, p < l ∧ plP N q = nI p := by
  obtain ⟨b, h, hb, hh, e1, e2⟩ := hW.2.2.2.2.2.2.2.2.1 q hq hf
  obtain ⟨p1, p2, p3, p4⟩ := hp q hq
  unfold plP
  rcases p1 with p1 | ⟨k, hk, p1, p5, -⟩
  · rw [if_pos p1, p3]
    split
    · exact ⟨b, hb, e1⟩
    · exact ⟨h, hh, e2⟩
  · rw [p1, if_neg (nI_m1 (by omega)), nI_clamp (by omega)]
    exact (hI.2 k hk).1 p5
end
section
/-! ===== the class: all moods of a minute, the eldest cause of a place ===== -/
/-- the moods' part alone may have changed -/
def smM (d d' : xN) (da da' : Nat → xN) : Prop := (∀ i, i ≠ 10 → i ≠ 11 → da' i = da i) ∧ ∀ i, i ≠ 12 → d' i = d i
theorem smM.rf (d : xN) (da : Nat → xN) : smM d d da da := ⟨fun _ _ _ => rfl, fun _ _ => rfl⟩
theorem smM.tr {d d1 d2 : xN} {da da1 da2 : Nat → xN} (h : smM d d1 da da1) (h2 : smM d1 d2 da1 da2) : smM d d2 da da2 := ⟨fun i a b => (h2.1 i a b).trans (h.1 i a b), fun i a => (h2.2 i a).trans (h.2 i a)⟩
theorem smM.A {d d' : xN} {da da' : Nat → xN} {N : xN} (h : smM d d' da da') (hA : RA d da N) : RA d' da' N := by
  refine ⟨by rw [h.2 3 (by omega)]; exact hA.1, fun k hk => ?_⟩
  rw [h.1 4 (by omega) (by omega), h.1 5 (by omega) (by omega), h.2 7 (by omega)]
  exact hA.2 k hk
theorem smM.P {d d' : xN} {da da' : Nat → xN} {N : xN} (h : smM d d' da da') (hP : RP da N) : RP da' N := by
  refine ⟨fun k hk => ?_, fun q hq => ?_⟩
  · rw [h.1 6 (by omega) (by omega)]; exact hP.1 k hk
  · rw [h.1 8 (by omega) (by omega), h.1 9 (by omega) (by omega)]; exact hP.2 q hq
theorem smM.H {d d' : xN} {da da' : Nat → xN} {N : xN} (h : smM d d' da da') (hH : RH d da N) : RH d' da' N := by
  refine ⟨by rw [h.2 20 (by omega)]; exact hH.1, fun i hi => ?_⟩
  rw [h.1 20 (by omega) (by omega), h.1 21 (by omega) (by omega), h.1 22 (by omega) (by omega), h.1 23 (by omega) (by omega)]
  exact hH.2 i hi
theorem smM.L {s d d' : xN} {da da' : Nat → xN} (h : smM d d' da da') (hL : RLw s d) : RLw s d' := by
  refine ⟨by rw [h.2 1 (by omega)]; exact hL.1, by rw [h.2 2 (by omega)]; exact hL.2⟩
set_option maxHeartbeats 1000000 in
theorem cD_feelMoods (L : xLn) (d : xN) (da : Nat → xN) (t : xN) (ta : Nat → xN) (l m sp g e : Nat) (s : xN) (a : Nat → xN) (N : xN) (hW : WD l m sp s a) (hT : RT m t ta s a) (hL : RLw s d) (h60 : g < 60) (hI : IVa l g s N) (hIp : IVp e s a N) (hIm : IVm l m g a N) (hA : RA d da N) (hP : RP da N) (hF : RF m (g + 1) sp s a d da N) : CT L mX0_feelMoods 2 0 0 [.ref 0] (dtW d da t ta) (dtQ t ta (fun d' da' => smM d d' da da' ∧ RF m (g + 1) sp s a d' da' (feltL (a 10) N m))) := by
  refine dt_gen fun Q fin => ?_
  refine CT.of rfl (Nat.le_of_ble_eq_true rfl) (Nat.le_of_ble_eq_true rfl) ?_
  have hm := hW.2.1
  have hg := hI.1.1
  have e3 : d 3 = nI g := hA.1.trans hg
  have bit : ∀ k, k < m → (hasP (ta 16 g) (nI k) = true ↔ a 10 (3 * k + 2) = N 0) := by
    intro k hk
    rw [hT.2.2.2.2 g h60 k (by omega), hg]
    simp [hk]
  have loop : ∀ (n k : Nat) (d' : xN) (da' : Nat → xN), k + n = m → smM d d' da da' → RF m (g + 1) sp s a d' da' (feltL (a 10) N k) → AJ L mX0_feelMoods 2 0 0 Q (dtW d da t ta).length (0, 0) 20 [some (.ref 0), some (.int (ta 16 g)), some (.int (nI k))] [] (dtW d' da' t ta) := by
    intro n
    induction n with
    | zero =>
      intro k d' da' hk h1 h2
      obtain rfl : k = m := by omega
      refine AJ.run kX0_feelMoods [20] 30 ⟨fun _ => fin d' da' ⟨h1, h2⟩, fun hz => absurd ?_ hz⟩
      show t 12 ≤ nI k
      rw [hT.1.2.2.2.2.2.2.2]; exact nI_le (by omega) (by omega)
    | succ n ih =>
      intro k d' da' hk h1 h2
      have nxt := fun d'' da'' x y => ih (k + 1) d'' da'' (by omega) x y
      rw [nI_succ, feltL] at nxt
      have hlo : ∀ i, i < 41 → feltL (a 10) N k i = N i := fun i hi => feltL_out (a 10) N (Or.inl hi) k (by omega)
      have h41 : feltL (a 10) N k (41 + k) = N (41 + k) := feltL_hi (a 10) N k (41 + k) (by omega)
      have h67 : feltL (a 10) N k (67 + k) = N (67 + k) := feltL_hi (a 10) N k (67 + k) (by omega)
      obtain ⟨p, kd, tt, hp8, hpf, -, ht, e1, -, e2⟩ := hW.mo k (by omega)
      generalize feltL (a 10) N k = B at h2 nxt hlo h41 h67
      have hb := bit k (by omega)
      refine AJ.run kX0_feelMoods [20] 60 ⟨fun hz => absurd hz ?_, fun hz => ⟨fun h3 => ?_, fun h3 => ⟨k, rfl, by omega, ?_⟩⟩⟩
      · show ¬ t 12 ≤ nI k
        rw [hT.1.2.2.2.2.2.2.2]; exact nI_ge (by omega) (by omega)
      · have h3 : ¬ ta 16 g >>> (nI k &&& 31) &&& 1 = 1 := h3
        rw [hasP_iff, hb, ← hlo 0 (by omega)] at h3
        rw [feltF, if_neg h3] at nxt
        exact nxt d' da' h1 h2
      · have h3 : ta 16 g >>> (nI k &&& 31) &&& 1 = 1 := h3
        rw [hasP_iff, hb] at h3
        have h0 := h3
        rw [← hlo 0 (by omega)] at h3
        rw [feltF, if_pos h3] at nxt
        have e13 : ta 13 k = nI p := (hT.2.2.2.1 k (by omega)).1.trans e1
        have hIB : IVp e s a B := hIp.same (fun i h _ => hlo i (by omega))
        have hIA : IVa l g s B := hI.same (fun i h => hlo i (by omega))
        obtain ⟨pp, hpp, epp⟩ := plP_in hW hIA hIB hp8 hpf
        rw [e1, nI_clamp (by omega), epp] at nxt
        have cp := cD_placeOf L d' da' t ta m e s a B p hp8 hT hpf ((h1.A hA).same (fun i h => hlo i (by omega))) ((h1.P hP).same (fun i _ h => hlo i (by omega))) hIB
        rw [epp, ← e13] at cp
        refine AJ.callF kX0_feelMoods cp bX0_placeOf rfl (by decide +kernel) [.int (nI k), .ref 0] rfl rfl rfl rfl rfl rfl rfl rfl ?_
        rintro r Y ⟨rfl, rfl⟩
        refine ⟨rfl, rfl, ?_⟩
        rw [hg] at h0
        have u1 : N (41 + k) = -1 := ((hIm k (by omega)).2.2.2.2 (by omega) g (Nat.le_refl _) h60 h0)
        have u2 : N (67 + k) = 0 := (hIm k (by omega)).2.2.1 u1
        have cf := cD_feelMood L d' da' t ta l m sp g k pp s a B hW hT (h1.L hL) h60 (by omega) hpp (h41.trans u1) (h67.trans u2) h0 h2
        refine AJ.run kX0_feelMoods [20] 30 ?_
        refine AJ.callF kX0_feelMoods cf bX0_feelMood rfl (by decide +kernel) [] rfl rfl rfl rfl rfl rfl rfl rfl ?_
        rintro r Y ⟨rfl, d2, da2, ⟨q1, q2, q3⟩, rfl⟩
        refine ⟨rfl, rfl, ?_⟩
        exact AJ.run kX0_feelMoods [20] 30 (nxt d2 da2 (h1.tr ⟨q1, q2⟩) q3)
  refine AJ.run kX0_feelMoods [20] 60 ⟨g, e3, h60, fun h => loop m 0 d da (by omega) (smM.rf d da) hF, fun h => ?_⟩
  have h : ta 16 g = 0 := h
  have := feltL_none (a 10) N m (fun i hi => by rw [← bit i hi, h, zero_bit (by omega)]; simp) hm
  refine fin d da ⟨smM.rf d da, ?_⟩
  rw [this]; exact hF
theorem isC_iff {l m sp g k v : Nat} {s : xN} {a : Nat → xN} {d : xN} {da : Nat → xN} {N : xN} (hW : WD l m sp s a) (hg : N 0 = nI g) (h60 : g < 60) (hv : v < l) (hk : k < m) (hF : RF m (g + 1) sp s a d da N) : hasP (da 11 v &&& d 12) (nI k) = isC (s 30) (s 31) (a 10) N (nI v) k := by
  have hm := hW.2.1
  have hl := hW.1.2.1
  obtain ⟨p, kd, tt, -, -, -, ht, -, -, e2⟩ := hW.mo k hk
  obtain ⟨s1, s2, s3⟩ := hW.2.2.2.1
  rw [and_bit _ _ (by omega), hF.2.1 v (by omega) k (by omega), hF.2.2 k (by omega)]
  unfold isC
  rw [e2, s3, hg, nI_clamp (by omega)]
  have e : (nI g - nI tt < nI sp) ↔ g + 1 ≤ tt + sp := by
    rw [i32_lt, pk_sub_toInt (by omega) (by omega), nI_toInt (by omega)]
    omega
  simp only [e]
  by_cases h1 : N (41 + k) = nI v
  · have : ¬ N (41 + k) = -1 := by rw [h1]; exact nI_m1 (by omega)
    have n1 : ¬ nI v = -1 := nI_m1 (by omega)
    simp only [h1, hk, n1, not_false_eq_true, true_and, decide_true, Bool.true_and]
    by_cases h2 : N (67 + k) = 0 <;> by_cases h3 : hasP (s 30) (a 10 (3 * k + 1)) = true <;> simp [h2, h3]
  · simp [h1]
set_option maxHeartbeats 1000000 in
theorem cD_eldestCause (L : xLn) (d : xN) (da : Nat → xN) (t : xN) (ta : Nat → xN) (l m sp g v : Nat) (s : xN) (a : Nat → xN) (N : xN) (hW : WD l m sp s a) (hT : RT m t ta s a) (hg : N 0 = nI g) (h60 : g < 60) (hv : v < l) (hF : RF m (g + 1) sp s a d da N) : CT L mX0_eldestCause 1 0 0 [.ref 0, .int (nI v)] (dtW d da t ta) (fun r Y => r = some (.int (caP (s 30) (s 31) (a 10) N (nI v) m)) ∧ Y = dtW d da t ta) := by
  obtain ⟨l2, l12, hs0⟩ := hW.1
  have hm := hW.2.1
  have t0 : t 0 = nI l := hT.1.1.trans hs0
  have hC : ∀ k, k < m → hasP (da 11 v &&& d 12) (nI k) = isC (s 30) (s 31) (a 10) N (nI v) k := fun k hk => isC_iff hW hg h60 hv hk hF
  obtain ⟨G, hG⟩ : ∃ G : Nat → Int32, G = fun k => caP (s 30) (s 31) (a 10) N (nI v) k := ⟨_, rfl⟩
  have G0 : G 0 = -1 := by rw [hG]; rfl
  have Gs : ∀ k, k < m → G (k + 1) = if hasP (da 11 v &&& d 12) (nI k) = true ∧ (G k = -1 ∨ a 10 (3 * k + 2) < a 10 (3 * (G k).toNatClampNeg + 2)) then nI k else G k := by
    intro k hk
    rw [hC k hk, hG]
    rfl
  have Gi : ∀ k, G k = -1 ∨ ∃ c, c < k ∧ G k = nI c := by
    intro k; rw [hG]; exact caP_in _ _ _ _ _ k
  rw [show caP (s 30) (s 31) (a 10) N (nI v) m = G m by rw [hG]]
  clear hG hC
  refine CT.of rfl (Nat.le_of_ble_eq_true rfl) (Nat.le_of_ble_eq_true rfl) ?_
  have loop : ∀ (n k : Nat) (x5 : Option Value), k + n = m → oI x5 → AJ L mX0_eldestCause 1 0 0 (fun r Y => r = some (.int (G m)) ∧ Y = dtW d da t ta) (dtW d da t ta).length (0, 0) 38 [some (.ref 0), some (.int (nI v)), some (.int (da 11 v &&& d 12)), some (.int (G k)), some (.int (nI k)), x5] [] (dtW d da t ta) := by
    intro n
    induction n with
    | zero =>
      intro k x5 hk hx
      obtain rfl : k = m := by omega
      refine AJ.run kX0_eldestCause [38] 30 ⟨fun _ => ⟨rfl, rfl⟩, fun hz => absurd ?_ hz⟩
      show t 12 ≤ nI k
      rw [hT.1.2.2.2.2.2.2.2]; exact nI_le (by omega) (by omega)
    | succ n ih =>
      intro k x5 hk hx
      have nxt := fun x5' h => ih (k + 1) x5' (by omega) h
      rw [nI_succ, Gs k (by omega)] at nxt
      have tk : ta 15 k = a 10 (3 * k + 2) := (hT.2.2.2.1 k (by omega)).2.2
      refine AJ.run kX0_eldestCause [38] 100 ⟨fun hz => absurd hz ?_, fun hz => ⟨fun h3 => ⟨fun _ => ?_, fun hz => absurd rfl hz⟩, fun h3 => ⟨fun hz => absurd hz (by decide), fun _ => ⟨fun h4 => ?_, fun h4 => ?_⟩⟩⟩⟩
      · show ¬ t 12 ≤ nI k
        rw [hT.1.2.2.2.2.2.2.2]; exact nI_ge (by omega) (by omega)
      · have h3 : ¬ (da 11 v &&& d 12) >>> (nI k &&& 31) &&& 1 = 1 := h3
        rw [hasP_iff] at h3
        have := nxt (some (.int 0)) (Or.inr ⟨_, rfl⟩)
        rw [if_neg (by rintro ⟨z, -⟩; exact h3 z)] at this
        exact this
      · have h3 : (da 11 v &&& d 12) >>> (nI k &&& 31) &&& 1 = 1 := h3
        rw [hasP_iff] at h3
        have h4 : G k = -1 := h4
        have := nxt (some (.int 1)) (Or.inr ⟨_, rfl⟩)
        rw [if_pos ⟨h3, Or.inl h4⟩] at this
        exact this
      · have h3 : (da 11 v &&& d 12) >>> (nI k &&& 31) &&& 1 = 1 := h3
        rw [hasP_iff] at h3
        have h4 : ¬ G k = -1 := h4
        rcases Gi k with h5 | ⟨c, hc, h5⟩
        · exact absurd h5 h4
        have tc : ta 15 c = a 10 (3 * c + 2) := (hT.2.2.2.1 c (by omega)).2.2
        refine ⟨k, rfl, by omega, c, h5, by omega, fun h6 => ?_, fun h6 => ?_⟩
        · have h6 : ta 15 c ≤ ta 15 k := h6
          have := nxt (some (.int 1)) (Or.inr ⟨_, rfl⟩)
          rw [if_neg ?_] at this
          · exact this
          · rintro ⟨-, z | z⟩
            · exact h4 z
            · rw [h5, nI_clamp (by omega), ← tc, ← tk] at z
              simp only [i32_lt, i32_le] at h6 z
              omega
        · have h6 : ¬ ta 15 c ≤ ta 15 k := h6
          have := nxt (some (.int 1)) (Or.inr ⟨_, rfl⟩)
          have hlt : a 10 (3 * k + 2) < a 10 (3 * (G k).toNatClampNeg + 2) := by
            rw [h5, nI_clamp (by omega), ← tc, ← tk]
            simp only [i32_lt, i32_le] at h6 ⊢
            omega
          rw [if_pos ⟨h3, Or.inr hlt⟩] at this
          exact this
  have none_ : da 11 v &&& d 12 = 0 → G m = -1 := by
    intro h
    have : ∀ k, k ≤ m → G k = -1 := by
      intro k
      induction k with
      | zero => exact fun _ => G0
      | succ k ih =>
        intro hk
        rw [Gs k (by omega), if_neg (by rw [h, zero_bit (by omega)]; simp), ih (by omega)]
    exact this m (Nat.le_refl _)
  refine AJ.run kX0_eldestCause [] 30 ?_
  refine AJ.callP kX0_eldestCause (cT_isPlace L t ta (nI v) l t0 (by omega) l12) bX6_isPlace rfl (by decide +kernel) [13, 14, 15, 16, 17, 18, 19, 20, 21, 22] [] rfl rfl rfl rfl rfl rfl rfl rfl rfl rfl ?_
  rintro r rfl
  rw [in_nI' (by omega) (by omega), show decide (v ≤ l - 1) = true by simp; omega]
  refine AJ.run kX0_eldestCause [38] 60 ⟨fun h => absurd h (by decide), fun _ => ⟨v, rfl, by omega, fun h => ?_, fun h => ⟨?_, rfl⟩⟩⟩
  · have := loop m 0 none (by omega) (Or.inl rfl)
    rw [G0] at this
    exact this
  · have h : da 11 v &&& d 12 = 0 := h
    rw [none_ h]
end
section
/-! ===== the class: a tram goes on; halts; people get off and on ===== -/
theorem oweL_at (fo fa : Int32) (k : Nat) (N : xN) {q : Nat} (hq : q < 8) : ∀ n, n ≤ 8 → oweL fo fa k N n (33 + q) = if q < n then N (33 + q) + (if hasP fo (nI q) = true ∧ N (17 + q) = nI k then fa else 0) else N (33 + q)
  | 0, _ => by rw [oweL, if_neg (by omega)]
  | n + 1, hn => by
    have ih := oweL_at fo fa k N hq n (by omega)
    rw [oweL]
    by_cases e : q = n
    · subst e
      rw [pk_us, if_pos (show q < q + 1 by omega), ih, if_neg (by omega), oweL_out fo fa k N q (by omega) (Or.inl (by omega))]
    · rw [pk_un (by omega), ih]
      by_cases h : q < n
      · rw [if_pos h, if_pos (show q < n + 1 by omega)]
      · rw [if_neg h, if_neg (show ¬ q < n + 1 by omega)]
/-- the tram's part alone may have changed -/
def smA (d d' : xN) (da da' : Nat → xN) : Prop := (∀ i, i ≠ 4 → i ≠ 5 → i ≠ 9 → da' i = da i) ∧ ∀ i, i ≠ 7 → d' i = d i
theorem RA_move {l k v pl : Nat} {N d d' : xN} {da da' : Nat → xN} (hk : k < 2) (hl : 2 ≤ l) (h12 : l ≤ 12) (hv : v < l) (hp : nI pl = nI l) (h1 : N (1 + k) = nI v) (h3 : N (3 + k) = 0 ∨ N (3 + k) = 1) (hA : RA d da N) (d3 : d' 3 = d 3) (d7 : d' 7 = d 7 &&& (1 <<< (nI k &&& 31) ^^^ -1)) {w : Int32}
    (hw : (v = 0 ∧ w = 0) ∨ (0 < v ∧ v + 1 = l ∧ w = 1) ∨ (0 < v ∧ v + 1 < l ∧ w = N (3 + k))) (h5 : ∀ i, i < 2 → da' 5 i = upd (da 5) k w i) (h4 : da' 4 = upd (da 4) k (nI v + (if w = 0 then 1 else -1))) : RA d' da' (onA (nI l) N k) := by
  have hwy : wayP (nI l) N k = w := by
    unfold wayP
    rw [h1]
    have e1 : nI l - 1 = nI (l - 1) := by
      have := pk_sub (a := l) (b := 1) (by omega)
      rw [← this]; rfl
    rw [e1]
    have e2 : (nI v = nI (l - 1)) ↔ v = l - 1 := nI_eq (by omega) (by omega)
    have e3 : (nI v = 0) ↔ v = 0 := nI_eq (b := 0) (by omega) (by omega)
    simp only [e2, e3]
    rcases hw with ⟨a1, rfl⟩ | ⟨a1, a2, rfl⟩ | ⟨a1, a2, rfl⟩ <;> rcases h3 with h3 | h3 <;> rw [h3]
    · rw [if_neg (by rw [if_pos rfl]; omega)]
    · rw [if_pos (by rw [if_neg (by decide)]; exact a1)]; rfl
    · rw [if_pos (by rw [if_pos rfl]; omega)]; rfl
    · rw [if_neg (by rw [if_neg (by decide)]; omega)]
    · rw [if_neg (by rw [if_pos rfl]; omega)]
    · rw [if_neg (by rw [if_neg (by decide)]; omega)]
  unfold onA
  rw [hwy, h1]
  refine ⟨?_, fun j hj => ?_⟩
  · rw [d3, pk_un (by omega), pk_un (by omega), pk_un (by omega)]; exact hA.1
  obtain ⟨a1, a2, a3⟩ := hA.2 j hj
  rw [h4, h5 j hj, d7, clr_bit _ (by omega) (by omega)]
  by_cases e : j = k
  · subst e
    refine ⟨?_, ?_, ?_⟩
    · rw [pk_us, pk_un (by omega), pk_us]
    · rw [pk_us, pk_un (by omega), pk_un (by omega), pk_us]
    · rw [pk_us]; simp [bI]
  · refine ⟨?_, ?_, ?_⟩
    · rw [pk_un e, pk_un (by omega), pk_un (by omega), pk_un (by omega), a1]
    · rw [pk_un e, pk_un (by omega), pk_un (by omega), pk_un (by omega), a2]
    · rw [pk_un (by omega), pk_un (by omega), pk_un (by omega), a3]
      simp [e]
/-- what those aboard owe -/
theorem cD_mv_loop (L : xLn) (Q : Option Value → List xE → Prop) (d : xN) (da : Nat → xN) (t : xN) (ta : Nat → xN) (k n0 : Nat) (hk : k < 2) (F : xN) (B : Nat → Prop) (hB : ∀ q, q < 8 → (hasP (da 6 k) (nI q) = true ↔ B q))
    (fin : ∀ f9 : xN, (∀ q, q < 8 → (B q → f9 q = F q + t 4) ∧ (¬ B q → f9 q = F q)) → Q none (dtW d (va_up da 9 f9) t ta)) :
    ∀ (n q : Nat) (f9 : xN), q + n = 8 → (∀ i, i < 8 → (i < q ∧ B i → f9 i = F i + t 4) ∧ (¬ (i < q ∧ B i) → f9 i = F i)) → AJ L mX0_moveOn 0 0 0 Q n0 (0, 0) 93 [some (.ref 0), some (.int (nI k)), some (.int (nI q))] [] (dtW d (va_up da 9 f9) t ta) := by
  intro n
  induction n with
  | zero =>
    intro q f9 hq h9
    obtain rfl : q = 8 := by omega
    exact AJ.run kX0_moveOn [93] 30 ⟨fun _ => fin f9 (fun i hi => ⟨fun z => (h9 i hi).1 ⟨hi, z⟩, fun z => (h9 i hi).2 (fun y => z y.2)⟩), fun hz => absurd (by decide) hz⟩
  | succ n ih =>
    intro q f9 hq h9
    have nxt := fun f h => ih (q + 1) f (by omega) h
    rw [nI_succ] at nxt
    refine AJ.run kX0_moveOn [93] 60 ⟨fun hz => absurd hz (nI_ge (b := 8) (by omega) (by omega)), fun hz => ⟨k, rfl, by omega, fun h5 => ?_, fun h5 => ⟨q, rfl, by omega, q, rfl, by omega, ?_⟩⟩⟩
    · have h5 : ¬ da 6 k >>> (nI q &&& 31) &&& 1 = 1 := h5
      rw [hasP_iff, hB q (by omega)] at h5
      refine nxt f9 (fun i hi => ?_)
      by_cases e : i = q
      · subst e
        exact ⟨fun z => absurd z.2 h5, fun _ => (h9 i hi).2 (fun y => h5 y.2)⟩
      · exact ⟨fun z => (h9 i hi).1 ⟨by omega, z.2⟩, fun z => (h9 i hi).2 (fun y => z ⟨by omega, y.2⟩)⟩
    · have h5 : da 6 k >>> (nI q &&& 31) &&& 1 = 1 := h5
      rw [hasP_iff, hB q (by omega)] at h5
      refine nxt (upd f9 q (f9 q + t 4)) (fun i hi => ?_)
      by_cases e : i = q
      · subst e
        rw [pk_us]
        refine ⟨fun _ => ?_, fun z => absurd ⟨by omega, h5⟩ z⟩
        rw [(h9 i hi).2 (fun y => by omega)]
      · rw [pk_un e]
        exact ⟨fun z => (h9 i hi).1 ⟨by omega, z.2⟩, fun z => (h9 i hi).2 (fun y => z ⟨by omega, y.2⟩)⟩
/-- the tram's step, by its way -/
theorem cD_mv_step (L : xLn) (Q : Option Value → List xE → Prop) (d : xN) (da : Nat → xN) (t : xN) (ta : Nat → xN) (k n0 : Nat) (hk : k < 2)
    (nxt : ∀ x : Int32, (da 5 k = 0 ∧ x = 1 ∨ ¬ da 5 k = 0 ∧ x = -1) → (da 6 k = 0 → Q none (dtW (upd d 7 (d 7 &&& (1 <<< (nI k &&& 31) ^^^ -1))) (va_up da 4 (upd (da 4) k (da 4 k + x))) t ta)) ∧ AJ L mX0_moveOn 0 0 0 Q n0 (0, 0) 93 [some (.ref 0), some (.int (nI k)), some (.int (nI 0))] [] (dtW (upd d 7 (d 7 &&& (1 <<< (nI k &&& 31) ^^^ -1))) (va_up da 4 (upd (da 4) k (da 4 k + x))) t ta)) :
    AJ L mX0_moveOn 0 0 0 Q n0 (0, 0) 44 [some (.ref 0), some (.int (nI k)), none] [] (dtW d da t ta) := by
  refine AJ.run kX0_moveOn [93, 65] 100 ⟨k, rfl, by omega, k, rfl, by omega, fun h5 => ?_, fun h5 => ?_⟩
  · have n1 := nxt (-1) (Or.inr ⟨h5, rfl⟩)
    exact AJ.run kX0_moveOn [93] 100 ⟨k, rfl, by omega, k, rfl, by omega, fun h6 => n1.2, fun h6 => n1.1 h6⟩
  · have n1 := nxt 1 (Or.inl ⟨h5, rfl⟩)
    exact AJ.run kX0_moveOn [93] 100 ⟨k, rfl, by omega, k, rfl, by omega, fun h6 => n1.2, fun h6 => n1.1 h6⟩
end
section
theorem l_m1 {l : Nat} (h : 1 ≤ l) : nI l - 1 = nI (l - 1) := by
  have := pk_sub (a := l) (b := 1) h
  rw [← this]; rfl
theorem goOn_owe {s N : xN} {k : Nat} (hk : k < 2) (hf : ∀ q, q < 8 → N (17 + q) = nI k → hasP (s 7) (nI q) = true) {q : Nat} (hq : q < 8) : (N (17 + q) = nI k → goOnP (s 0) (s 7) (s 4) N k (33 + q) = N (33 + q) + s 4) ∧ (¬ N (17 + q) = nI k → goOnP (s 0) (s 7) (s 4) N k (33 + q) = N (33 + q)) := by
  unfold goOnP
  rw [oweL_at _ _ _ _ hq 8 (by omega), if_pos hq, onA_out _ _ (by omega), onA_out _ _ (by omega)]
  constructor
  · intro e
    rw [if_pos ⟨hf q hq e, e⟩]
  · intro e
    rw [if_neg (by rintro ⟨-, z⟩; exact e z)]
    simp
theorem cD_moveOn (L : xLn) (d : xN) (da : Nat → xN) (t : xN) (ta : Nat → xN) (l m sp k v : Nat) (s : xN) (a : Nat → xN) (N : xN) (hk : k < 2) (hW : WD l m sp s a) (hT : RT m t ta s a) (hv : v < l) (h1 : N (1 + k) = nI v) (h3 : N (3 + k) = 0 ∨ N (3 + k) = 1) (hA : RA d da N) (hP : RP da N) (hf : ∀ q, q < 8 → N (17 + q) = nI k → hasP (s 7) (nI q) = true) : CT L mX0_moveOn 0 0 0 [.ref 0, .int (nI k)] (dtW d da t ta) (dtQ t ta (fun d' da' => smA d d' da da' ∧ RA d' da' (goOnP (s 0) (s 7) (s 4) N k) ∧ RP da' (goOnP (s 0) (s 7) (s 4) N k))) := by
  refine dt_gen fun Q fin => ?_
  refine CT.of rfl (Nat.le_of_ble_eq_true rfl) (Nat.le_of_ble_eq_true rfl) ?_
  obtain ⟨l2, l12, hs0⟩ := hW.1
  have t0 : t 0 = nI l := hT.1.1.trans hs0
  have t4 : t 4 = s 4 := hT.1.2.2.2.2.1
  have a4 : da 4 k = nI v := (hA.2 k hk).1.trans h1
  have bit : ∀ q, q < 8 → (hasP (da 6 k) (nI q) = true ↔ N (17 + q) = nI k) := by
    intro q hq
    rw [hP.1 k hk q (by omega)]
    simp [hq]
  -- what holds at the end
  have mk : ∀ (w : Int32) (d' : xN) (da' : Nat → xN), ((v = 0 ∧ w = 0) ∨ (0 < v ∧ v + 1 = l ∧ w = 1) ∨ (0 < v ∧ v + 1 < l ∧ w = N (3 + k))) → smA d d' da da' → d' 7 = d 7 &&& (1 <<< (nI k &&& 31) ^^^ -1) → (∀ i, i < 2 → da' 5 i = upd (da 5) k w i) → da' 4 = upd (da 4) k (nI v + (if w = 0 then 1 else -1)) → (∀ q, q < 8 → (N (17 + q) = nI k → da' 9 q = N (33 + q) + t 4) ∧ (¬ N (17 + q) = nI k → da' 9 q = N (33 + q))) → Q none (dtW d' da' t ta) := by
    intro w d' da' hw hs h7 h5 h4 h9
    refine fin _ _ ⟨hs, ?_, ?_, fun q hq => ?_⟩
    · have := RA_move (pl := l) hk l2 l12 hv rfl h1 h3 hA (hs.2 3 (by omega)) h7 hw h5 h4
      rw [← hs0] at this
      exact this.same (fun i hi => oweL_out _ _ _ _ 8 (by omega) (Or.inl (by omega)))
    · intro j hj q hq
      rw [hs.1 6 (by omega) (by omega) (by omega), hP.1 j hj q hq]
      by_cases h8 : q < 8
      · rw [goOnP_out _ _ _ _ hk (Or.inl (by omega))]
      · simp [h8]
    · refine ⟨?_, ?_⟩
      · rw [hs.1 8 (by omega) (by omega) (by omega), (hP.2 q hq).1, goOnP_out _ _ _ _ hk (Or.inl (by omega))]
      · by_cases e : N (17 + q) = nI k
        · rw [(goOn_owe hk hf hq).1 e, (h9 q hq).1 e, t4]
        · rw [(goOn_owe hk hf hq).2 e, (h9 q hq).2 e]
  -- from the way on
  have go44 : ∀ (w : Int32) (da1 : Nat → xN), ((v = 0 ∧ w = 0) ∨ (0 < v ∧ v + 1 = l ∧ w = 1) ∨ (0 < v ∧ v + 1 < l ∧ w = N (3 + k))) → (∀ i, i ≠ 5 → da1 i = da i) → da1 5 k = w → (∀ i, i < 2 → da1 5 i = upd (da 5) k w i) → AJ L mX0_moveOn 0 0 0 Q (dtW d da t ta).length (0, 0) 44 [some (.ref 0), some (.int (nI k)), none] [] (dtW d da1 t ta) := by
    intro w da1 hw hs hk5 h5
    refine cD_mv_step L Q d da1 t ta k _ hk (fun x hx => ?_)
    have ex : da1 4 k + x = nI v + (if w = 0 then 1 else -1) := by
      rw [hs 4 (by omega), a4]
      rw [hk5] at hx
      rcases hx with ⟨x1, rfl⟩ | ⟨x1, rfl⟩
      · rw [if_pos x1]
      · rw [if_neg x1]
    rw [ex, hs 4 (by omega)]
    have h6 : da1 6 k = da 6 k := by rw [hs 6 (by omega)]
    have h9 : ∀ q, q < 8 → da1 9 q = N (33 + q) := fun q hq => by rw [hs 9 (by omega)]; exact (hP.2 q hq).2
    have sm : ∀ f9, smA d (upd d 7 (d 7 &&& (1 <<< (nI k &&& 31) ^^^ -1))) da (va_up (va_up da1 4 (upd (da 4) k (nI v + (if w = 0 then 1 else -1)))) 9 f9) := fun f9 => ⟨fun i x1 x2 x3 => by rw [va_up_ne _ _ x3, va_up_ne _ _ x1, hs i x2], fun i hi => pk_un hi⟩
    have e9 : va_up (va_up da1 4 (upd (da 4) k (nI v + (if w = 0 then 1 else -1)))) 9 (da1 9) = va_up da1 4 (upd (da 4) k (nI v + (if w = 0 then 1 else -1))) := by
      funext j
      by_cases e : j = 9
      · subst e; rfl
      · rw [va_up_ne _ _ e]
    refine ⟨fun hz => ?_, ?_⟩
    · rw [← e9]
      refine mk w _ _ hw (sm _) rfl h5 rfl (fun q hq => ⟨fun z => ?_, fun _ => h9 q hq⟩)
      rw [← bit q hq, ← h6, hz, zero_bit (by omega)] at z
      cases z
    · rw [← e9]
      refine cD_mv_loop L Q _ _ t ta k _ hk (fun q => N (33 + q)) (fun q => N (17 + q) = nI k) (fun q hq => ?_) (fun f9 hf9 => ?_) 8 0 (da1 9) (by omega) (fun i hi => ⟨fun z => by omega, fun _ => h9 i hi⟩)
      · rw [va_up_ne _ _ (by omega), h6]; exact bit q hq
      · have e : va_up (va_up da1 4 (upd (da 4) k (nI v + (if w = 0 then 1 else -1)))) 9 f9 = va_up (va_up da1 4 (upd (da 4) k (nI v + (if w = 0 then 1 else -1)))) 9 f9 := rfl
        exact mk w _ _ hw (sm f9) rfl h5 rfl hf9
  have hz0 : (0 < nI v) ↔ 0 < v := nI_ltI (a := 0) (b := v) (by omega) (by omega)
  refine AJ.run kX0_moveOn [44] 60 ⟨k, rfl, by omega, fun h => ⟨k, rfl, by omega, fun h5 => ?_, fun h5 => ⟨k, rfl, by omega, ?_⟩⟩, fun h => ⟨k, rfl, by omega, ?_⟩⟩
  · have h : 0 < da 4 k := h
    have h5 : da 4 k < t 0 - 1 := h5
    rw [a4] at h h5
    rw [t0, l_m1 (by omega), nI_ltI (by omega) (by omega)] at h5
    exact go44 (N (3 + k)) da (Or.inr (Or.inr ⟨hz0.mp h, by omega, rfl⟩)) (fun _ _ => rfl) (hA.2 k hk).2.1 (fun i hi => by
      by_cases e : i = k
      · subst e; rw [pk_us, (hA.2 i hk).2.1]
      · rw [pk_un e])
  · have h : 0 < da 4 k := h
    have h5 : ¬ da 4 k < t 0 - 1 := h5
    rw [a4] at h h5
    rw [t0, l_m1 (by omega), nI_ltI (by omega) (by omega)] at h5
    exact go44 1 (va_up da 5 (upd (da 5) k 1)) (Or.inr (Or.inl ⟨hz0.mp h, by omega, rfl⟩)) (fun i hi => va_up_ne _ _ hi) pk_us (fun i hi => rfl)
  · have h : ¬ 0 < da 4 k := h
    rw [a4, hz0] at h
    exact go44 0 (va_up da 5 (upd (da 5) k 0)) (Or.inl ⟨by omega, rfl⟩) (fun i hi => va_up_ne _ _ hi) pk_us (fun i hi => rfl)
end
