section
-- ===== PART A: goes FIRST, ahead of the names: the tables' words, and 'selects' of the private methods out of them =====
/-- a private method of a class that the tables say can be made, by its rows of tables_1 -/
def lw_okq (q : MethodName × Nat) : Prop := (q.1.cls ≠ "java/lang/invoke/MethodHandle" ∧ q.1.cls ≠ "java/lang/invoke/VarHandle") ∧ Cond.instantiable q.1.cls q.2 ∈ tables_1 ∧ Cond.privateMethod q.1 ∈ tables_1 ∧ Cond.instanceMethod q.1 ∈ tables_1
theorem lw_p0 : lw_okq (⟨"NeededStop$Reader", "takeToken", "()V"⟩, 8) := ⟨⟨by decide +kernel, by decide +kernel⟩, List.mem_of_getElem? (i := 133) (by decide +kernel), List.mem_of_getElem? (i := 420) (by decide +kernel), List.mem_of_getElem? (i := 421) (by decide +kernel)⟩
theorem lw_p1 : lw_okq (⟨"NeededStop$Reader", "readLine", "()V"⟩, 8) := ⟨⟨by decide +kernel, by decide +kernel⟩, List.mem_of_getElem? (i := 133) (by decide +kernel), List.mem_of_getElem? (i := 434) (by decide +kernel), List.mem_of_getElem? (i := 435) (by decide +kernel)⟩
theorem lw_p2 : lw_okq (⟨"NeededStop$Reader", "wordInHand", "()I"⟩, 8) := ⟨⟨by decide +kernel, by decide +kernel⟩, List.mem_of_getElem? (i := 133) (by decide +kernel), List.mem_of_getElem? (i := 438) (by decide +kernel), List.mem_of_getElem? (i := 439) (by decide +kernel)⟩
theorem lw_p3 : lw_okq (⟨"NeededStop$Reader", "isWord", "(Ljava/lang/String;)Z"⟩, 8) := ⟨⟨by decide +kernel, by decide +kernel⟩, List.mem_of_getElem? (i := 133) (by decide +kernel), List.mem_of_getElem? (i := 443) (by decide +kernel), List.mem_of_getElem? (i := 444) (by decide +kernel)⟩
theorem lw_p4 : lw_okq (⟨"NeededStop$Reader", "canBegin", "(I)Z"⟩, 8) := ⟨⟨by decide +kernel, by decide +kernel⟩, List.mem_of_getElem? (i := 133) (by decide +kernel), List.mem_of_getElem? (i := 509) (by decide +kernel), List.mem_of_getElem? (i := 510) (by decide +kernel)⟩
theorem lw_p5 : lw_okq (⟨"NeededStop$Reader", "numberInHand", "()I"⟩, 8) := ⟨⟨by decide +kernel, by decide +kernel⟩, List.mem_of_getElem? (i := 133) (by decide +kernel), List.mem_of_getElem? (i := 515) (by decide +kernel), List.mem_of_getElem? (i := 516) (by decide +kernel)⟩
theorem lw_p6 : lw_okq (⟨"NeededStop$Reader", "canStand", "(II)Z"⟩, 8) := ⟨⟨by decide +kernel, by decide +kernel⟩, List.mem_of_getElem? (i := 133) (by decide +kernel), List.mem_of_getElem? (i := 519) (by decide +kernel), List.mem_of_getElem? (i := 520) (by decide +kernel)⟩
theorem lw_p7 : lw_okq (⟨"NeededStop$Reader", "canStandInTram", "(II)Z"⟩, 8) := ⟨⟨by decide +kernel, by decide +kernel⟩, List.mem_of_getElem? (i := 133) (by decide +kernel), List.mem_of_getElem? (i := 526) (by decide +kernel), List.mem_of_getElem? (i := 527) (by decide +kernel)⟩
theorem lw_p8 : lw_okq (⟨"NeededStop$Reader", "canStandInFolk", "(II)Z"⟩, 8) := ⟨⟨by decide +kernel, by decide +kernel⟩, List.mem_of_getElem? (i := 133) (by decide +kernel), List.mem_of_getElem? (i := 534) (by decide +kernel), List.mem_of_getElem? (i := 535) (by decide +kernel)⟩
theorem lw_p9 : lw_okq (⟨"NeededStop$Reader", "doLine", "(I)V"⟩, 8) := ⟨⟨by decide +kernel, by decide +kernel⟩, List.mem_of_getElem? (i := 133) (by decide +kernel), List.mem_of_getElem? (i := 542) (by decide +kernel), List.mem_of_getElem? (i := 543) (by decide +kernel)⟩
theorem lw_p10 : lw_okq (⟨"NeededStop", "dropWhatDependsOnMoods", "()V"⟩, 9) := ⟨⟨by decide +kernel, by decide +kernel⟩, List.mem_of_getElem? (i := 19) (by decide +kernel), List.mem_of_getElem? (i := 578) (by decide +kernel), List.mem_of_getElem? (i := 579) (by decide +kernel)⟩
theorem lw_p11 : lw_okq (⟨"NeededStop$Day", "dropStaleCauses", "()V"⟩, 15) := ⟨⟨by decide +kernel, by decide +kernel⟩, List.mem_of_getElem? (i := 169) (by decide +kernel), List.mem_of_getElem? (i := 618) (by decide +kernel), List.mem_of_getElem? (i := 619) (by decide +kernel)⟩
theorem lw_p12 : lw_okq (⟨"NeededStop$Day", "feelMoods", "()V"⟩, 15) := ⟨⟨by decide +kernel, by decide +kernel⟩, List.mem_of_getElem? (i := 169) (by decide +kernel), List.mem_of_getElem? (i := 622) (by decide +kernel), List.mem_of_getElem? (i := 623) (by decide +kernel)⟩
theorem lw_p13 : lw_okq (⟨"NeededStop$Day", "feelMood", "(II)V"⟩, 15) := ⟨⟨by decide +kernel, by decide +kernel⟩, List.mem_of_getElem? (i := 169) (by decide +kernel), List.mem_of_getElem? (i := 635) (by decide +kernel), List.mem_of_getElem? (i := 636) (by decide +kernel)⟩
theorem lw_p14 : lw_okq (⟨"NeededStop$Day", "runTram", "(I)V"⟩, 15) := ⟨⟨by decide +kernel, by decide +kernel⟩, List.mem_of_getElem? (i := 169) (by decide +kernel), List.mem_of_getElem? (i := 644) (by decide +kernel), List.mem_of_getElem? (i := 645) (by decide +kernel)⟩
theorem lw_p15 : lw_okq (⟨"NeededStop$Day", "eldestCause", "(I)I"⟩, 15) := ⟨⟨by decide +kernel, by decide +kernel⟩, List.mem_of_getElem? (i := 169) (by decide +kernel), List.mem_of_getElem? (i := 648) (by decide +kernel), List.mem_of_getElem? (i := 649) (by decide +kernel)⟩
def lw_privs_1 : List (MethodName × Nat) := [(⟨"NeededStop$Reader", "takeToken", "()V"⟩, 8), (⟨"NeededStop$Reader", "readLine", "()V"⟩, 8), (⟨"NeededStop$Reader", "wordInHand", "()I"⟩, 8), (⟨"NeededStop$Reader", "isWord", "(Ljava/lang/String;)Z"⟩, 8), (⟨"NeededStop$Reader", "canBegin", "(I)Z"⟩, 8), (⟨"NeededStop$Reader", "numberInHand", "()I"⟩, 8), (⟨"NeededStop$Reader", "canStand", "(II)Z"⟩, 8), (⟨"NeededStop$Reader", "canStandInTram", "(II)Z"⟩, 8), (⟨"NeededStop$Reader", "canStandInFolk", "(II)Z"⟩, 8), (⟨"NeededStop$Reader", "doLine", "(I)V"⟩, 8), (⟨"NeededStop", "dropWhatDependsOnMoods", "()V"⟩, 9), (⟨"NeededStop$Day", "dropStaleCauses", "()V"⟩, 15), (⟨"NeededStop$Day", "feelMoods", "()V"⟩, 15), (⟨"NeededStop$Day", "feelMood", "(II)V"⟩, 15), (⟨"NeededStop$Day", "runTram", "(I)V"⟩, 15), (⟨"NeededStop$Day", "eldestCause", "(I)I"⟩, 15)]
theorem lw_r1 : ∀ q ∈ lw_privs_1, lw_okq q := List.forall_mem_cons.mpr ⟨lw_p0, List.forall_mem_cons.mpr ⟨lw_p1, List.forall_mem_cons.mpr ⟨lw_p2, List.forall_mem_cons.mpr ⟨lw_p3, List.forall_mem_cons.mpr ⟨lw_p4, List.forall_mem_cons.mpr ⟨lw_p5, List.forall_mem_cons.mpr ⟨lw_p6, List.forall_mem_cons.mpr ⟨lw_p7, List.forall_mem_cons.mpr ⟨lw_p8, List.forall_mem_cons.mpr ⟨lw_p9, List.forall_mem_cons.mpr ⟨lw_p10, List.forall_mem_cons.mpr ⟨lw_p11, List.forall_mem_cons.mpr ⟨lw_p12, List.forall_mem_cons.mpr ⟨lw_p13, List.forall_mem_cons.mpr ⟨lw_p14, List.forall_mem_cons.mpr ⟨lw_p15, fun _ h => absurd h List.not_mem_nil⟩⟩⟩⟩⟩⟩⟩⟩⟩⟩⟩⟩⟩⟩⟩⟩
theorem lw_p16 : lw_okq (⟨"NeededStop$Day", "moveOn", "(I)V"⟩, 15) := ⟨⟨by decide +kernel, by decide +kernel⟩, List.mem_of_getElem? (i := 169) (by decide +kernel), List.mem_of_getElem? (i := 652) (by decide +kernel), List.mem_of_getElem? (i := 653) (by decide +kernel)⟩
theorem lw_p17 : lw_okq (⟨"NeededStop$Day", "letOff", "(I)V"⟩, 15) := ⟨⟨by decide +kernel, by decide +kernel⟩, List.mem_of_getElem? (i := 169) (by decide +kernel), List.mem_of_getElem? (i := 660) (by decide +kernel), List.mem_of_getElem? (i := 661) (by decide +kernel)⟩
theorem lw_p18 : lw_okq (⟨"NeededStop$Day", "letOn", "(I)V"⟩, 15) := ⟨⟨by decide +kernel, by decide +kernel⟩, List.mem_of_getElem? (i := 169) (by decide +kernel), List.mem_of_getElem? (i := 664) (by decide +kernel), List.mem_of_getElem? (i := 665) (by decide +kernel)⟩
theorem lw_p19 : lw_okq (⟨"NeededStop", "foretellDay", "(I)V"⟩, 9) := ⟨⟨by decide +kernel, by decide +kernel⟩, List.mem_of_getElem? (i := 19) (by decide +kernel), List.mem_of_getElem? (i := 715) (by decide +kernel), List.mem_of_getElem? (i := 716) (by decide +kernel)⟩
theorem lw_p20 : lw_okq (⟨"NeededStop$Feigning", "tryNone", "()V"⟩, 13) := ⟨⟨by decide +kernel, by decide +kernel⟩, List.mem_of_getElem? (i := 262) (by decide +kernel), List.mem_of_getElem? (i := 728) (by decide +kernel), List.mem_of_getElem? (i := 729) (by decide +kernel)⟩
theorem lw_p21 : lw_okq (⟨"NeededStop$Feigning", "take", "(LNeededStop$Day;III)V"⟩, 13) := ⟨⟨by decide +kernel, by decide +kernel⟩, List.mem_of_getElem? (i := 262) (by decide +kernel), List.mem_of_getElem? (i := 733) (by decide +kernel), List.mem_of_getElem? (i := 734) (by decide +kernel)⟩
theorem lw_p22 : lw_okq (⟨"NeededStop$Feigning", "tryOne", "()V"⟩, 13) := ⟨⟨by decide +kernel, by decide +kernel⟩, List.mem_of_getElem? (i := 262) (by decide +kernel), List.mem_of_getElem? (i := 738) (by decide +kernel), List.mem_of_getElem? (i := 739) (by decide +kernel)⟩
theorem lw_p23 : lw_okq (⟨"NeededStop$Feigning", "tryTwo", "()V"⟩, 13) := ⟨⟨by decide +kernel, by decide +kernel⟩, List.mem_of_getElem? (i := 262) (by decide +kernel), List.mem_of_getElem? (i := 752) (by decide +kernel), List.mem_of_getElem? (i := 753) (by decide +kernel)⟩
theorem lw_p24 : lw_okq (⟨"NeededStop$Day", "lateness", "(I)I"⟩, 15) := ⟨⟨by decide +kernel, by decide +kernel⟩, List.mem_of_getElem? (i := 169) (by decide +kernel), List.mem_of_getElem? (i := 764) (by decide +kernel), List.mem_of_getElem? (i := 765) (by decide +kernel)⟩
theorem lw_p25 : lw_okq (⟨"NeededStop$ReadBack", "lastSeen", "()I"⟩, 9) := ⟨⟨by decide +kernel, by decide +kernel⟩, List.mem_of_getElem? (i := 318) (by decide +kernel), List.mem_of_getElem? (i := 824) (by decide +kernel), List.mem_of_getElem? (i := 825) (by decide +kernel)⟩
theorem lw_p26 : lw_okq (⟨"NeededStop$ReadBack", "fits", "(III)Z"⟩, 9) := ⟨⟨by decide +kernel, by decide +kernel⟩, List.mem_of_getElem? (i := 318) (by decide +kernel), List.mem_of_getElem? (i := 831) (by decide +kernel), List.mem_of_getElem? (i := 832) (by decide +kernel)⟩
theorem lw_p27 : lw_okq (⟨"NeededStop$ReadBack", "addLaw", "(II)V"⟩, 9) := ⟨⟨by decide +kernel, by decide +kernel⟩, List.mem_of_getElem? (i := 318) (by decide +kernel), List.mem_of_getElem? (i := 841) (by decide +kernel), List.mem_of_getElem? (i := 842) (by decide +kernel)⟩
theorem lw_p28 : lw_okq (⟨"NeededStopModel", "begin", "()V"⟩, 37) := ⟨⟨by decide +kernel, by decide +kernel⟩, List.mem_of_getElem? (i := 853) (by decide +kernel), List.mem_of_getElem? (i := 859) (by decide +kernel), List.mem_of_getElem? (i := 860) (by decide +kernel)⟩
theorem lw_p29 : lw_okq (⟨"NeededStopModel", "isRead", "()Z"⟩, 37) := ⟨⟨by decide +kernel, by decide +kernel⟩, List.mem_of_getElem? (i := 853) (by decide +kernel), List.mem_of_getElem? (i := 991) (by decide +kernel), List.mem_of_getElem? (i := 992) (by decide +kernel)⟩
theorem lw_p30 : lw_okq (⟨"NeededStopModel", "isLine", "(I)Z"⟩, 37) := ⟨⟨by decide +kernel, by decide +kernel⟩, List.mem_of_getElem? (i := 853) (by decide +kernel), List.mem_of_getElem? (i := 995) (by decide +kernel), List.mem_of_getElem? (i := 996) (by decide +kernel)⟩
theorem lw_p31 : lw_okq (⟨"NeededStopModel", "nextToken", "()V"⟩, 37) := ⟨⟨by decide +kernel, by decide +kernel⟩, List.mem_of_getElem? (i := 853) (by decide +kernel), List.mem_of_getElem? (i := 999) (by decide +kernel), List.mem_of_getElem? (i := 1000) (by decide +kernel)⟩
def lw_privs_2 : List (MethodName × Nat) := [(⟨"NeededStop$Day", "moveOn", "(I)V"⟩, 15), (⟨"NeededStop$Day", "letOff", "(I)V"⟩, 15), (⟨"NeededStop$Day", "letOn", "(I)V"⟩, 15), (⟨"NeededStop", "foretellDay", "(I)V"⟩, 9), (⟨"NeededStop$Feigning", "tryNone", "()V"⟩, 13), (⟨"NeededStop$Feigning", "take", "(LNeededStop$Day;III)V"⟩, 13), (⟨"NeededStop$Feigning", "tryOne", "()V"⟩, 13), (⟨"NeededStop$Feigning", "tryTwo", "()V"⟩, 13), (⟨"NeededStop$Day", "lateness", "(I)I"⟩, 15), (⟨"NeededStop$ReadBack", "lastSeen", "()I"⟩, 9), (⟨"NeededStop$ReadBack", "fits", "(III)Z"⟩, 9), (⟨"NeededStop$ReadBack", "addLaw", "(II)V"⟩, 9), (⟨"NeededStopModel", "begin", "()V"⟩, 37), (⟨"NeededStopModel", "isRead", "()Z"⟩, 37), (⟨"NeededStopModel", "isLine", "(I)Z"⟩, 37), (⟨"NeededStopModel", "nextToken", "()V"⟩, 37)]
theorem lw_r2 : ∀ q ∈ lw_privs_2, lw_okq q := List.forall_mem_cons.mpr ⟨lw_p16, List.forall_mem_cons.mpr ⟨lw_p17, List.forall_mem_cons.mpr ⟨lw_p18, List.forall_mem_cons.mpr ⟨lw_p19, List.forall_mem_cons.mpr ⟨lw_p20, List.forall_mem_cons.mpr ⟨lw_p21, List.forall_mem_cons.mpr ⟨lw_p22, List.forall_mem_cons.mpr ⟨lw_p23, List.forall_mem_cons.mpr ⟨lw_p24, List.forall_mem_cons.mpr ⟨lw_p25, List.forall_mem_cons.mpr ⟨lw_p26, List.forall_mem_cons.mpr ⟨lw_p27, List.forall_mem_cons.mpr ⟨lw_p28, List.forall_mem_cons.mpr ⟨lw_p29, List.forall_mem_cons.mpr ⟨lw_p30, List.forall_mem_cons.mpr ⟨lw_p31, fun _ h => absurd h List.not_mem_nil⟩⟩⟩⟩⟩⟩⟩⟩⟩⟩⟩⟩⟩⟩⟩⟩
theorem lw_p32 : lw_okq (⟨"NeededStopModel", "isRail", "(I)Z"⟩, 37) := ⟨⟨by decide +kernel, by decide +kernel⟩, List.mem_of_getElem? (i := 853) (by decide +kernel), List.mem_of_getElem? (i := 1019) (by decide +kernel), List.mem_of_getElem? (i := 1020) (by decide +kernel)⟩
theorem lw_p33 : lw_okq (⟨"NeededStopModel", "isNumber", "(III)Z"⟩, 37) := ⟨⟨by decide +kernel, by decide +kernel⟩, List.mem_of_getElem? (i := 853) (by decide +kernel), List.mem_of_getElem? (i := 1023) (by decide +kernel), List.mem_of_getElem? (i := 1024) (by decide +kernel)⟩
theorem lw_p34 : lw_okq (⟨"NeededStopModel", "fails", "()Z"⟩, 37) := ⟨⟨by decide +kernel, by decide +kernel⟩, List.mem_of_getElem? (i := 853) (by decide +kernel), List.mem_of_getElem? (i := 1027) (by decide +kernel), List.mem_of_getElem? (i := 1028) (by decide +kernel)⟩
theorem lw_p35 : lw_okq (⟨"NeededStopModel", "isFolk", "(I)Z"⟩, 37) := ⟨⟨by decide +kernel, by decide +kernel⟩, List.mem_of_getElem? (i := 853) (by decide +kernel), List.mem_of_getElem? (i := 1031) (by decide +kernel), List.mem_of_getElem? (i := 1032) (by decide +kernel)⟩
theorem lw_p36 : lw_okq (⟨"NeededStopModel", "isMood", "(I)Z"⟩, 37) := ⟨⟨by decide +kernel, by decide +kernel⟩, List.mem_of_getElem? (i := 853) (by decide +kernel), List.mem_of_getElem? (i := 1035) (by decide +kernel), List.mem_of_getElem? (i := 1036) (by decide +kernel)⟩
theorem lw_p37 : lw_okq (⟨"NeededStopModel", "doLine", "(I)V"⟩, 37) := ⟨⟨by decide +kernel, by decide +kernel⟩, List.mem_of_getElem? (i := 853) (by decide +kernel), List.mem_of_getElem? (i := 1046) (by decide +kernel), List.mem_of_getElem? (i := 1047) (by decide +kernel)⟩
theorem lw_p38 : lw_okq (⟨"NeededStopModel", "addMood", "(III)V"⟩, 37) := ⟨⟨by decide +kernel, by decide +kernel⟩, List.mem_of_getElem? (i := 853) (by decide +kernel), List.mem_of_getElem? (i := 1050) (by decide +kernel), List.mem_of_getElem? (i := 1051) (by decide +kernel)⟩
theorem lw_p39 : lw_okq (⟨"NeededStopModel", "personOf", "(I)I"⟩, 37) := ⟨⟨by decide +kernel, by decide +kernel⟩, List.mem_of_getElem? (i := 853) (by decide +kernel), List.mem_of_getElem? (i := 1066) (by decide +kernel), List.mem_of_getElem? (i := 1067) (by decide +kernel)⟩
theorem lw_p40 : lw_okq (⟨"NeededStopModel", "asTold", "()V"⟩, 37) := ⟨⟨by decide +kernel, by decide +kernel⟩, List.mem_of_getElem? (i := 853) (by decide +kernel), List.mem_of_getElem? (i := 1074) (by decide +kernel), List.mem_of_getElem? (i := 1075) (by decide +kernel)⟩
theorem lw_p41 : lw_okq (⟨"NeededStopModel", "goMinute", "()V"⟩, 37) := ⟨⟨by decide +kernel, by decide +kernel⟩, List.mem_of_getElem? (i := 853) (by decide +kernel), List.mem_of_getElem? (i := 1078) (by decide +kernel), List.mem_of_getElem? (i := 1079) (by decide +kernel)⟩
theorem lw_p42 : lw_okq (⟨"NeededStopModel", "placeNow", "(I)I"⟩, 37) := ⟨⟨by decide +kernel, by decide +kernel⟩, List.mem_of_getElem? (i := 853) (by decide +kernel), List.mem_of_getElem? (i := 1082) (by decide +kernel), List.mem_of_getElem? (i := 1083) (by decide +kernel)⟩
theorem lw_p43 : lw_okq (⟨"NeededStopModel", "causeOf", "(I)I"⟩, 37) := ⟨⟨by decide +kernel, by decide +kernel⟩, List.mem_of_getElem? (i := 853) (by decide +kernel), List.mem_of_getElem? (i := 1086) (by decide +kernel), List.mem_of_getElem? (i := 1087) (by decide +kernel)⟩
theorem lw_p44 : lw_okq (⟨"NeededStopModel", "goOn", "(I)V"⟩, 37) := ⟨⟨by decide +kernel, by decide +kernel⟩, List.mem_of_getElem? (i := 853) (by decide +kernel), List.mem_of_getElem? (i := 1090) (by decide +kernel), List.mem_of_getElem? (i := 1091) (by decide +kernel)⟩
theorem lw_p45 : lw_okq (⟨"NeededStopModel", "haltBy", "(II)V"⟩, 37) := ⟨⟨by decide +kernel, by decide +kernel⟩, List.mem_of_getElem? (i := 853) (by decide +kernel), List.mem_of_getElem? (i := 1094) (by decide +kernel), List.mem_of_getElem? (i := 1095) (by decide +kernel)⟩
theorem lw_p46 : lw_okq (⟨"NeededStopModel", "haltMany", "()I"⟩, 37) := ⟨⟨by decide +kernel, by decide +kernel⟩, List.mem_of_getElem? (i := 853) (by decide +kernel), List.mem_of_getElem? (i := 1098) (by decide +kernel), List.mem_of_getElem? (i := 1099) (by decide +kernel)⟩
theorem lw_p47 : lw_okq (⟨"NeededStopModel", "isTram", "(I)Z"⟩, 37) := ⟨⟨by decide +kernel, by decide +kernel⟩, List.mem_of_getElem? (i := 853) (by decide +kernel), List.mem_of_getElem? (i := 1106) (by decide +kernel), List.mem_of_getElem? (i := 1107) (by decide +kernel)⟩
def lw_privs_3 : List (MethodName × Nat) := [(⟨"NeededStopModel", "isRail", "(I)Z"⟩, 37), (⟨"NeededStopModel", "isNumber", "(III)Z"⟩, 37), (⟨"NeededStopModel", "fails", "()Z"⟩, 37), (⟨"NeededStopModel", "isFolk", "(I)Z"⟩, 37), (⟨"NeededStopModel", "isMood", "(I)Z"⟩, 37), (⟨"NeededStopModel", "doLine", "(I)V"⟩, 37), (⟨"NeededStopModel", "addMood", "(III)V"⟩, 37), (⟨"NeededStopModel", "personOf", "(I)I"⟩, 37), (⟨"NeededStopModel", "asTold", "()V"⟩, 37), (⟨"NeededStopModel", "goMinute", "()V"⟩, 37), (⟨"NeededStopModel", "placeNow", "(I)I"⟩, 37), (⟨"NeededStopModel", "causeOf", "(I)I"⟩, 37), (⟨"NeededStopModel", "goOn", "(I)V"⟩, 37), (⟨"NeededStopModel", "haltBy", "(II)V"⟩, 37), (⟨"NeededStopModel", "haltMany", "()I"⟩, 37), (⟨"NeededStopModel", "isTram", "(I)Z"⟩, 37)]
theorem lw_r3 : ∀ q ∈ lw_privs_3, lw_okq q := List.forall_mem_cons.mpr ⟨lw_p32, List.forall_mem_cons.mpr ⟨lw_p33, List.forall_mem_cons.mpr ⟨lw_p34, List.forall_mem_cons.mpr ⟨lw_p35, List.forall_mem_cons.mpr ⟨lw_p36, List.forall_mem_cons.mpr ⟨lw_p37, List.forall_mem_cons.mpr ⟨lw_p38, List.forall_mem_cons.mpr ⟨lw_p39, List.forall_mem_cons.mpr ⟨lw_p40, List.forall_mem_cons.mpr ⟨lw_p41, List.forall_mem_cons.mpr ⟨lw_p42, List.forall_mem_cons.mpr ⟨lw_p43, List.forall_mem_cons.mpr ⟨lw_p44, List.forall_mem_cons.mpr ⟨lw_p45, List.forall_mem_cons.mpr ⟨lw_p46, List.forall_mem_cons.mpr ⟨lw_p47, fun _ h => absurd h List.not_mem_nil⟩⟩⟩⟩⟩⟩⟩⟩⟩⟩⟩⟩⟩⟩⟩⟩
theorem lw_p48 : lw_okq (⟨"NeededStopModel", "isPerson", "(I)Z"⟩, 37) := ⟨⟨by decide +kernel, by decide +kernel⟩, List.mem_of_getElem? (i := 853) (by decide +kernel), List.mem_of_getElem? (i := 1114) (by decide +kernel), List.mem_of_getElem? (i := 1115) (by decide +kernel)⟩
theorem lw_p49 : lw_okq (⟨"NeededStopModel", "goDay", "()V"⟩, 37) := ⟨⟨by decide +kernel, by decide +kernel⟩, List.mem_of_getElem? (i := 853) (by decide +kernel), List.mem_of_getElem? (i := 1137) (by decide +kernel), List.mem_of_getElem? (i := 1138) (by decide +kernel)⟩
theorem lw_p50 : lw_okq (⟨"NeededStopModel", "putBack", "()V"⟩, 37) := ⟨⟨by decide +kernel, by decide +kernel⟩, List.mem_of_getElem? (i := 853) (by decide +kernel), List.mem_of_getElem? (i := 1141) (by decide +kernel), List.mem_of_getElem? (i := 1142) (by decide +kernel)⟩
theorem lw_p51 : lw_okq (⟨"NeededStopModel", "tryFeigned", "(IIII)V"⟩, 37) := ⟨⟨by decide +kernel, by decide +kernel⟩, List.mem_of_getElem? (i := 853) (by decide +kernel), List.mem_of_getElem? (i := 1149) (by decide +kernel), List.mem_of_getElem? (i := 1150) (by decide +kernel)⟩
theorem lw_p52 : lw_okq (⟨"NeededStopModel", "late", "(I)I"⟩, 37) := ⟨⟨by decide +kernel, by decide +kernel⟩, List.mem_of_getElem? (i := 853) (by decide +kernel), List.mem_of_getElem? (i := 1153) (by decide +kernel), List.mem_of_getElem? (i := 1154) (by decide +kernel)⟩
theorem lw_p53 : lw_okq (⟨"NeededStopModel", "isPlace", "(I)Z"⟩, 37) := ⟨⟨by decide +kernel, by decide +kernel⟩, List.mem_of_getElem? (i := 853) (by decide +kernel), List.mem_of_getElem? (i := 1165) (by decide +kernel), List.mem_of_getElem? (i := 1166) (by decide +kernel)⟩
theorem lw_p54 : lw_okq (⟨"NeededStopModel", "wornAt", "(I)I"⟩, 37) := ⟨⟨by decide +kernel, by decide +kernel⟩, List.mem_of_getElem? (i := 853) (by decide +kernel), List.mem_of_getElem? (i := 1169) (by decide +kernel), List.mem_of_getElem? (i := 1170) (by decide +kernel)⟩
theorem lw_p55 : lw_okq (⟨"NeededStopModel", "layLaws", "()V"⟩, 37) := ⟨⟨by decide +kernel, by decide +kernel⟩, List.mem_of_getElem? (i := 853) (by decide +kernel), List.mem_of_getElem? (i := 1200) (by decide +kernel), List.mem_of_getElem? (i := 1201) (by decide +kernel)⟩
theorem lw_p56 : lw_okq (⟨"NeededStopModel", "areSeen", "()Z"⟩, 37) := ⟨⟨by decide +kernel, by decide +kernel⟩, List.mem_of_getElem? (i := 853) (by decide +kernel), List.mem_of_getElem? (i := 1204) (by decide +kernel), List.mem_of_getElem? (i := 1205) (by decide +kernel)⟩
def lw_privs_4 : List (MethodName × Nat) := [(⟨"NeededStopModel", "isPerson", "(I)Z"⟩, 37), (⟨"NeededStopModel", "goDay", "()V"⟩, 37), (⟨"NeededStopModel", "putBack", "()V"⟩, 37), (⟨"NeededStopModel", "tryFeigned", "(IIII)V"⟩, 37), (⟨"NeededStopModel", "late", "(I)I"⟩, 37), (⟨"NeededStopModel", "isPlace", "(I)Z"⟩, 37), (⟨"NeededStopModel", "wornAt", "(I)I"⟩, 37), (⟨"NeededStopModel", "layLaws", "()V"⟩, 37), (⟨"NeededStopModel", "areSeen", "()Z"⟩, 37)]
theorem lw_r4 : ∀ q ∈ lw_privs_4, lw_okq q := List.forall_mem_cons.mpr ⟨lw_p48, List.forall_mem_cons.mpr ⟨lw_p49, List.forall_mem_cons.mpr ⟨lw_p50, List.forall_mem_cons.mpr ⟨lw_p51, List.forall_mem_cons.mpr ⟨lw_p52, List.forall_mem_cons.mpr ⟨lw_p53, List.forall_mem_cons.mpr ⟨lw_p54, List.forall_mem_cons.mpr ⟨lw_p55, List.forall_mem_cons.mpr ⟨lw_p56, fun _ h => absurd h List.not_mem_nil⟩⟩⟩⟩⟩⟩⟩⟩⟩
def lw_privs : List (MethodName × Nat) := lw_privs_1 ++ (lw_privs_2 ++ (lw_privs_3 ++ (lw_privs_4)))
def lw_tbl : List Cond := k2_sels lw_privs ++ tables_1
theorem lw_privs_ok : ∀ q ∈ lw_privs, lw_okq q := by
  show ∀ q ∈ lw_privs_1 ++ (lw_privs_2 ++ (lw_privs_3 ++ (lw_privs_4))), lw_okq q
  exact List.forall_mem_append.mpr ⟨lw_r1, List.forall_mem_append.mpr ⟨lw_r2, List.forall_mem_append.mpr ⟨lw_r3, lw_r4⟩⟩⟩
end
section
def RX0 : String := "NeededStop$Day"
def TX0 : u_T := fun k => match k with
  | 0 => ("NeededStop$Day", "told", "LNeededStop$Told;", true)
  | 1 => ("NeededStop$Day", "kinds", "I", false)
  | 2 => ("NeededStop$Day", "span", "I", false)
  | 3 => ("NeededStop$Day", "gone", "I", false)
  | 4 => ("NeededStop$Day", "tramAt", "[I", true)
  | 5 => ("NeededStop$Day", "way", "[I", true)
  | 6 => ("NeededStop$Day", "aboard", "[I", true)
  | 7 => ("NeededStop$Day", "halted", "I", false)
  | 8 => ("NeededStop$Day", "homed", "[I", true)
  | 9 => ("NeededStop$Day", "owed", "[I", true)
  | 10 => ("NeededStop$Day", "feltAt", "[I", true)
  | 11 => ("NeededStop$Day", "causesAt", "[I", true)
  | 12 => ("NeededStop$Day", "live", "I", false)
  | 13 => ("NeededStop$Day", "spent", "I", false)
  | _ => ("NeededStop$Day", "halts", "LNeededStop$Halts;", true)
def tyX0 : Nat → FieldType := fun k => match k with
  | 0 => .object "NeededStop$Told"
  | 1 => .int
  | 2 => .int
  | 3 => .int
  | 4 => .array .int
  | 5 => .array .int
  | 6 => .array .int
  | 7 => .int
  | 8 => .array .int
  | 9 => .array .int
  | 10 => .array .int
  | 11 => .array .int
  | 12 => .int
  | 13 => .int
  | _ => .object "NeededStop$Halts"
theorem nmX0 : ∀ a, a < 15 → ∀ b, b < 15 → a ≠ b → (TX0 a).2.1 ≠ (TX0 b).2.1 := by decide +kernel
theorem tyX0_ok : ∀ k, k < 15 → parseFieldDescriptor (TX0 k).2.2.1 = some (tyX0 k) := by decide +kernel
abbrev cX0_init : ByteArray := prog_2_method_1_code
def yX0_init : MethodName := ⟨RX0, "<init>", "(LNeededStop$Told;)V"⟩
abbrev cX0_begin : ByteArray := prog_2_method_2_code
def yX0_begin : MethodName := ⟨RX0, "begin", "(II)V"⟩
abbrev cX0_copyFrom : ByteArray := prog_2_method_3_code
def yX0_copyFrom : MethodName := ⟨RX0, "copyFrom", "(LNeededStop$Day;)V"⟩
abbrev cX0_runTo : ByteArray := prog_2_method_4_code
def yX0_runTo : MethodName := ⟨RX0, "runTo", "(I)V"⟩
abbrev cX0_passMinute : ByteArray := prog_2_method_5_code
def yX0_passMinute : MethodName := ⟨RX0, "passMinute", "()V"⟩
abbrev cX0_dropStaleCauses : ByteArray := prog_2_method_6_code
def yX0_dropStaleCauses : MethodName := ⟨RX0, "dropStaleCauses", "()V"⟩
abbrev cX0_feelMoods : ByteArray := prog_2_method_7_code
def yX0_feelMoods : MethodName := ⟨RX0, "feelMoods", "()V"⟩
abbrev cX0_feelMood : ByteArray := prog_2_method_8_code
def yX0_feelMood : MethodName := ⟨RX0, "feelMood", "(II)V"⟩
abbrev cX0_runTram : ByteArray := prog_2_method_9_code
def yX0_runTram : MethodName := ⟨RX0, "runTram", "(I)V"⟩
abbrev cX0_eldestCause : ByteArray := prog_2_method_10_code
def yX0_eldestCause : MethodName := ⟨RX0, "eldestCause", "(I)I"⟩
abbrev cX0_letOff : ByteArray := prog_2_method_11_code
def yX0_letOff : MethodName := ⟨RX0, "letOff", "(I)V"⟩
abbrev cX0_letOn : ByteArray := prog_2_method_12_code
def yX0_letOn : MethodName := ⟨RX0, "letOn", "(I)V"⟩
abbrev cX0_moveOn : ByteArray := prog_2_method_13_code
def yX0_moveOn : MethodName := ⟨RX0, "moveOn", "(I)V"⟩
abbrev cX0_tramOf : ByteArray := prog_2_method_14_code
def yX0_tramOf : MethodName := ⟨RX0, "tramOf", "(I)I"⟩
abbrev cX0_placeOf : ByteArray := prog_2_method_15_code
def yX0_placeOf : MethodName := ⟨RX0, "placeOf", "(I)I"⟩
abbrev cX0_lateness : ByteArray := prog_2_method_16_code
def yX0_lateness : MethodName := ⟨RX0, "lateness", "(I)I"⟩
abbrev cX0_lateOf : ByteArray := prog_2_method_17_code
def yX0_lateOf : MethodName := ⟨RX0, "lateOf", "(I)I"⟩
abbrev cX0_lateOfAll : ByteArray := prog_2_method_18_code
def yX0_lateOfAll : MethodName := ⟨RX0, "lateOfAll", "()I"⟩
def RX1 : String := "NeededStop$Feigning"
def TX1 : u_T := fun k => match k with
  | 0 => ("NeededStop$Feigning", "told", "LNeededStop$Told;", true)
  | 1 => ("NeededStop$Feigning", "plan", "LNeededStop$Told;", true)
  | 2 => ("NeededStop$Feigning", "plain", "LNeededStop$Day;", true)
  | 3 => ("NeededStop$Feigning", "once", "LNeededStop$Day;", true)
  | 4 => ("NeededStop$Feigning", "twice", "LNeededStop$Day;", true)
  | 5 => ("NeededStop$Feigning", "known", "Z", false)
  | 6 => ("NeededStop$Feigning", "person", "I", false)
  | 7 => ("NeededStop$Feigning", "most", "I", false)
  | 8 => ("NeededStop$Feigning", "limit", "I", false)
  | 9 => ("NeededStop$Feigning", "homed", "I", false)
  | 10 => ("NeededStop$Feigning", "used", "I", false)
  | 11 => ("NeededStop$Feigning", "first", "I", false)
  | _ => ("NeededStop$Feigning", "second", "I", false)
def tyX1 : Nat → FieldType := fun k => match k with
  | 0 => .object "NeededStop$Told"
  | 1 => .object "NeededStop$Told"
  | 2 => .object "NeededStop$Day"
  | 3 => .object "NeededStop$Day"
  | 4 => .object "NeededStop$Day"
  | 5 => .boolean
  | 6 => .int
  | 7 => .int
  | 8 => .int
  | 9 => .int
  | 10 => .int
  | 11 => .int
  | _ => .int
theorem nmX1 : ∀ a, a < 13 → ∀ b, b < 13 → a ≠ b → (TX1 a).2.1 ≠ (TX1 b).2.1 := by decide +kernel
theorem tyX1_ok : ∀ k, k < 13 → parseFieldDescriptor (TX1 k).2.2.1 = some (tyX1 k) := by decide +kernel
abbrev cX1_init : ByteArray := prog_3_method_1_code
def yX1_init : MethodName := ⟨RX1, "<init>", "(LNeededStop$Told;)V"⟩
abbrev cX1_search : ByteArray := prog_3_method_2_code
def yX1_search : MethodName := ⟨RX1, "search", "(II)V"⟩
abbrev cX1_tryNone : ByteArray := prog_3_method_3_code
def yX1_tryNone : MethodName := ⟨RX1, "tryNone", "()V"⟩
abbrev cX1_tryOne : ByteArray := prog_3_method_4_code
def yX1_tryOne : MethodName := ⟨RX1, "tryOne", "()V"⟩
abbrev cX1_tryTwo : ByteArray := prog_3_method_5_code
def yX1_tryTwo : MethodName := ⟨RX1, "tryTwo", "()V"⟩
abbrev cX1_take : ByteArray := prog_3_method_6_code
def yX1_take : MethodName := ⟨RX1, "take", "(LNeededStop$Day;III)V"⟩
def RX2 : String := "NeededStop$Halts"
def TX2 : u_T := fun k => match k with
  | 0 => ("NeededStop$Halts", "tram", "[I", true)
  | 1 => ("NeededStop$Halts", "place", "[I", true)
  | 2 => ("NeededStop$Halts", "minute", "[I", true)
  | 3 => ("NeededStop$Halts", "mood", "[I", true)
  | _ => ("NeededStop$Halts", "size", "I", false)
def tyX2 : Nat → FieldType := fun k => match k with
  | 0 => .array .int
  | 1 => .array .int
  | 2 => .array .int
  | 3 => .array .int
  | _ => .int
theorem nmX2 : ∀ a, a < 5 → ∀ b, b < 5 → a ≠ b → (TX2 a).2.1 ≠ (TX2 b).2.1 := by decide +kernel
theorem tyX2_ok : ∀ k, k < 5 → parseFieldDescriptor (TX2 k).2.2.1 = some (tyX2 k) := by decide +kernel
abbrev cX2_init : ByteArray := prog_4_method_1_code
def yX2_init : MethodName := ⟨RX2, "<init>", "()V"⟩
abbrev cX2_add : ByteArray := prog_4_method_2_code
def yX2_add : MethodName := ⟨RX2, "add", "(IIII)V"⟩
abbrev cX2_copyFrom : ByteArray := prog_4_method_3_code
def yX2_copyFrom : MethodName := ⟨RX2, "copyFrom", "(LNeededStop$Halts;)V"⟩
abbrev cX2_ofTram : ByteArray := prog_4_method_4_code
def yX2_ofTram : MethodName := ⟨RX2, "ofTram", "(I)I"⟩
abbrev cX2_atPlace : ByteArray := prog_4_method_5_code
def yX2_atPlace : MethodName := ⟨RX2, "atPlace", "(I)I"⟩
abbrev cX2_has : ByteArray := prog_4_method_6_code
def yX2_has : MethodName := ⟨RX2, "has", "(II)Z"⟩
def RX3 : String := "NeededStop$ReadBack"
def TX3 : u_T := fun k => match k with
  | 0 => ("NeededStop$ReadBack", "day", "LNeededStop$Day;", true)
  | 1 => ("NeededStop$ReadBack", "place", "[I", true)
  | 2 => ("NeededStop$ReadBack", "minute", "[I", true)
  | 3 => ("NeededStop$ReadBack", "size", "I", false)
  | 4 => ("NeededStop$ReadBack", "known", "Z", false)
  | 5 => ("NeededStop$ReadBack", "laws", "I", false)
  | 6 => ("NeededStop$ReadBack", "firstKinds", "I", false)
  | 7 => ("NeededStop$ReadBack", "firstSpan", "I", false)
  | _ => ("NeededStop$ReadBack", "lawsWith", "[I", true)
def tyX3 : Nat → FieldType := fun k => match k with
  | 0 => .object "NeededStop$Day"
  | 1 => .array .int
  | 2 => .array .int
  | 3 => .int
  | 4 => .boolean
  | 5 => .int
  | 6 => .int
  | 7 => .int
  | _ => .array .int
theorem nmX3 : ∀ a, a < 9 → ∀ b, b < 9 → a ≠ b → (TX3 a).2.1 ≠ (TX3 b).2.1 := by decide +kernel
theorem tyX3_ok : ∀ k, k < 9 → parseFieldDescriptor (TX3 k).2.2.1 = some (tyX3 k) := by decide +kernel
abbrev cX3_init : ByteArray := prog_5_method_1_code
def yX3_init : MethodName := ⟨RX3, "<init>", "(LNeededStop$Day;)V"⟩
abbrev cX3_add : ByteArray := prog_5_method_2_code
def yX3_add : MethodName := ⟨RX3, "add", "(II)V"⟩
abbrev cX3_clear : ByteArray := prog_5_method_3_code
def yX3_clear : MethodName := ⟨RX3, "clear", "()V"⟩
abbrev cX3_findLaws : ByteArray := prog_5_method_4_code
def yX3_findLaws : MethodName := ⟨RX3, "findLaws", "()V"⟩
abbrev cX3_lastSeen : ByteArray := prog_5_method_5_code
def yX3_lastSeen : MethodName := ⟨RX3, "lastSeen", "()I"⟩
abbrev cX3_fits : ByteArray := prog_5_method_6_code
def yX3_fits : MethodName := ⟨RX3, "fits", "(III)Z"⟩
abbrev cX3_addLaw : ByteArray := prog_5_method_7_code
def yX3_addLaw : MethodName := ⟨RX3, "addLaw", "(II)V"⟩
def RX4 : String := "NeededStop$Reader"
def TX4 : u_T := fun k => match k with
  | 0 => ("NeededStop$Reader", "text", "LNeededStop$Text;", true)
  | 1 => ("NeededStop$Reader", "told", "LNeededStop$Told;", true)
  | 2 => ("NeededStop$Reader", "plan", "LNeededStop$Told;", true)
  | 3 => ("NeededStop$Reader", "numbers", "[I", true)
  | 4 => ("NeededStop$Reader", "fault", "I", false)
  | 5 => ("NeededStop$Reader", "lines", "I", false)
  | 6 => ("NeededStop$Reader", "from", "I", false)
  | _ => ("NeededStop$Reader", "to", "I", false)
def tyX4 : Nat → FieldType := fun k => match k with
  | 0 => .object "NeededStop$Text"
  | 1 => .object "NeededStop$Told"
  | 2 => .object "NeededStop$Told"
  | 3 => .array .int
  | 4 => .int
  | 5 => .int
  | 6 => .int
  | _ => .int
theorem nmX4 : ∀ a, a < 8 → ∀ b, b < 8 → a ≠ b → (TX4 a).2.1 ≠ (TX4 b).2.1 := by decide +kernel
theorem tyX4_ok : ∀ k, k < 8 → parseFieldDescriptor (TX4 k).2.2.1 = some (tyX4 k) := by decide +kernel
abbrev cX4_init : ByteArray := prog_6_method_1_code
def yX4_init : MethodName := ⟨RX4, "<init>", "(LNeededStop$Text;LNeededStop$Told;)V"⟩
abbrev cX4_readLines : ByteArray := prog_6_method_2_code
def yX4_readLines : MethodName := ⟨RX4, "readLines", "()V"⟩
abbrev cX4_readLine : ByteArray := prog_6_method_3_code
def yX4_readLine : MethodName := ⟨RX4, "readLine", "()V"⟩
abbrev cX4_takeToken : ByteArray := prog_6_method_4_code
def yX4_takeToken : MethodName := ⟨RX4, "takeToken", "()V"⟩
abbrev cX4_isLetter : ByteArray := prog_6_method_5_code
def yX4_isLetter : MethodName := ⟨RX4, "isLetter", "(I)Z"⟩
abbrev cX4_isDigit : ByteArray := prog_6_method_6_code
def yX4_isDigit : MethodName := ⟨RX4, "isDigit", "(I)Z"⟩
abbrev cX4_wordInHand : ByteArray := prog_6_method_7_code
def yX4_wordInHand : MethodName := ⟨RX4, "wordInHand", "()I"⟩
abbrev cX4_isWord : ByteArray := prog_6_method_8_code
def yX4_isWord : MethodName := ⟨RX4, "isWord", "(Ljava/lang/String;)Z"⟩
abbrev cX4_numberInHand : ByteArray := prog_6_method_9_code
def yX4_numberInHand : MethodName := ⟨RX4, "numberInHand", "()I"⟩
abbrev cX4_canBegin : ByteArray := prog_6_method_10_code
def yX4_canBegin : MethodName := ⟨RX4, "canBegin", "(I)Z"⟩
abbrev cX4_canStand : ByteArray := prog_6_method_11_code
def yX4_canStand : MethodName := ⟨RX4, "canStand", "(II)Z"⟩
abbrev cX4_canStandInTram : ByteArray := prog_6_method_12_code
def yX4_canStandInTram : MethodName := ⟨RX4, "canStandInTram", "(II)Z"⟩
abbrev cX4_canStandInFolk : ByteArray := prog_6_method_13_code
def yX4_canStandInFolk : MethodName := ⟨RX4, "canStandInFolk", "(II)Z"⟩
abbrev cX4_isWithin : ByteArray := prog_6_method_14_code
def yX4_isWithin : MethodName := ⟨RX4, "isWithin", "(III)Z"⟩
abbrev cX4_doLine : ByteArray := prog_6_method_15_code
def yX4_doLine : MethodName := ⟨RX4, "doLine", "(I)V"⟩
def RX5 : String := "NeededStop$Text"
def TX5 : u_T := fun k => match k with
  | 0 => ("NeededStop$Text", "bytes", "[I", true)
  | _ => ("NeededStop$Text", "size", "I", false)
def tyX5 : Nat → FieldType := fun k => match k with
  | 0 => .array .int
  | _ => .int
theorem nmX5 : ∀ a, a < 2 → ∀ b, b < 2 → a ≠ b → (TX5 a).2.1 ≠ (TX5 b).2.1 := by decide +kernel
theorem tyX5_ok : ∀ k, k < 2 → parseFieldDescriptor (TX5 k).2.2.1 = some (tyX5 k) := by decide +kernel
abbrev cX5_init : ByteArray := prog_7_method_1_code
def yX5_init : MethodName := ⟨RX5, "<init>", "()V"⟩
abbrev cX5_append : ByteArray := prog_7_method_2_code
def yX5_append : MethodName := ⟨RX5, "append", "(I)V"⟩
abbrev cX5_signAt : ByteArray := prog_7_method_3_code
def yX5_signAt : MethodName := ⟨RX5, "signAt", "(I)I"⟩
abbrev cX5_spells : ByteArray := prog_7_method_4_code
def yX5_spells : MethodName := ⟨RX5, "spells", "(Ljava/lang/String;II)Z"⟩
def RX6 : String := "NeededStop$Told"
def TX6 : u_T := fun k => match k with
  | 0 => ("NeededStop$Told", "places", "I", false)
  | 1 => ("NeededStop$Told", "kinds", "I", false)
  | 2 => ("NeededStop$Told", "span", "I", false)
  | 3 => ("NeededStop$Told", "seats", "I", false)
  | 4 => ("NeededStop$Told", "fare", "I", false)
  | 5 => ("NeededStop$Told", "trams", "I", false)
  | 6 => ("NeededStop$Told", "tramPlace", "[I", true)
  | 7 => ("NeededStop$Told", "tramMinute", "[I", true)
  | 8 => ("NeededStop$Told", "tramWay", "[I", true)
  | 9 => ("NeededStop$Told", "people", "I", false)
  | 10 => ("NeededStop$Told", "begin", "[I", true)
  | 11 => ("NeededStop$Told", "home", "[I", true)
  | 12 => ("NeededStop$Told", "moods", "I", false)
  | 13 => ("NeededStop$Told", "whose", "[I", true)
  | 14 => ("NeededStop$Told", "kind", "[I", true)
  | 15 => ("NeededStop$Told", "minute", "[I", true)
  | _ => ("NeededStop$Told", "moodsOf", "[I", true)
def tyX6 : Nat → FieldType := fun k => match k with
  | 0 => .int
  | 1 => .int
  | 2 => .int
  | 3 => .int
  | 4 => .int
  | 5 => .int
  | 6 => .array .int
  | 7 => .array .int
  | 8 => .array .int
  | 9 => .int
  | 10 => .array .int
  | 11 => .array .int
  | 12 => .int
  | 13 => .array .int
  | 14 => .array .int
  | 15 => .array .int
  | _ => .array .int
theorem nmX6 : ∀ a, a < 17 → ∀ b, b < 17 → a ≠ b → (TX6 a).2.1 ≠ (TX6 b).2.1 := by decide +kernel
theorem tyX6_ok : ∀ k, k < 17 → parseFieldDescriptor (TX6 k).2.2.1 = some (tyX6 k) := by decide +kernel
abbrev cX6_init : ByteArray := prog_8_method_1_code
def yX6_init : MethodName := ⟨RX6, "<init>", "()V"⟩
abbrev cX6_copyFrom : ByteArray := prog_8_method_2_code
def yX6_copyFrom : MethodName := ⟨RX6, "copyFrom", "(LNeededStop$Told;)V"⟩
abbrev cX6_isPlace : ByteArray := prog_8_method_3_code
def yX6_isPlace : MethodName := ⟨RX6, "isPlace", "(I)Z"⟩
abbrev cX6_isTram : ByteArray := prog_8_method_4_code
def yX6_isTram : MethodName := ⟨RX6, "isTram", "(I)Z"⟩
abbrev cX6_isPerson : ByteArray := prog_8_method_5_code
def yX6_isPerson : MethodName := ⟨RX6, "isPerson", "(I)Z"⟩
abbrev cX6_layRail : ByteArray := prog_8_method_6_code
def yX6_layRail : MethodName := ⟨RX6, "layRail", "(I)V"⟩
abbrev cX6_putTram : ByteArray := prog_8_method_7_code
def yX6_putTram : MethodName := ⟨RX6, "putTram", "(IIII)V"⟩
abbrev cX6_putPerson : ByteArray := prog_8_method_8_code
def yX6_putPerson : MethodName := ⟨RX6, "putPerson", "(III)V"⟩
abbrev cX6_addMood : ByteArray := prog_8_method_9_code
def yX6_addMood : MethodName := ⟨RX6, "addMood", "(III)V"⟩
abbrev cX6_dropLastMood : ByteArray := prog_8_method_10_code
def yX6_dropLastMood : MethodName := ⟨RX6, "dropLastMood", "()V"⟩
abbrev cX6_clearMoods : ByteArray := prog_8_method_11_code
def yX6_clearMoods : MethodName := ⟨RX6, "clearMoods", "()V"⟩
abbrev cX6_whoseMood : ByteArray := prog_8_method_12_code
def yX6_whoseMood : MethodName := ⟨RX6, "whoseMood", "(I)I"⟩
abbrev cX6_leastKind : ByteArray := prog_8_method_13_code
def yX6_leastKind : MethodName := ⟨RX6, "leastKind", "()I"⟩
abbrev cX6_toldPerson : ByteArray := prog_8_method_14_code
def yX6_toldPerson : MethodName := ⟨RX6, "toldPerson", "(I)I"⟩
abbrev cX6_folkOf : ByteArray := prog_8_method_15_code
def yX6_folkOf : MethodName := ⟨RX6, "folkOf", "(I)I"⟩
def RX7 : String := "NeededStop"
def TX7 : u_T := fun k => match k with
  | 0 => ("NeededStop", "text", "LNeededStop$Text;", true)
  | 1 => ("NeededStop", "told", "LNeededStop$Told;", true)
  | 2 => ("NeededStop", "reader", "LNeededStop$Reader;", true)
  | 3 => ("NeededStop", "today", "LNeededStop$Day;", true)
  | 4 => ("NeededStop", "foretold", "LNeededStop$Day;", true)
  | 5 => ("NeededStop", "kept", "[LNeededStop$Day;", true)
  | 6 => ("NeededStop", "isKept", "[Z", true)
  | 7 => ("NeededStop", "feigning", "LNeededStop$Feigning;", true)
  | _ => ("NeededStop", "readBack", "LNeededStop$ReadBack;", true)
def tyX7 : Nat → FieldType := fun k => match k with
  | 0 => .object "NeededStop$Text"
  | 1 => .object "NeededStop$Told"
  | 2 => .object "NeededStop$Reader"
  | 3 => .object "NeededStop$Day"
  | 4 => .object "NeededStop$Day"
  | 5 => .array (.object "NeededStop$Day")
  | 6 => .array .boolean
  | 7 => .object "NeededStop$Feigning"
  | _ => .object "NeededStop$ReadBack"
theorem nmX7 : ∀ a, a < 9 → ∀ b, b < 9 → a ≠ b → (TX7 a).2.1 ≠ (TX7 b).2.1 := by decide +kernel
theorem tyX7_ok : ∀ k, k < 9 → parseFieldDescriptor (TX7 k).2.2.1 = some (tyX7 k) := by decide +kernel
abbrev cX7_init : ByteArray := prog_1_method_1_code
def yX7_init : MethodName := ⟨RX7, "<init>", "()V"⟩
abbrev cX7_write : ByteArray := prog_1_method_2_code
def yX7_write : MethodName := ⟨RX7, "write", "(JI)I"⟩
abbrev cX7_erase : ByteArray := prog_1_method_3_code
def yX7_erase : MethodName := ⟨RX7, "erase", "()I"⟩
abbrev cX7_fault : ByteArray := prog_1_method_4_code
def yX7_fault : MethodName := ⟨RX7, "fault", "()I"⟩
abbrev cX7_rail : ByteArray := prog_1_method_5_code
def yX7_rail : MethodName := ⟨RX7, "rail", "()I"⟩
abbrev cX7_mood : ByteArray := prog_1_method_6_code
def yX7_mood : MethodName := ⟨RX7, "mood", "(II)I"⟩
abbrev cX7_drawn : ByteArray := prog_1_method_7_code
def yX7_drawn : MethodName := ⟨RX7, "drawn", "(II)I"⟩
abbrev cX7_go : ByteArray := prog_1_method_8_code
def yX7_go : MethodName := ⟨RX7, "go", "(I)I"⟩
abbrev cX7_tram : ByteArray := prog_1_method_9_code
def yX7_tram : MethodName := ⟨RX7, "tram", "(II)I"⟩
abbrev cX7_person : ByteArray := prog_1_method_10_code
def yX7_person : MethodName := ⟨RX7, "person", "(II)I"⟩
abbrev cX7_halt : ByteArray := prog_1_method_11_code
def yX7_halt : MethodName := ⟨RX7, "halt", "(II)I"⟩
abbrev cX7_keep : ByteArray := prog_1_method_12_code
def yX7_keep : MethodName := ⟨RX7, "keep", "(I)I"⟩
abbrev cX7_back : ByteArray := prog_1_method_13_code
def yX7_back : MethodName := ⟨RX7, "back", "(I)I"⟩
abbrev cX7_home : ByteArray := prog_1_method_14_code
def yX7_home : MethodName := ⟨RX7, "home", "(I)I"⟩
abbrev cX7_feigned : ByteArray := prog_1_method_15_code
def yX7_feigned : MethodName := ⟨RX7, "feigned", "(III)I"⟩
abbrev cX7_law : ByteArray := prog_1_method_16_code
def yX7_law : MethodName := ⟨RX7, "law", "(I)I"⟩
abbrev cX7_worn : ByteArray := prog_1_method_17_code
def yX7_worn : MethodName := ⟨RX7, "worn", "(I)I"⟩
abbrev cX7_dry : ByteArray := prog_1_method_18_code
def yX7_dry : MethodName := ⟨RX7, "dry", "()I"⟩
abbrev cX7_last : ByteArray := prog_1_method_19_code
def yX7_last : MethodName := ⟨RX7, "last", "(I)I"⟩
abbrev cX7_fares : ByteArray := prog_1_method_20_code
def yX7_fares : MethodName := ⟨RX7, "fares", "()I"⟩
abbrev cX7_seen : ByteArray := prog_1_method_21_code
def yX7_seen : MethodName := ⟨RX7, "seen", "(II)I"⟩
abbrev cX7_forget : ByteArray := prog_1_method_22_code
def yX7_forget : MethodName := ⟨RX7, "forget", "()I"⟩
abbrev cX7_read : ByteArray := prog_1_method_23_code
def yX7_read : MethodName := ⟨RX7, "read", "(I)I"⟩
abbrev cX7_odds : ByteArray := prog_1_method_24_code
def yX7_odds : MethodName := ⟨RX7, "odds", "(II)I"⟩
abbrev cX7_count : ByteArray := prog_1_method_25_code
def yX7_count : MethodName := ⟨RX7, "count", "(I)I"⟩
abbrev cX7_dropWhatDependsOnMoods : ByteArray := prog_1_method_26_code
def yX7_dropWhatDependsOnMoods : MethodName := ⟨RX7, "dropWhatDependsOnMoods", "()V"⟩
abbrev cX7_foretellDay : ByteArray := prog_1_method_27_code
def yX7_foretellDay : MethodName := ⟨RX7, "foretellDay", "(I)V"⟩
abbrev cX7_lowestPart : ByteArray := prog_1_method_28_code
def yX7_lowestPart : MethodName := ⟨RX7, "lowestPart", "(III)I"⟩
abbrev cX7_commonDivisor : ByteArray := prog_1_method_29_code
def yX7_commonDivisor : MethodName := ⟨RX7, "commonDivisor", "(II)I"⟩
def RX8 : String := "NeededStopModel"
def TX8 : u_T := fun k => match k with
  | 0 => ("NeededStopModel", "places", "I", false)
  | 1 => ("NeededStopModel", "nose", "I", false)
  | 2 => ("NeededStopModel", "span", "I", false)
  | 3 => ("NeededStopModel", "seats", "I", false)
  | 4 => ("NeededStopModel", "fare", "I", false)
  | 5 => ("NeededStopModel", "trams", "I", false)
  | 6 => ("NeededStopModel", "tram", "[I", true)
  | 7 => ("NeededStopModel", "folk", "I", false)
  | 8 => ("NeededStopModel", "person", "[I", true)
  | 9 => ("NeededStopModel", "moods", "I", false)
  | 10 => ("NeededStopModel", "mood", "[I", true)
  | 11 => ("NeededStopModel", "seens", "I", false)
  | 12 => ("NeededStopModel", "seen", "[I", true)
  | 13 => ("NeededStopModel", "bytes", "I", false)
  | 14 => ("NeededStopModel", "text", "[I", true)
  | 15 => ("NeededStopModel", "position", "I", false)
  | 16 => ("NeededStopModel", "tokenAt", "I", false)
  | 17 => ("NeededStopModel", "token", "J", false)
  | 18 => ("NeededStopModel", "digits", "I", false)
  | 19 => ("NeededStopModel", "number", "I", false)
  | 20 => ("NeededStopModel", "faultAt", "I", false)
  | 21 => ("NeededStopModel", "readMany", "I", false)
  | 22 => ("NeededStopModel", "readPlaces", "I", false)
  | 23 => ("NeededStopModel", "readFolk", "I", false)
  | 24 => ("NeededStopModel", "readMoods", "I", false)
  | 25 => ("NeededStopModel", "read", "[I", true)
  | 26 => ("NeededStopModel", "now", "[I", true)
  | 27 => ("NeededStopModel", "aside", "[I", true)
  | 28 => ("NeededStopModel", "image", "[I", true)
  | 29 => ("NeededStopModel", "isKept", "[Z", true)
  | 30 => ("NeededStopModel", "triedNose", "I", false)
  | 31 => ("NeededStopModel", "triedSpan", "I", false)
  | 32 => ("NeededStopModel", "triedMoods", "I", false)
  | 33 => ("NeededStopModel", "best", "[I", true)
  | 34 => ("NeededStopModel", "lawMany", "I", false)
  | 35 => ("NeededStopModel", "lawFirst", "I", false)
  | _ => ("NeededStopModel", "lawHas", "[I", true)
def tyX8 : Nat → FieldType := fun k => match k with
  | 0 => .int
  | 1 => .int
  | 2 => .int
  | 3 => .int
  | 4 => .int
  | 5 => .int
  | 6 => .array .int
  | 7 => .int
  | 8 => .array .int
  | 9 => .int
  | 10 => .array .int
  | 11 => .int
  | 12 => .array .int
  | 13 => .int
  | 14 => .array .int
  | 15 => .int
  | 16 => .int
  | 17 => .long
  | 18 => .int
  | 19 => .int
  | 20 => .int
  | 21 => .int
  | 22 => .int
  | 23 => .int
  | 24 => .int
  | 25 => .array .int
  | 26 => .array .int
  | 27 => .array .int
  | 28 => .array .int
  | 29 => .array .boolean
  | 30 => .int
  | 31 => .int
  | 32 => .int
  | 33 => .array .int
  | 34 => .int
  | 35 => .int
  | _ => .array .int
theorem nmX8 : ∀ a, a < 37 → ∀ b, b < 37 → a ≠ b → (TX8 a).2.1 ≠ (TX8 b).2.1 := by decide +kernel
theorem tyX8_ok : ∀ k, k < 37 → parseFieldDescriptor (TX8 k).2.2.1 = some (tyX8 k) := by decide +kernel
abbrev cX8_init : ByteArray := prog_10_method_1_code
def yX8_init : MethodName := ⟨RX8, "<init>", "()V"⟩
abbrev cX8_in : ByteArray := prog_10_method_2_code
def yX8_in : MethodName := ⟨RX8, "in", "(III)Z"⟩
abbrev cX8_has : ByteArray := prog_10_method_3_code
def yX8_has : MethodName := ⟨RX8, "has", "(II)Z"⟩
abbrev cX8_bits : ByteArray := prog_10_method_4_code
def yX8_bits : MethodName := ⟨RX8, "bits", "(I)I"⟩
abbrev cX8_isPerson : ByteArray := prog_10_method_5_code
def yX8_isPerson : MethodName := ⟨RX8, "isPerson", "(I)Z"⟩
abbrev cX8_isTram : ByteArray := prog_10_method_6_code
def yX8_isTram : MethodName := ⟨RX8, "isTram", "(I)Z"⟩
abbrev cX8_isPlace : ByteArray := prog_10_method_7_code
def yX8_isPlace : MethodName := ⟨RX8, "isPlace", "(I)Z"⟩
abbrev cX8_write : ByteArray := prog_10_method_8_code
def yX8_write : MethodName := ⟨RX8, "write", "(JI)I"⟩
abbrev cX8_erase : ByteArray := prog_10_method_9_code
def yX8_erase : MethodName := ⟨RX8, "erase", "()I"⟩
abbrev cX8_nextToken : ByteArray := prog_10_method_10_code
def yX8_nextToken : MethodName := ⟨RX8, "nextToken", "()V"⟩
abbrev cX8_fails : ByteArray := prog_10_method_11_code
def yX8_fails : MethodName := ⟨RX8, "fails", "()Z"⟩
abbrev cX8_isNumber : ByteArray := prog_10_method_12_code
def yX8_isNumber : MethodName := ⟨RX8, "isNumber", "(III)Z"⟩
abbrev cX8_isRail : ByteArray := prog_10_method_13_code
def yX8_isRail : MethodName := ⟨RX8, "isRail", "(I)Z"⟩
abbrev cX8_isFolk : ByteArray := prog_10_method_14_code
def yX8_isFolk : MethodName := ⟨RX8, "isFolk", "(I)Z"⟩
abbrev cX8_isMood : ByteArray := prog_10_method_15_code
def yX8_isMood : MethodName := ⟨RX8, "isMood", "(I)Z"⟩
abbrev cX8_isLine : ByteArray := prog_10_method_16_code
def yX8_isLine : MethodName := ⟨RX8, "isLine", "(I)Z"⟩
abbrev cX8_isRead : ByteArray := prog_10_method_17_code
def yX8_isRead : MethodName := ⟨RX8, "isRead", "()Z"⟩
abbrev cX8_fault : ByteArray := prog_10_method_18_code
def yX8_fault : MethodName := ⟨RX8, "fault", "()I"⟩
abbrev cX8_addMood : ByteArray := prog_10_method_19_code
def yX8_addMood : MethodName := ⟨RX8, "addMood", "(III)V"⟩
abbrev cX8_doLine : ByteArray := prog_10_method_20_code
def yX8_doLine : MethodName := ⟨RX8, "doLine", "(I)V"⟩
abbrev cX8_begin : ByteArray := prog_10_method_21_code
def yX8_begin : MethodName := ⟨RX8, "begin", "()V"⟩
abbrev cX8_rail : ByteArray := prog_10_method_22_code
def yX8_rail : MethodName := ⟨RX8, "rail", "()I"⟩
abbrev cX8_mood : ByteArray := prog_10_method_23_code
def yX8_mood : MethodName := ⟨RX8, "mood", "(II)I"⟩
abbrev cX8_personOf : ByteArray := prog_10_method_24_code
def yX8_personOf : MethodName := ⟨RX8, "personOf", "(I)I"⟩
abbrev cX8_drawn : ByteArray := prog_10_method_25_code
def yX8_drawn : MethodName := ⟨RX8, "drawn", "(II)I"⟩
abbrev cX8_placeNow : ByteArray := prog_10_method_26_code
def yX8_placeNow : MethodName := ⟨RX8, "placeNow", "(I)I"⟩
abbrev cX8_causeOf : ByteArray := prog_10_method_27_code
def yX8_causeOf : MethodName := ⟨RX8, "causeOf", "(I)I"⟩
abbrev cX8_haltMany : ByteArray := prog_10_method_28_code
def yX8_haltMany : MethodName := ⟨RX8, "haltMany", "()I"⟩
abbrev cX8_haltBy : ByteArray := prog_10_method_29_code
def yX8_haltBy : MethodName := ⟨RX8, "haltBy", "(II)V"⟩
abbrev cX8_goOn : ByteArray := prog_10_method_30_code
def yX8_goOn : MethodName := ⟨RX8, "goOn", "(I)V"⟩
abbrev cX8_goMinute : ByteArray := prog_10_method_31_code
def yX8_goMinute : MethodName := ⟨RX8, "goMinute", "()V"⟩
abbrev cX8_asTold : ByteArray := prog_10_method_32_code
def yX8_asTold : MethodName := ⟨RX8, "asTold", "()V"⟩
abbrev cX8_go : ByteArray := prog_10_method_33_code
def yX8_go : MethodName := ⟨RX8, "go", "(I)I"⟩
abbrev cX8_tram : ByteArray := prog_10_method_34_code
def yX8_tram : MethodName := ⟨RX8, "tram", "(II)I"⟩
abbrev cX8_person : ByteArray := prog_10_method_35_code
def yX8_person : MethodName := ⟨RX8, "person", "(II)I"⟩
abbrev cX8_halt : ByteArray := prog_10_method_36_code
def yX8_halt : MethodName := ⟨RX8, "halt", "(II)I"⟩
abbrev cX8_copy : ByteArray := prog_10_method_37_code
def yX8_copy : MethodName := ⟨RX8, "copy", "([II[II)V"⟩
abbrev cX8_keep : ByteArray := prog_10_method_38_code
def yX8_keep : MethodName := ⟨RX8, "keep", "(I)I"⟩
abbrev cX8_back : ByteArray := prog_10_method_39_code
def yX8_back : MethodName := ⟨RX8, "back", "(I)I"⟩
abbrev cX8_goDay : ByteArray := prog_10_method_40_code
def yX8_goDay : MethodName := ⟨RX8, "goDay", "()V"⟩
abbrev cX8_putBack : ByteArray := prog_10_method_41_code
def yX8_putBack : MethodName := ⟨RX8, "putBack", "()V"⟩
abbrev cX8_late : ByteArray := prog_10_method_42_code
def yX8_late : MethodName := ⟨RX8, "late", "(I)I"⟩
abbrev cX8_home : ByteArray := prog_10_method_43_code
def yX8_home : MethodName := ⟨RX8, "home", "(I)I"⟩
abbrev cX8_tryFeigned : ByteArray := prog_10_method_44_code
def yX8_tryFeigned : MethodName := ⟨RX8, "tryFeigned", "(IIII)V"⟩
abbrev cX8_feigned : ByteArray := prog_10_method_45_code
def yX8_feigned : MethodName := ⟨RX8, "feigned", "(III)I"⟩
abbrev cX8_law : ByteArray := prog_10_method_46_code
def yX8_law : MethodName := ⟨RX8, "law", "(I)I"⟩
abbrev cX8_wornAt : ByteArray := prog_10_method_47_code
def yX8_wornAt : MethodName := ⟨RX8, "wornAt", "(I)I"⟩
abbrev cX8_worn : ByteArray := prog_10_method_48_code
def yX8_worn : MethodName := ⟨RX8, "worn", "(I)I"⟩
abbrev cX8_dry : ByteArray := prog_10_method_49_code
def yX8_dry : MethodName := ⟨RX8, "dry", "()I"⟩
abbrev cX8_divisor : ByteArray := prog_10_method_50_code
def yX8_divisor : MethodName := ⟨RX8, "divisor", "(II)I"⟩
abbrev cX8_last : ByteArray := prog_10_method_51_code
def yX8_last : MethodName := ⟨RX8, "last", "(I)I"⟩
abbrev cX8_fares : ByteArray := prog_10_method_52_code
def yX8_fares : MethodName := ⟨RX8, "fares", "()I"⟩
abbrev cX8_seen : ByteArray := prog_10_method_53_code
def yX8_seen : MethodName := ⟨RX8, "seen", "(II)I"⟩
abbrev cX8_forget : ByteArray := prog_10_method_54_code
def yX8_forget : MethodName := ⟨RX8, "forget", "()I"⟩
abbrev cX8_areSeen : ByteArray := prog_10_method_55_code
def yX8_areSeen : MethodName := ⟨RX8, "areSeen", "()Z"⟩
abbrev cX8_layLaws : ByteArray := prog_10_method_56_code
def yX8_layLaws : MethodName := ⟨RX8, "layLaws", "()V"⟩
abbrev cX8_read : ByteArray := prog_10_method_57_code
def yX8_read : MethodName := ⟨RX8, "read", "(I)I"⟩
abbrev cX8_odds : ByteArray := prog_10_method_58_code
def yX8_odds : MethodName := ⟨RX8, "odds", "(II)I"⟩
abbrev cX8_count : ByteArray := prog_10_method_59_code
def yX8_count : MethodName := ⟨RX8, "count", "(I)I"⟩
def RJx145de : String := "java/io/Serializable"
def RJx9f9b0 : String := "java/lang/CharSequence"
def RJxb160c : String := "java/lang/Comparable"
def RJ6 : String := "java/lang/Integer"
abbrev cJ6_bitCount_0f7a4 : ByteArray := prog_11_method_49_code
def yJ6_bitCount_0f7a4 : MethodName := ⟨RJ6, "bitCount", "(I)I"⟩
def RJ9 : String := "java/lang/Math"
abbrev cJ9_max_7cf53 : ByteArray := prog_12_method_65_code
def yJ9_max_7cf53 : MethodName := ⟨RJ9, "max", "(II)I"⟩
abbrev cJ9_min_7cf53 : ByteArray := prog_12_method_69_code
def yJ9_min_7cf53 : MethodName := ⟨RJ9, "min", "(II)I"⟩
def RJ0 : String := "java/lang/String"
abbrev cJ0_length_8abf5 : ByteArray := prog_13_method_54_code
def yJ0_length_8abf5 : MethodName := ⟨RJ0, "length", "()I"⟩
abbrev cJ0_charAt_5068e : ByteArray := prog_13_method_56_code
def yJ0_charAt_5068e : MethodName := ⟨RJ0, "charAt", "(I)C"⟩
abbrev cJ0_coder_7d493 : ByteArray := prog_13_method_152_code
def yJ0_coder_7d493 : MethodName := ⟨RJ0, "coder", "()B"⟩
abbrev cJ0_isLatin1_aae02 : ByteArray := prog_13_method_154_code
def yJ0_isLatin1_aae02 : MethodName := ⟨RJ0, "isLatin1", "()Z"⟩
abbrev cJ0_checkIndex_df160 : ByteArray := prog_13_method_155_code
def yJ0_checkIndex_df160 : MethodName := ⟨RJ0, "checkIndex", "(II)V"⟩
def RJ1 : String := "java/lang/StringLatin1"
abbrev cJ1_charAt_3b067 : ByteArray := prog_14_method_2_code
def yJ1_charAt_3b067 : MethodName := ⟨RJ1, "charAt", "([BI)C"⟩
def RJ2 : String := "java/lang/StringUTF16"
abbrev cJ2_getChar_3b067 : ByteArray := prog_15_method_5_code
def yJ2_getChar_3b067 : MethodName := ⟨RJ2, "getChar", "([BI)C"⟩
abbrev cJ2_length_9d52b : ByteArray := prog_15_method_6_code
def yJ2_length_9d52b : MethodName := ⟨RJ2, "length", "([B)I"⟩
abbrev cJ2_charAt_3b067 : ByteArray := prog_15_method_83_code
def yJ2_charAt_3b067 : MethodName := ⟨RJ2, "charAt", "([BI)C"⟩
abbrev cJ2_checkIndex_2214a : ByteArray := prog_15_method_91_code
def yJ2_checkIndex_2214a : MethodName := ⟨RJ2, "checkIndex", "(I[B)V"⟩
def RJ10 : String := "java/lang/System"
def RJxfd54e : String := "java/lang/constant/Constable"
def RJx3cf43 : String := "java/lang/constant/ConstantDesc"
def RJ7 : String := "java/util/Arrays"
abbrev cJ7_fill_53178 : ByteArray := prog_17_method_103_code
def yJ7_fill_53178 : MethodName := ⟨RJ7, "fill", "([II)V"⟩
def RJ3 : String := "jdk/internal/util/Preconditions"
abbrev cJ3_checkIndex_8e157 : ByteArray := prog_18_method_11_code
def yJ3_checkIndex_8e157 : MethodName := ⟨RJ3, "checkIndex", "(IILjava/util/function/BiFunction;)I"⟩
def RL : String := "NeededStopLaw"
abbrev cL_law : ByteArray := code
def yL_law : MethodName := ⟨RL, "law", "([I)Z"⟩
abbrev vwCl : List vw_C := [(RX0, TX0, 15), (RX1, TX1, 13), (RX2, TX2, 5), (RX3, TX3, 9), (RX4, TX4, 8), (RX5, TX5, 2), (RX6, TX6, 17), (RX7, TX7, 9), (RX8, TX8, 37)]
end
section
/-! ===== the abstract world: cells by numbers, an address map, the judgement ===== -/
abbrev xE : Type := (Nat × Nat × (Nat → Int32)) ⊕ (List (Option Nat) ⊕ (Nat × List Value))
abbrev xI : Type := va_G × ClassId × ClassId × ClassId
abbrev xB : Nat := 1000000
def xv (ad : Nat → Nat) : Value → Value
  | .ref k => .ref (ad k)
  | v => v
def xe (I : xI) (ad : Nat → Nat) : xE → va_E
  | .inl (t, n, f) => .inl (if t = 0 then I.2.1 else I.2.2.1, n, .inl f)
  | .inr (.inl l) => .inl (I.2.2.2, l.length, .inr (.inr (.inr (.inr (fun j => (l[j]?.join).map ad)))))
  | .inr (.inr (ci, fs)) => .inr (ci, fs.map (xv ad))
def xw (I : xI) (ad : Nat → Nat) (X : List xE) : va_W := X.mapIdx (fun i c => (ad i, xe I ad c))
theorem xw_len (I : xI) (ad : Nat → Nat) (X : List xE) : (xw I ad X).length = X.length := by simp [xw]
theorem xw_at (I : xI) (ad : Nat → Nat) (X : List xE) (k : Nat) : (xw I ad X)[k]? = (X[k]?).map (fun c => (ad k, xe I ad c)) := by simp [xw]
theorem xw_get {I : xI} {ad : Nat → Nat} {X : List xE} {k : Nat} {c : xE} (h : X[k]? = some c) : (xw I ad X)[k]? = some (ad k, xe I ad c) := by rw [xw_at, h]; rfl
theorem xw_inv {I : xI} {ad : Nat → Nat} {X : List xE} {k : Nat} {q : Nat × va_E} (h : (xw I ad X)[k]? = some q) : ∃ c, X[k]? = some c ∧ q = (ad k, xe I ad c) := by
  rw [xw_at] at h
  cases hx : X[k]? with
  | none => rw [hx] at h; cases h
  | some c => rw [hx] at h; exact ⟨c, rfl, (Option.some.inj h).symm⟩
theorem xw_set (I : xI) (ad : Nat → Nat) (X : List xE) (k : Nat) (c : xE) : (xw I ad X).set k (ad k, xe I ad c) = xw I ad (X.set k c) := by
  apply List.ext_getElem?
  intro i
  rw [xw_at, List.getElem?_set, List.getElem?_set]
  by_cases h : k = i
  · subst h
    rw [if_pos rfl, if_pos rfl, xw_len]
    by_cases h2 : k < X.length
    · rw [if_pos h2, if_pos h2]; rfl
    · rw [if_neg h2, if_neg h2]; rfl
  · rw [if_neg h, if_neg h, xw_at]
theorem xw_push (I : xI) (ad : Nat → Nat) (X : List xE) (c : xE) : xw I ad X ++ [(ad X.length, xe I ad c)] = xw I ad (X ++ [c]) := by simp [xw, List.mapIdx_append]
def xrv (P : Nat → Prop) : Value → Prop
  | .ref k => P k
  | _ => True
def xre (P : Nat → Prop) : xE → Prop
  | .inl _ => True
  | .inr (.inl l) => ∀ k, some k ∈ l → P k
  | .inr (.inr (_, fs)) => ∀ v ∈ fs, xrv P v
theorem xv_congr {P : Nat → Prop} {ad ad' : Nat → Nat} (ha : ∀ k, P k → ad k = ad' k) {v : Value} (h : xrv P v) : xv ad v = xv ad' v := by
  cases v <;> first | rfl | (simp only [xv]; rw [ha _ h])
theorem xe_congr {P : Nat → Prop} {I : xI} {ad ad' : Nat → Nat} (ha : ∀ k, P k → ad k = ad' k) {c : xE} (h : xre P c) : xe I ad c = xe I ad' c := by
  rcases c with ⟨t, n, f⟩ | l | ⟨ci, fs⟩
  · rfl
  · simp only [xe]
    have hf : (fun j : Nat => (l[j]?.join).map ad) = (fun j : Nat => (l[j]?.join).map ad') := by
     funext j
     cases hj : l[j]? with
     | none => rfl
     | some o =>
      cases o with
      | none => rfl
      | some k => show some (ad k) = some (ad' k); rw [ha k (h k (List.mem_of_getElem? hj))]
    rw [hf]
  · simp only [xe]
    congr 2
    exact List.map_congr_left (fun v hv => xv_congr ha (h v hv))
theorem xw_congr {I : xI} {ad ad' : Nat → Nat} {P : Nat → Prop} {X : List xE} (ha : ∀ k, P k → ad k = ad' k) (hl : ∀ k, k < X.length → P k) (h : ∀ c ∈ X, xre P c) : xw I ad X = xw I ad' X := by
  apply List.ext_getElem?
  intro i
  rw [xw_at, xw_at]
  cases hi : X[i]? with
  | none => rfl
  | some c =>
    simp only [Option.map]
    rw [ha i (hl i (List.getElem?_eq_some_iff.mp hi).1), xe_congr ha (h c (List.mem_of_getElem? hi))]
def xokv (n : Nat) : Value → Bool
  | .ref k => Nat.blt k n || Nat.ble xB k
  | _ => true
def xoke (n : Nat) : xE → Bool
  | .inl _ => true
  | .inr (.inl l) => l.all (fun o => match o with | none => true | some k => Nat.blt k n || Nat.ble xB k)
  | .inr (.inr (_, fs)) => fs.all (xokv n)
theorem xokv_sp {n : Nat} {v : Value} (h : xokv n v = true) : xrv (fun k => k < n ∨ xB ≤ k) v := by
  cases v <;> first | trivial | skip
  simp only [xokv, Bool.or_eq_true, Nat.blt_eq, Nat.ble_eq] at h
  exact h
theorem xoke_sp {n : Nat} {c : xE} (h : xoke n c = true) : xre (fun k => k < n ∨ xB ≤ k) c := by
  rcases c with ⟨t, m, f⟩ | l | ⟨ci, fs⟩
  · trivial
  · intro k hk
    have := List.all_eq_true.mp h (some k) hk
    simp only [Bool.or_eq_true, Nat.blt_eq, Nat.ble_eq] at this
    exact this
  · intro v hv
    exact xokv_sp (List.all_eq_true.mp h v hv)
def xls (ad : Nat → Nat) : Nat → List (Option Value) → List (Nat × Value)
  | _, [] => []
  | i, none :: t => xls ad (i + 1) t
  | i, some v :: t => (i, xv ad v) :: xls ad (i + 1) t
theorem xls_mem (ad : Nat → Nat) : ∀ (ls : List (Option Value)) (b : Nat) (q : Nat × Value), q ∈ xls ad b ls ↔ ∃ k v, ls[k]? = some (some v) ∧ q = (b + k, xv ad v)
  | [], b, q => by simp [xls]
  | none :: t, b, q => by
    rw [xls, xls_mem ad t (b + 1) q]
    constructor
    · rintro ⟨k, v, h, rfl⟩
      exact ⟨k + 1, v, by simpa using h, by rw [Nat.add_assoc, Nat.add_comm 1 k]⟩
    · rintro ⟨k, v, h, rfl⟩
      cases k with
      | zero => simp at h
      | succ k => exact ⟨k, v, by simpa using h, by rw [Nat.add_assoc, Nat.add_comm 1 k]⟩
  | some w :: t, b, q => by
    rw [xls, List.mem_cons, xls_mem ad t (b + 1) q]
    constructor
    · rintro (rfl | ⟨k, v, h, rfl⟩)
      · exact ⟨0, w, by simp, by simp⟩
      · exact ⟨k + 1, v, by simpa using h, by rw [Nat.add_assoc, Nat.add_comm 1 k]⟩
    · rintro ⟨k, v, h, rfl⟩
      cases k with
      | zero => left; simp at h; simp [h]
      | succ k => right; exact ⟨k, v, by simpa using h, by rw [Nat.add_assoc, Nat.add_comm 1 k]⟩
def xL (la : Array Slot) (n : Nat) (ad : Nat → Nat) (ls : List (Option Value)) : Prop := lv_has la n (xls ad 0 ls) ∧ ls.length = n
theorem xL_at {la : Array Slot} {n : Nat} {ad : Nat → Nat} {ls : List (Option Value)} (h : xL la n ad ls) {k : Nat} {v : Value} (hk : ls[k]? = some (some v)) : la[k]? = some (.val (xv ad v)) :=
  h.1.2.2 (k, xv ad v) ((xls_mem ad ls 0 _).mpr ⟨k, v, hk, by rw [Nat.zero_add]⟩)
theorem xv_cat (ad : Nat → Nat) (v : Value) : (xv ad v).category = v.category := by cases v <;> rfl
/-- may a value of one slot be stored at k: k is a place, and what stands just below is no long -/
def xlok (ls : List (Option Value)) (k : Nat) : Bool := Nat.blt k ls.length && (match k with
  | 0 => true
  | j + 1 => match ls[j]? with
    | some (some (.long _)) => false
    | some (some (.double _)) => false
    | _ => true)
theorem xL_store {la : Array Slot} {n : Nat} {ad : Nat → Nat} {ls : List (Option Value)} (h : xL la n ad ls) {k : Nat} {v : Value} (hk : xlok ls k = true) (hc : v.category = 1) :
    ∃ la', storeLocals la k (xv ad v) = some la' ∧ xL la' n ad (ls.set k (some v)) := by
  obtain ⟨hl, hn⟩ := h
  simp only [xlok, Bool.and_eq_true, Nat.blt_eq] at hk
  obtain ⟨hk1, hk2⟩ := hk
  obtain ⟨la', e, h'⟩ := lv_store1 (v := xv ad v) hl (by omega : k < n) (by rw [xv_cat]; exact hc)
  refine ⟨la', e, ⟨h'.1, h'.2.1, fun q hq => ?_⟩, by rw [List.length_set]; exact hn⟩
  obtain ⟨j, w, hj, rfl⟩ := (xls_mem ad _ 0 q).mp hq
  rw [Nat.zero_add]
  rw [List.getElem?_set] at hj
  by_cases hkj : k = j
  · subst hkj
    rw [if_pos rfl, if_pos hk1] at hj
    cases hj
    exact h'.2.2 _ List.mem_cons_self
  · rw [if_neg hkj] at hj
    refine h'.2.2 (j, xv ad w) (List.mem_cons_of_mem _ (List.mem_filter.mpr ⟨(xls_mem ad ls 0 _).mpr ⟨j, w, hj, by rw [Nat.zero_add]⟩, ?_⟩))
    have e1 : (j == k) = false := by simp; omega
    simp only [e1, Bool.not_false, Bool.true_and, Bool.not_eq_true', Bool.and_eq_false_iff]
    by_cases h2 : j + 1 = k
    · right
      subst h2
      simp only [hj] at hk2
      cases w <;> first | rfl | (simp at hk2)
    · left
      simp; exact h2
theorem xL_ad {la : Array Slot} {n m : Nat} {ad ad' : Nat → Nat} {ls : List (Option Value)} (h : xL la n ad ls) (ha : ∀ k, k < m ∨ xB ≤ k → ad k = ad' k) (hok : ls.all (fun o => match o with | none => true | some v => xokv m v) = true) : xL la n ad' ls := by
  refine ⟨⟨h.1.1, h.1.2.1, fun q hq => ?_⟩, h.2⟩
  obtain ⟨j, w, hj, rfl⟩ := (xls_mem ad' ls 0 q).mp hq
  have h1 := List.all_eq_true.mp hok _ (List.mem_of_getElem? hj)
  rw [Nat.zero_add, ← xv_congr ha (xokv_sp h1)]
  exact xL_at h hj
theorem xmap_ad {m : Nat} {ad ad' : Nat → Nat} {st : List Value} (ha : ∀ k, k < m ∨ xB ≤ k → ad k = ad' k) (hok : st.all (xokv m) = true) : st.map (xv ad) = st.map (xv ad') :=
  List.map_congr_left (fun v hv => xv_congr ha (xokv_sp (List.all_eq_true.mp hok v hv)))
end
section
/-! ===== words, contexts, judgement, contract ===== -/
def xtb : List Cond := lw_tbl.filter goodWord
theorem xtb_sub : ∀ w ∈ xtb, w ∈ lw_tbl := fun _ h => (List.mem_filter.mp h).1
theorem xtb_good {ts : List Cond} (h : ∀ w ∈ xtb, w ∈ ts) : GoodIn ts xtb := fun w hw => ⟨h w hw, good_of_word (List.mem_filter.mp hw).2⟩
theorem xtb_in {w : Cond} (h : w ∈ tables_1) (hg : goodWord w = true) : w ∈ xtb := List.mem_filter.mpr ⟨List.mem_append_right _ h, hg⟩
theorem xtb_at {w : Cond} (t : Nat) (h : tables_1[t]? = some w) (hg : goodWord w = true) : w ∈ xtb := xtb_in (List.mem_of_getElem? h) hg
/-- an instruction with what it links: next place, target, int and long constant, three numbers, a switch's cases -/
abbrev xO : Type := Instr × Nat × Nat × Int32 × Int64 × Nat × Nat × Nat × List (Int32 × Nat)
/-- a method: name, code, locals, what it returns, its rows by sixteens -/
abbrev xM : Type := MethodName × ByteArray × Nat × Option FieldType × List (List (Nat × xO))
abbrev xown (M : xM) : String := M.1.cls
abbrev xcc (M : xM) : ByteArray := M.2.1
abbrev xml (M : xM) : Nat := M.2.2.1
abbrev xret (M : xM) : Option FieldType := M.2.2.2.1
def xat (M : xM) (pc : Nat) : Option xO := match M.2.2.2.2[pc / 16]? with
  | some l => l.lookup pc
  | none => none
abbrev xT (I : xI) : List (ClassId × FieldType) := [(I.2.1, .int), (I.2.2.1, .boolean), (I.2.2.2, .object "NeededStop$Day")]
def xnum : List Int32 := [1, 2, 1, 1, 4, 3, 2, 2, 2, 0]
def xsl : List Nat := [4, 4, 5, 4, 4, 4, 5, 8, 4, 4]
def xsb : List (List Int32) := [[114, 97, 105, 108], [110, 111, 115, 101], [115, 101, 97, 116, 115], [102, 97, 114, 101], [116, 114, 97, 109], [102, 111, 108, 107], [116, 101, 97, 114, 115], [108, 97, 117, 103, 104, 116, 101, 114], [100, 101, 98, 116], [99, 97, 108, 109]]
def xsk : List Nat := [89, 95, 97, 99, 101, 103, 105, 107, 109, 111]
def xst : List String := ["rail", "nose", "seats", "fare", "tram", "folk", "tears", "laughter", "debt", "calm"]
/-- what stood before the start, and is never written: the numbers' row, the ten words -/
def xFF (ad : Nat → Nat) (A : Nat → Prop) (U : State) (H : Heap) : Prop :=
  va_Z "NeededStop$Reader" "NUMBERS" "[I" (.ref (ad xB)) A U H ∧ va_T .int (ad xB) 10 (fun j => .int (xnum.getD j 0)) A U H ∧ va_Z "java/lang/String" "COMPACT_STRINGS" "Z" (.int 1) A U H ∧
  vk_S 10 xsl xsb (fun i => ad (xB + 1 + i)) (fun i => ad (xB + 11 + i)) A U H ∧ ∀ i : Nat, i < 10 → vk_R "NeededStop$Reader" (xsk.getD i 0) (xst.getD i "") (ad (xB + 1 + i)) U
theorem xFF.warm {ad : Nat → Nat} {A : Nat → Prop} {s U : State} {H : Heap} (hW : s.WarmedH U.vm) (h : xFF ad A s H) : xFF ad A U H :=
  ⟨h.1.moved hW.alike, h.2.1.moved hW.alike, h.2.2.1.moved hW.alike, h.2.2.2.1.moved hW.alike, fun i hi => (h.2.2.2.2 i hi).warm hW⟩
theorem xFF.same {ad : Nat → Nat} {A : Nat → Prop} {s U : State} {H : Heap} (hv : U.vm = s.vm) (h : xFF ad A s H) : xFF ad A U H := by
  have ha : s.vm.Alike U.vm := by rw [hv]; exact Vm.Alike.refl _
  exact ⟨h.1.moved ha, h.2.1.moved ha, h.2.2.1.moved ha, h.2.2.2.1.moved ha, fun i hi => (h.2.2.2.2 i hi).same hv⟩
theorem xFF.kept {ad : Nat → Nat} {A : Nat → Prop} {U : State} {H H1 : Heap} (h : xFF ad A U H) (hq : ∀ a : Nat, a < H.size → ¬ A a → H1[a]? = H[a]?) : xFF ad A U H1 :=
  ⟨h.1.kept hq, h.2.1.kept hq, h.2.2.1.kept hq, h.2.2.2.1.kept hq, h.2.2.2.2⟩
theorem xFF.narrow {ad : Nat → Nat} {A B : Nat → Prop} {U : State} {H : Heap} (h : xFF ad A U H) (hAB : ∀ q, B q → A q) : xFF ad B U H :=
  ⟨h.1.narrow hAB, h.2.1.narrow hAB, h.2.2.1.narrow hAB, h.2.2.2.1.narrow hAB, h.2.2.2.2⟩
theorem xFF.ad {ad ad' : Nat → Nat} {A : Nat → Prop} {U : State} {H : Heap} (h : xFF ad A U H) (ha : ∀ i, xB ≤ i → ad' i = ad i) : xFF ad' A U H := by
  have e0 := ha xB (Nat.le_refl _)
  have e1 : (fun i => ad' (xB + 1 + i)) = (fun i => ad (xB + 1 + i)) := funext fun i => ha _ (by omega)
  have e2 : (fun i => ad' (xB + 11 + i)) = (fun i => ad (xB + 11 + i)) := funext fun i => ha _ (by omega)
  unfold xFF
  rw [e0, e1, e2]
  refine ⟨h.1, h.2.1, h.2.2.1, h.2.2.2.1, fun i hi => ?_⟩
  rw [ha _ (by omega)]
  exact h.2.2.2.2 i hi
/-- the machine's own part of a context -/
def xC (M : xM) (d : Nat) (p : Program) (R : Room) (s : State) (m : MethodId) (args : Array Value) (meth : Method) (c : Code) (I : xI) (A : Nat → Prop) : Prop :=
  p.tables.exec = Jvm.exec ∧ c.code = xcc M ∧ meth.sig.returnType = xret M ∧ c.maxLocals = xml M ∧ s.vm.findClass (xown M) = some m.cls ∧ (∀ w ∈ xtb, w.before args s = true) ∧ va_K I.1 vwCl (xT I) s ∧ meth.locks = false ∧ (M.1.name = "<init>" → meth.name = "<init>") ∧ (∀ q, s.heap.size ≤ q → A q) ∧ d ≤ R.frames ∧ 50 * d ≤ R.locals
/-- the world now -/
def xH (I : xI) (A : Nat → Prop) (s : State) (n0 : Nat) (ad0 ad : Nat → Nat) (X : List xE) (H : Heap) (locs : List Loc) : Prop :=
  (∀ i, i < n0 ∨ xB ≤ i → ad i = ad0 i) ∧ n0 ≤ X.length ∧ X.length ≤ xB ∧ va_P I.1 vwCl (xw I ad X) H ∧ va_D A (xw I ad X) ∧ va_S A s.heap H locs
/-- how it returns: an instruction of the code, an answer that its type takes -/
def xrt (M : xM) (pc : Nat) : Option Value → Prop
  | none => xret M = none ∧ decode (xcc M) pc = .ok (.return_, 1)
  | some (.int v) => decode (xcc M) pc = .ok (.ireturn, 1) ∧ ∃ ty, xret M = some ty ∧ narrow ty (.int v) = .int v
  | _ => False
def xG (l : Launch) (M : xM) (d mc ms : Nat) (Q : Option Value → List xE → Prop) (n0 : Nat) (p : Program) (e : Env) (R : Room) (s : State) (m : MethodId) (args : Array Value) (below : List Frame) (meth : Method) (c : Code) (I : xI) (A : Nat → Prop) (QF : State → Prop) (ad0 : Nat → Nat) : Prop :=
  xC M d p R s m args meth c I A ∧ mc ≤ R.cells ∧ ms ≤ R.slots ∧ xFF ad0 A s s.heap ∧
  ∀ (r : Option Value) (X : List xE) (ad : Nat → Nat) (H : Heap) (locs : List Loc) (pc : Nat) (la : Array Slot), Q r X → xH I A s n0 ad0 ad X H locs → xrt M pc r → W p l e R s m args below meth c H locs mc ms QF (F0 m pc la (r.toList.map (xv ad)))
/-- THE JUDGEMENT: from this abstract configuration the method comes to its end with Q -/
def AJ (l : Launch) (M : xM) (d mc ms : Nat) (Q : Option Value → List xE → Prop) (n0 : Nat) (z : Nat × Nat) (pc : Nat) (ls : List (Option Value)) (st : List Value) (X : List xE) : Prop :=
  ∀ (p : Program) (e : Env) (R : Room) (s : State) (m : MethodId) (args : Array Value) (below : List Frame) (meth : Method) (c : Code) (I : xI) (A : Nat → Prop) (QF : State → Prop) (ad0 : Nat → Nat), xG l M d mc ms Q n0 p e R s m args below meth c I A QF ad0 →
  ∀ (ad : Nat → Nat) (H : Heap) (locs : List Loc) (la : Array Slot), xH I A s n0 ad0 ad X H locs → xL la (xml M) ad ls → W p l e R s m args below meth c H locs z.1 z.2 QF (F0 m pc la (st.map (xv ad)))
abbrev xW (M : xM) : List Cond := .code M.1 (xcc M) (xml M) (xret M) :: xtb
def xPc (I : xI) (ad : Nat → Nat) (X : List xE) (sz : Nat) (av : List Value) : Array Value → State → Prop :=
  va_Pc (av.map (xv ad)) (fun U => U.heap.size = sz ∧ va_P I.1 vwCl (xw I ad X) U.heap ∧ va_K I.1 vwCl (xT I) U ∧ va_D (fun _ => True) (xw I ad X) ∧ xFF ad (va_A (xw I ad X) sz) U U.heap)
def xQc (I : xI) (ad0 : Nat → Nat) (n0 : Nat) (A : Nat → Prop) (Q : Option Value → List xE → Prop) : Array Value → State → Outcome → State → Prop := fun _ st oc t =>
  (∃ (r : Option Value) (X : List xE) (ad : Nat → Nat), oc = .returned (r.map (xv ad)) ∧ (∀ i, i < n0 ∨ xB ≤ i → ad i = ad0 i) ∧ n0 ≤ X.length ∧ X.length ≤ xB ∧ Q r X ∧ va_P I.1 vwCl (xw I ad X) t.heap ∧ va_K I.1 vwCl (xT I) t ∧ va_D A (xw I ad X)) ∧ va_F A st t
abbrev xRm (d mc ms : Nat) : Room := { frames := d, cells := mc, slots := ms, locals := 50 * d }
/-- THE CONTRACT: called with av in the world X, the method returns, and Q holds of its answer and the world behind it -/
def CT (l : Launch) (M : xM) (d mc ms : Nat) (av : List Value) (X : List xE) (Q : Option Value → List xE → Prop) : Prop :=
  X.length ≤ xB ∧ ∀ (I : xI) (ad : Nat → Nat) (sz : Nat), Met l M.1 (xW M) (xRm d mc ms) (xPc I ad X sz av) (xQc I ad X.length (va_A (xw I ad X) sz) Q) mc ms (va_A (xw I ad X) sz)
theorem xPc_blind (I : xI) (ad : Nat → Nat) (X : List xE) (sz : Nat) (av : List Value) : FrameBlind (xPc I ad X sz av) := fun a U g mk q => by
  obtain ⟨q0, q1, qP, qK, qD, qF⟩ := q
  exact ⟨q0, q1, qP, va_K.moved (u := U) (U := U.calling g mk a) (Vm.Alike.refl U.vm) qK, qD, qF.same (U := U.calling g mk a) rfl⟩
def xfl : List Value → List (Option Value)
  | [] => []
  | v :: t => if v.category = 2 then some v :: none :: xfl t else some v :: xfl t
theorem xfl_args (ad : Nat → Nat) : ∀ (av : List Value) (b : Nat) (r : List (Option Value)), (∀ o ∈ r, o = none) → xls ad b (xfl av ++ r) = lv_args b (av.map (xv ad))
  | [], b, r, hr => by
    simp only [xfl, List.nil_append, List.map_nil, lv_args]
    induction r generalizing b with
    | nil => rfl
    | cons o t ih =>
      cases hr o List.mem_cons_self
      rw [xls]
      exact ih (b + 1) (fun o h => hr o (List.mem_cons_of_mem _ h))
  | v :: t, b, r, hr => by
    rw [List.map_cons, lv_args, xv_cat, xfl]
    by_cases h : v.category = 2
    · rw [if_pos h, if_pos h, List.cons_append, List.cons_append, xls, xls, xfl_args ad t (b + 1 + 1) r hr]
    · rw [if_neg h, if_neg h, List.cons_append, xls, xfl_args ad t (b + 1) r hr]
theorem xfl_len (ad : Nat → Nat) : ∀ av : List Value, (lg_sl (av.map (xv ad))).length = (xfl av).length
  | [] => rfl
  | v :: t => by
    have ih := xfl_len ad t
    simp only [lg_sl, List.map_cons, List.flatMap_cons, List.length_append, xv_cat, xfl] at ih ⊢
    by_cases h : v.category = 2
    · simp [h, ih]; omega
    · simp [h, ih]; omega
def xent (n : Nat) (av : List Value) : List (Option Value) := xfl av ++ List.replicate (n - (xfl av).length) none
theorem xent_L (ad : Nat → Nat) (n : Nat) (av : List Value) (h : (xfl av).length ≤ n) : xL ((lg_sl (av.map (xv ad)) ++ List.replicate (n - (lg_sl (av.map (xv ad))).length) Slot.unset).toArray) n ad (xent n av) := by
  refine ⟨?_, ?_⟩
  · unfold xent
    rw [xfl_args ad av 0 _ (fun o h => (List.mem_replicate.mp h).2)]
    exact lv_entry (av.map (xv ad)) (by rw [xfl_len]; exact h)
  · unfold xent
    rw [List.length_append, List.length_replicate]
    omega
set_option maxHeartbeats 1000000 in
/-- a contract out of the judgement at the method's entry -/
theorem CT.of {l : Launch} {M : xM} {d mc ms : Nat} {av : List Value} {X : List xE} {Q : Option Value → List xE → Prop} (hy : plainName M.1.cls = true) (hB : X.length ≤ xB) (hn : (xfl av).length ≤ xml M)
    (h : AJ l M d mc ms Q X.length (0, 0) 0 (xent (xml M) av) [] X) : CT l M d mc ms av X Q := by
  refine ⟨hB, fun I ad sz => ?_⟩
  refine Met.ofW (cc := xcc M) (maxL := xml M) (ret := xret M) hy rfl ?_
  intro p e s m args below meth c s₁ B hml hv
  obtain ⟨rfl, hsz, hP, hK, hD0, hF⟩ := hv
  subst hsz
  have hD := hD0.self (sz := s.heap.size)
  have hts := atoms_spec (ws := xW M) B.pre
  have hown : s.vm.findClass M.1.cls = some m.cls := findClass_of_methodNamed B.named
  have hA : ∀ q : Nat, s.heap.size ≤ q → va_A (xw I ad X) s.heap.size q := fun q h => Or.inr h
  have hlocks : meth.locks = false := B.notSynchronized
  have hin : M.1.name = "<init>" → meth.name = "<init>" := fun h => ((name_of_methodNamed B.named B.method).1).trans h
  rw [lg_entry_eq]
  refine h p e _ s m _ below meth c I (va_A (xw I ad X) s.heap.size) _ ad ⟨⟨B.exec, B.bytes, B.returns, hml, hown, fun w hw => hts w (List.mem_cons_of_mem _ hw), hK, B.notSynchronized, hin, hA, Nat.le_refl _, Nat.le_refl _⟩, Nat.le_refl _, Nat.le_refl _, hF, ?_⟩ ad s.heap [] _ ⟨fun _ _ => rfl, Nat.le_refl _, hB, hP, hD, va_S.rf⟩ (xent_L ad (xml M) av hn)
  intro r X' ad' H locs pc la hQ hH hrt
  obtain ⟨ha, hn0, hB', hP', hD', hS⟩ := hH
  match r, hrt with
  | none, hrt =>
    exact W.vret B.exec B.bytes (B.returns.trans hrt.1) (fun t ht hW => ⟨⟨none, X', ad', rfl, ha, hn0, hB', hQ, by rw [ht]; exact hP', va_K.moved hW.alike hK, hD'⟩, hS.F ht⟩) hS.2.2 hrt.2
  | some (.int v), hrt =>
    obtain ⟨hd, ty, h1, h2⟩ := hrt
    exact W.zret B.exec B.bytes (B.returns.trans h1) h2 (fun t ht hW => ⟨⟨some (.int v), X', ad', rfl, ha, hn0, hB', hQ, by rw [ht]; exact hP', va_K.moved hW.alike hK, hD'⟩, hS.F ht⟩) hS.2.2 hd
end
