-- ===== PART A: goes FIRST, ahead of the names: the tables' words, and 'selects' of the private methods out of them =====
/-- a private method of a class that the tables say can be made, by its rows of tables_1 -/
def lw_okq (q : MethodName × Nat) : Prop := (q.1.cls ≠ "java/lang/invoke/MethodHandle" ∧ q.1.cls ≠ "java/lang/invoke/VarHandle") ∧ Cond.instantiable q.1.cls q.2 ∈ tables_1 ∧ Cond.privateMethod q.1 ∈ tables_1 ∧ Cond.instanceMethod q.1 ∈ tables_1
theorem lw_p0 : lw_okq (⟨"ShipUnstopped$Tape", "skipBlanks", "()V"⟩, 5) := ⟨⟨by decide +kernel, by decide +kernel⟩, List.mem_of_getElem? (i := 68) (by decide +kernel), List.mem_of_getElem? (i := 468) (by decide +kernel), List.mem_of_getElem? (i := 469) (by decide +kernel)⟩
theorem lw_p1 : lw_okq (⟨"ShipUnstopped$Tape", "nextKind", "()I"⟩, 5) := ⟨⟨by decide +kernel, by decide +kernel⟩, List.mem_of_getElem? (i := 68) (by decide +kernel), List.mem_of_getElem? (i := 472) (by decide +kernel), List.mem_of_getElem? (i := 473) (by decide +kernel)⟩
theorem lw_p2 : lw_okq (⟨"ShipUnstopped$Tape", "nextWord", "()I"⟩, 5) := ⟨⟨by decide +kernel, by decide +kernel⟩, List.mem_of_getElem? (i := 68) (by decide +kernel), List.mem_of_getElem? (i := 479) (by decide +kernel), List.mem_of_getElem? (i := 480) (by decide +kernel)⟩
theorem lw_p3 : lw_okq (⟨"ShipUnstopped$Tape", "spells", "(IILjava/lang/String;)Z"⟩, 5) := ⟨⟨by decide +kernel, by decide +kernel⟩, List.mem_of_getElem? (i := 68) (by decide +kernel), List.mem_of_getElem? (i := 500) (by decide +kernel), List.mem_of_getElem? (i := 501) (by decide +kernel)⟩
theorem lw_p4 : lw_okq (⟨"ShipUnstopped$Tape", "nextNumber", "()I"⟩, 5) := ⟨⟨by decide +kernel, by decide +kernel⟩, List.mem_of_getElem? (i := 68) (by decide +kernel), List.mem_of_getElem? (i := 555) (by decide +kernel), List.mem_of_getElem? (i := 556) (by decide +kernel)⟩
theorem lw_p5 : lw_okq (⟨"ShipUnstopped$Tape", "signKind", "(I)I"⟩, 5) := ⟨⟨by decide +kernel, by decide +kernel⟩, List.mem_of_getElem? (i := 68) (by decide +kernel), List.mem_of_getElem? (i := 560) (by decide +kernel), List.mem_of_getElem? (i := 561) (by decide +kernel)⟩
theorem lw_p6 : lw_okq (⟨"ShipUnstopped$Tape", "equalsFollows", "()Z"⟩, 5) := ⟨⟨by decide +kernel, by decide +kernel⟩, List.mem_of_getElem? (i := 68) (by decide +kernel), List.mem_of_getElem? (i := 564) (by decide +kernel), List.mem_of_getElem? (i := 565) (by decide +kernel)⟩
theorem lw_p7 : lw_okq (⟨"ShipUnstopped$Reader", "readClause", "()V"⟩, 10) := ⟨⟨by decide +kernel, by decide +kernel⟩, List.mem_of_getElem? (i := 94) (by decide +kernel), List.mem_of_getElem? (i := 568) (by decide +kernel), List.mem_of_getElem? (i := 569) (by decide +kernel)⟩
theorem lw_p8 : lw_okq (⟨"ShipUnstopped$Reader", "fail", "(I)V"⟩, 10) := ⟨⟨by decide +kernel, by decide +kernel⟩, List.mem_of_getElem? (i := 94) (by decide +kernel), List.mem_of_getElem? (i := 572) (by decide +kernel), List.mem_of_getElem? (i := 573) (by decide +kernel)⟩
theorem lw_p9 : lw_okq (⟨"ShipUnstopped$Reader", "step", "()V"⟩, 10) := ⟨⟨by decide +kernel, by decide +kernel⟩, List.mem_of_getElem? (i := 94) (by decide +kernel), List.mem_of_getElem? (i := 587) (by decide +kernel), List.mem_of_getElem? (i := 588) (by decide +kernel)⟩
theorem lw_p10 : lw_okq (⟨"ShipUnstopped$Reader", "readEither", "()V"⟩, 10) := ⟨⟨by decide +kernel, by decide +kernel⟩, List.mem_of_getElem? (i := 94) (by decide +kernel), List.mem_of_getElem? (i := 591) (by decide +kernel), List.mem_of_getElem? (i := 592) (by decide +kernel)⟩
theorem lw_p11 : lw_okq (⟨"ShipUnstopped$Reader", "readBoth", "()V"⟩, 10) := ⟨⟨by decide +kernel, by decide +kernel⟩, List.mem_of_getElem? (i := 94) (by decide +kernel), List.mem_of_getElem? (i := 595) (by decide +kernel), List.mem_of_getElem? (i := 596) (by decide +kernel)⟩
theorem lw_p12 : lw_okq (⟨"ShipUnstopped$Reader", "readAsk", "()V"⟩, 10) := ⟨⟨by decide +kernel, by decide +kernel⟩, List.mem_of_getElem? (i := 94) (by decide +kernel), List.mem_of_getElem? (i := 599) (by decide +kernel), List.mem_of_getElem? (i := 600) (by decide +kernel)⟩
theorem lw_p13 : lw_okq (⟨"ShipUnstopped$Reader", "enters", "()Z"⟩, 10) := ⟨⟨by decide +kernel, by decide +kernel⟩, List.mem_of_getElem? (i := 94) (by decide +kernel), List.mem_of_getElem? (i := 603) (by decide +kernel), List.mem_of_getElem? (i := 604) (by decide +kernel)⟩
theorem lw_p14 : lw_okq (⟨"ShipUnstopped$Reader", "readSum", "()V"⟩, 10) := ⟨⟨by decide +kernel, by decide +kernel⟩, List.mem_of_getElem? (i := 94) (by decide +kernel), List.mem_of_getElem? (i := 611) (by decide +kernel), List.mem_of_getElem? (i := 612) (by decide +kernel)⟩
theorem lw_p15 : lw_okq (⟨"ShipUnstopped$Reader", "readProduct", "()V"⟩, 10) := ⟨⟨by decide +kernel, by decide +kernel⟩, List.mem_of_getElem? (i := 94) (by decide +kernel), List.mem_of_getElem? (i := 615) (by decide +kernel), List.mem_of_getElem? (i := 616) (by decide +kernel)⟩
def lw_privs_1 : List (MethodName × Nat) := [(⟨"ShipUnstopped$Tape", "skipBlanks", "()V"⟩, 5), (⟨"ShipUnstopped$Tape", "nextKind", "()I"⟩, 5), (⟨"ShipUnstopped$Tape", "nextWord", "()I"⟩, 5), (⟨"ShipUnstopped$Tape", "spells", "(IILjava/lang/String;)Z"⟩, 5), (⟨"ShipUnstopped$Tape", "nextNumber", "()I"⟩, 5), (⟨"ShipUnstopped$Tape", "signKind", "(I)I"⟩, 5), (⟨"ShipUnstopped$Tape", "equalsFollows", "()Z"⟩, 5), (⟨"ShipUnstopped$Reader", "readClause", "()V"⟩, 10), (⟨"ShipUnstopped$Reader", "fail", "(I)V"⟩, 10), (⟨"ShipUnstopped$Reader", "step", "()V"⟩, 10), (⟨"ShipUnstopped$Reader", "readEither", "()V"⟩, 10), (⟨"ShipUnstopped$Reader", "readBoth", "()V"⟩, 10), (⟨"ShipUnstopped$Reader", "readAsk", "()V"⟩, 10), (⟨"ShipUnstopped$Reader", "enters", "()Z"⟩, 10), (⟨"ShipUnstopped$Reader", "readSum", "()V"⟩, 10), (⟨"ShipUnstopped$Reader", "readProduct", "()V"⟩, 10)]
theorem lw_r1 : ∀ q ∈ lw_privs_1, lw_okq q := List.forall_mem_cons.mpr ⟨lw_p0, List.forall_mem_cons.mpr ⟨lw_p1, List.forall_mem_cons.mpr ⟨lw_p2, List.forall_mem_cons.mpr ⟨lw_p3, List.forall_mem_cons.mpr ⟨lw_p4, List.forall_mem_cons.mpr ⟨lw_p5, List.forall_mem_cons.mpr ⟨lw_p6, List.forall_mem_cons.mpr ⟨lw_p7, List.forall_mem_cons.mpr ⟨lw_p8, List.forall_mem_cons.mpr ⟨lw_p9, List.forall_mem_cons.mpr ⟨lw_p10, List.forall_mem_cons.mpr ⟨lw_p11, List.forall_mem_cons.mpr ⟨lw_p12, List.forall_mem_cons.mpr ⟨lw_p13, List.forall_mem_cons.mpr ⟨lw_p14, List.forall_mem_cons.mpr ⟨lw_p15, fun _ h => absurd h List.not_mem_nil⟩⟩⟩⟩⟩⟩⟩⟩⟩⟩⟩⟩⟩⟩⟩⟩
theorem lw_p16 : lw_okq (⟨"ShipUnstopped$Reader", "readOne", "()V"⟩, 10) := ⟨⟨by decide +kernel, by decide +kernel⟩, List.mem_of_getElem? (i := 94) (by decide +kernel), List.mem_of_getElem? (i := 619) (by decide +kernel), List.mem_of_getElem? (i := 620) (by decide +kernel)⟩
theorem lw_p17 : lw_okq (⟨"ShipUnstopped$Reader", "take", "(I)V"⟩, 10) := ⟨⟨by decide +kernel, by decide +kernel⟩, List.mem_of_getElem? (i := 94) (by decide +kernel), List.mem_of_getElem? (i := 624) (by decide +kernel), List.mem_of_getElem? (i := 625) (by decide +kernel)⟩
theorem lw_p18 : lw_okq (⟨"ShipUnstopped", "followRuling", "()V"⟩, 8) := ⟨⟨by decide +kernel, by decide +kernel⟩, List.mem_of_getElem? (i := 23) (by decide +kernel), List.mem_of_getElem? (i := 636) (by decide +kernel), List.mem_of_getElem? (i := 637) (by decide +kernel)⟩
theorem lw_p19 : lw_okq (⟨"ShipUnstopped", "isState", "(I)Z"⟩, 8) := ⟨⟨by decide +kernel, by decide +kernel⟩, List.mem_of_getElem? (i := 23) (by decide +kernel), List.mem_of_getElem? (i := 644) (by decide +kernel), List.mem_of_getElem? (i := 645) (by decide +kernel)⟩
theorem lw_p20 : lw_okq (⟨"ShipUnstopped$Laws", "setOut", "(IIII)V"⟩, 4) := ⟨⟨by decide +kernel, by decide +kernel⟩, List.mem_of_getElem? (i := 306) (by decide +kernel), List.mem_of_getElem? (i := 673) (by decide +kernel), List.mem_of_getElem? (i := 674) (by decide +kernel)⟩
theorem lw_p21 : lw_okq (⟨"ShipUnstopped$Laws", "speedBy", "(II)I"⟩, 4) := ⟨⟨by decide +kernel, by decide +kernel⟩, List.mem_of_getElem? (i := 306) (by decide +kernel), List.mem_of_getElem? (i := 677) (by decide +kernel), List.mem_of_getElem? (i := 678) (by decide +kernel)⟩
theorem lw_p22 : lw_okq (⟨"ShipUnstopped$Laws", "value", "(I)I"⟩, 4) := ⟨⟨by decide +kernel, by decide +kernel⟩, List.mem_of_getElem? (i := 306) (by decide +kernel), List.mem_of_getElem? (i := 682) (by decide +kernel), List.mem_of_getElem? (i := 683) (by decide +kernel)⟩
theorem lw_p23 : lw_okq (⟨"ShipUnstopped", "sailAnHour", "(II)I"⟩, 8) := ⟨⟨by decide +kernel, by decide +kernel⟩, List.mem_of_getElem? (i := 23) (by decide +kernel), List.mem_of_getElem? (i := 728) (by decide +kernel), List.mem_of_getElem? (i := 729) (by decide +kernel)⟩
theorem lw_p24 : lw_okq (⟨"ShipUnstopped$Chart", "pace", "(I)V"⟩, 14) := ⟨⟨by decide +kernel, by decide +kernel⟩, List.mem_of_getElem? (i := 327) (by decide +kernel), List.mem_of_getElem? (i := 803) (by decide +kernel), List.mem_of_getElem? (i := 804) (by decide +kernel)⟩
theorem lw_p25 : lw_okq (⟨"ShipUnstopped$Chart", "sound", "(I)V"⟩, 14) := ⟨⟨by decide +kernel, by decide +kernel⟩, List.mem_of_getElem? (i := 327) (by decide +kernel), List.mem_of_getElem? (i := 816) (by decide +kernel), List.mem_of_getElem? (i := 817) (by decide +kernel)⟩
theorem lw_p26 : lw_okq (⟨"ShipUnstopped$Chart", "putAfloat", "(IIZ)V"⟩, 14) := ⟨⟨by decide +kernel, by decide +kernel⟩, List.mem_of_getElem? (i := 327) (by decide +kernel), List.mem_of_getElem? (i := 826) (by decide +kernel), List.mem_of_getElem? (i := 827) (by decide +kernel)⟩
theorem lw_p27 : lw_okq (⟨"ShipUnstopped$Chart", "startFrom", "(I)V"⟩, 14) := ⟨⟨by decide +kernel, by decide +kernel⟩, List.mem_of_getElem? (i := 327) (by decide +kernel), List.mem_of_getElem? (i := 834) (by decide +kernel), List.mem_of_getElem? (i := 835) (by decide +kernel)⟩
theorem lw_p28 : lw_okq (⟨"ShipUnstopped$Chart", "goAnHour", "(III)Z"⟩, 14) := ⟨⟨by decide +kernel, by decide +kernel⟩, List.mem_of_getElem? (i := 327) (by decide +kernel), List.mem_of_getElem? (i := 844) (by decide +kernel), List.mem_of_getElem? (i := 845) (by decide +kernel)⟩
theorem lw_p29 : lw_okq (⟨"ShipUnstopped$Chart", "spread", "(IIIIII)Z"⟩, 14) := ⟨⟨by decide +kernel, by decide +kernel⟩, List.mem_of_getElem? (i := 327) (by decide +kernel), List.mem_of_getElem? (i := 848) (by decide +kernel), List.mem_of_getElem? (i := 849) (by decide +kernel)⟩
theorem lw_p30 : lw_okq (⟨"ShipUnstopped$Chart", "speedsOfAny", "(IIII)I"⟩, 14) := ⟨⟨by decide +kernel, by decide +kernel⟩, List.mem_of_getElem? (i := 327) (by decide +kernel), List.mem_of_getElem? (i := 858) (by decide +kernel), List.mem_of_getElem? (i := 859) (by decide +kernel)⟩
theorem lw_p31 : lw_okq (⟨"ShipUnstopped$Chart", "lookAnHourAhead", "(III)I"⟩, 14) := ⟨⟨by decide +kernel, by decide +kernel⟩, List.mem_of_getElem? (i := 327) (by decide +kernel), List.mem_of_getElem? (i := 873) (by decide +kernel), List.mem_of_getElem? (i := 874) (by decide +kernel)⟩
def lw_privs_2 : List (MethodName × Nat) := [(⟨"ShipUnstopped$Reader", "readOne", "()V"⟩, 10), (⟨"ShipUnstopped$Reader", "take", "(I)V"⟩, 10), (⟨"ShipUnstopped", "followRuling", "()V"⟩, 8), (⟨"ShipUnstopped", "isState", "(I)Z"⟩, 8), (⟨"ShipUnstopped$Laws", "setOut", "(IIII)V"⟩, 4), (⟨"ShipUnstopped$Laws", "speedBy", "(II)I"⟩, 4), (⟨"ShipUnstopped$Laws", "value", "(I)I"⟩, 4), (⟨"ShipUnstopped", "sailAnHour", "(II)I"⟩, 8), (⟨"ShipUnstopped$Chart", "pace", "(I)V"⟩, 14), (⟨"ShipUnstopped$Chart", "sound", "(I)V"⟩, 14), (⟨"ShipUnstopped$Chart", "putAfloat", "(IIZ)V"⟩, 14), (⟨"ShipUnstopped$Chart", "startFrom", "(I)V"⟩, 14), (⟨"ShipUnstopped$Chart", "goAnHour", "(III)Z"⟩, 14), (⟨"ShipUnstopped$Chart", "spread", "(IIIIII)Z"⟩, 14), (⟨"ShipUnstopped$Chart", "speedsOfAny", "(IIII)I"⟩, 14), (⟨"ShipUnstopped$Chart", "lookAnHourAhead", "(III)I"⟩, 14)]
theorem lw_r2 : ∀ q ∈ lw_privs_2, lw_okq q := List.forall_mem_cons.mpr ⟨lw_p16, List.forall_mem_cons.mpr ⟨lw_p17, List.forall_mem_cons.mpr ⟨lw_p18, List.forall_mem_cons.mpr ⟨lw_p19, List.forall_mem_cons.mpr ⟨lw_p20, List.forall_mem_cons.mpr ⟨lw_p21, List.forall_mem_cons.mpr ⟨lw_p22, List.forall_mem_cons.mpr ⟨lw_p23, List.forall_mem_cons.mpr ⟨lw_p24, List.forall_mem_cons.mpr ⟨lw_p25, List.forall_mem_cons.mpr ⟨lw_p26, List.forall_mem_cons.mpr ⟨lw_p27, List.forall_mem_cons.mpr ⟨lw_p28, List.forall_mem_cons.mpr ⟨lw_p29, List.forall_mem_cons.mpr ⟨lw_p30, List.forall_mem_cons.mpr ⟨lw_p31, fun _ h => absurd h List.not_mem_nil⟩⟩⟩⟩⟩⟩⟩⟩⟩⟩⟩⟩⟩⟩⟩⟩
theorem lw_p32 : lw_okq (⟨"ShipUnstopped$Chart", "layerMoves", "(II)Z"⟩, 14) := ⟨⟨by decide +kernel, by decide +kernel⟩, List.mem_of_getElem? (i := 327) (by decide +kernel), List.mem_of_getElem? (i := 877) (by decide +kernel), List.mem_of_getElem? (i := 878) (by decide +kernel)⟩
theorem lw_p33 : lw_okq (⟨"ShipUnstopped$Chart", "lastsThatCan", "(IIIII)I"⟩, 14) := ⟨⟨by decide +kernel, by decide +kernel⟩, List.mem_of_getElem? (i := 327) (by decide +kernel), List.mem_of_getElem? (i := 881) (by decide +kernel), List.mem_of_getElem? (i := 882) (by decide +kernel)⟩
theorem lw_p34 : lw_okq (⟨"ShipUnstopped$Chart", "goodSpeeds", "(IIIII)I"⟩, 14) := ⟨⟨by decide +kernel, by decide +kernel⟩, List.mem_of_getElem? (i := 327) (by decide +kernel), List.mem_of_getElem? (i := 885) (by decide +kernel), List.mem_of_getElem? (i := 886) (by decide +kernel)⟩
theorem lw_p35 : lw_okq (⟨"ShipUnstopped$Chart", "putLasts", "(IIIII)Z"⟩, 14) := ⟨⟨by decide +kernel, by decide +kernel⟩, List.mem_of_getElem? (i := 327) (by decide +kernel), List.mem_of_getElem? (i := 889) (by decide +kernel), List.mem_of_getElem? (i := 890) (by decide +kernel)⟩
theorem lw_p36 : lw_okq (⟨"ShipUnstopped$Chart", "noteLost", "(I)V"⟩, 14) := ⟨⟨by decide +kernel, by decide +kernel⟩, List.mem_of_getElem? (i := 327) (by decide +kernel), List.mem_of_getElem? (i := 893) (by decide +kernel), List.mem_of_getElem? (i := 894) (by decide +kernel)⟩
theorem lw_p37 : lw_okq (⟨"ShipUnstopped$Chart", "keeps", "(III)Z"⟩, 14) := ⟨⟨by decide +kernel, by decide +kernel⟩, List.mem_of_getElem? (i := 327) (by decide +kernel), List.mem_of_getElem? (i := 915) (by decide +kernel), List.mem_of_getElem? (i := 916) (by decide +kernel)⟩
theorem lw_p38 : lw_okq (⟨"ShipUnstopped", "levelSet", "()I"⟩, 8) := ⟨⟨by decide +kernel, by decide +kernel⟩, List.mem_of_getElem? (i := 23) (by decide +kernel), List.mem_of_getElem? (i := 947) (by decide +kernel), List.mem_of_getElem? (i := 948) (by decide +kernel)⟩
theorem lw_p39 : lw_okq (⟨"ShipUnstopped", "parting", "(I)I"⟩, 8) := ⟨⟨by decide +kernel, by decide +kernel⟩, List.mem_of_getElem? (i := 23) (by decide +kernel), List.mem_of_getElem? (i := 951) (by decide +kernel), List.mem_of_getElem? (i := 952) (by decide +kernel)⟩
theorem lw_p40 : lw_okq (⟨"ShipUnstoppedModel", "isPlace", "(I)Z"⟩, 33) := ⟨⟨by decide +kernel, by decide +kernel⟩, List.mem_of_getElem? (i := 1021) (by decide +kernel), List.mem_of_getElem? (i := 1138) (by decide +kernel), List.mem_of_getElem? (i := 1139) (by decide +kernel)⟩
theorem lw_p41 : lw_okq (⟨"ShipUnstoppedModel", "four", "(I)V"⟩, 33) := ⟨⟨by decide +kernel, by decide +kernel⟩, List.mem_of_getElem? (i := 1021) (by decide +kernel), List.mem_of_getElem? (i := 1158) (by decide +kernel), List.mem_of_getElem? (i := 1159) (by decide +kernel)⟩
theorem lw_p42 : lw_okq (⟨"ShipUnstoppedModel", "readText", "()I"⟩, 33) := ⟨⟨by decide +kernel, by decide +kernel⟩, List.mem_of_getElem? (i := 1021) (by decide +kernel), List.mem_of_getElem? (i := 1170) (by decide +kernel), List.mem_of_getElem? (i := 1171) (by decide +kernel)⟩
theorem lw_p43 : lw_okq (⟨"ShipUnstoppedModel", "nextToken", "()V"⟩, 33) := ⟨⟨by decide +kernel, by decide +kernel⟩, List.mem_of_getElem? (i := 1021) (by decide +kernel), List.mem_of_getElem? (i := 1174) (by decide +kernel), List.mem_of_getElem? (i := 1175) (by decide +kernel)⟩
theorem lw_p44 : lw_okq (⟨"ShipUnstoppedModel", "byteAt", "(I)I"⟩, 33) := ⟨⟨by decide +kernel, by decide +kernel⟩, List.mem_of_getElem? (i := 1021) (by decide +kernel), List.mem_of_getElem? (i := 1178) (by decide +kernel), List.mem_of_getElem? (i := 1179) (by decide +kernel)⟩
theorem lw_p45 : lw_okq (⟨"ShipUnstoppedModel", "clause", "()I"⟩, 33) := ⟨⟨by decide +kernel, by decide +kernel⟩, List.mem_of_getElem? (i := 1021) (by decide +kernel), List.mem_of_getElem? (i := 1189) (by decide +kernel), List.mem_of_getElem? (i := 1190) (by decide +kernel)⟩
theorem lw_p46 : lw_okq (⟨"ShipUnstoppedModel", "sortOf", "()I"⟩, 33) := ⟨⟨by decide +kernel, by decide +kernel⟩, List.mem_of_getElem? (i := 1021) (by decide +kernel), List.mem_of_getElem? (i := 1193) (by decide +kernel), List.mem_of_getElem? (i := 1194) (by decide +kernel)⟩
theorem lw_p47 : lw_okq (⟨"ShipUnstoppedModel", "isWord", "(J)Z"⟩, 33) := ⟨⟨by decide +kernel, by decide +kernel⟩, List.mem_of_getElem? (i := 1021) (by decide +kernel), List.mem_of_getElem? (i := 1203) (by decide +kernel), List.mem_of_getElem? (i := 1204) (by decide +kernel)⟩
def lw_privs_3 : List (MethodName × Nat) := [(⟨"ShipUnstopped$Chart", "layerMoves", "(II)Z"⟩, 14), (⟨"ShipUnstopped$Chart", "lastsThatCan", "(IIIII)I"⟩, 14), (⟨"ShipUnstopped$Chart", "goodSpeeds", "(IIIII)I"⟩, 14), (⟨"ShipUnstopped$Chart", "putLasts", "(IIIII)Z"⟩, 14), (⟨"ShipUnstopped$Chart", "noteLost", "(I)V"⟩, 14), (⟨"ShipUnstopped$Chart", "keeps", "(III)Z"⟩, 14), (⟨"ShipUnstopped", "levelSet", "()I"⟩, 8), (⟨"ShipUnstopped", "parting", "(I)I"⟩, 8), (⟨"ShipUnstoppedModel", "isPlace", "(I)Z"⟩, 33), (⟨"ShipUnstoppedModel", "four", "(I)V"⟩, 33), (⟨"ShipUnstoppedModel", "readText", "()I"⟩, 33), (⟨"ShipUnstoppedModel", "nextToken", "()V"⟩, 33), (⟨"ShipUnstoppedModel", "byteAt", "(I)I"⟩, 33), (⟨"ShipUnstoppedModel", "clause", "()I"⟩, 33), (⟨"ShipUnstoppedModel", "sortOf", "()I"⟩, 33), (⟨"ShipUnstoppedModel", "isWord", "(J)Z"⟩, 33)]
theorem lw_r3 : ∀ q ∈ lw_privs_3, lw_okq q := List.forall_mem_cons.mpr ⟨lw_p32, List.forall_mem_cons.mpr ⟨lw_p33, List.forall_mem_cons.mpr ⟨lw_p34, List.forall_mem_cons.mpr ⟨lw_p35, List.forall_mem_cons.mpr ⟨lw_p36, List.forall_mem_cons.mpr ⟨lw_p37, List.forall_mem_cons.mpr ⟨lw_p38, List.forall_mem_cons.mpr ⟨lw_p39, List.forall_mem_cons.mpr ⟨lw_p40, List.forall_mem_cons.mpr ⟨lw_p41, List.forall_mem_cons.mpr ⟨lw_p42, List.forall_mem_cons.mpr ⟨lw_p43, List.forall_mem_cons.mpr ⟨lw_p44, List.forall_mem_cons.mpr ⟨lw_p45, List.forall_mem_cons.mpr ⟨lw_p46, List.forall_mem_cons.mpr ⟨lw_p47, fun _ h => absurd h List.not_mem_nil⟩⟩⟩⟩⟩⟩⟩⟩⟩⟩⟩⟩⟩⟩⟩⟩
theorem lw_p48 : lw_okq (⟨"ShipUnstoppedModel", "either", "()I"⟩, 33) := ⟨⟨by decide +kernel, by decide +kernel⟩, List.mem_of_getElem? (i := 1021) (by decide +kernel), List.mem_of_getElem? (i := 1210) (by decide +kernel), List.mem_of_getElem? (i := 1211) (by decide +kernel)⟩
theorem lw_p49 : lw_okq (⟨"ShipUnstoppedModel", "asks", "()I"⟩, 33) := ⟨⟨by decide +kernel, by decide +kernel⟩, List.mem_of_getElem? (i := 1021) (by decide +kernel), List.mem_of_getElem? (i := 1214) (by decide +kernel), List.mem_of_getElem? (i := 1215) (by decide +kernel)⟩
theorem lw_p50 : lw_okq (⟨"ShipUnstoppedModel", "summed", "()I"⟩, 33) := ⟨⟨by decide +kernel, by decide +kernel⟩, List.mem_of_getElem? (i := 1021) (by decide +kernel), List.mem_of_getElem? (i := 1218) (by decide +kernel), List.mem_of_getElem? (i := 1219) (by decide +kernel)⟩
theorem lw_p51 : lw_okq (⟨"ShipUnstoppedModel", "goesOn", "()Z"⟩, 33) := ⟨⟨by decide +kernel, by decide +kernel⟩, List.mem_of_getElem? (i := 1021) (by decide +kernel), List.mem_of_getElem? (i := 1222) (by decide +kernel), List.mem_of_getElem? (i := 1223) (by decide +kernel)⟩
theorem lw_p52 : lw_okq (⟨"ShipUnstoppedModel", "hasParen", "()Z"⟩, 33) := ⟨⟨by decide +kernel, by decide +kernel⟩, List.mem_of_getElem? (i := 1021) (by decide +kernel), List.mem_of_getElem? (i := 1226) (by decide +kernel), List.mem_of_getElem? (i := 1227) (by decide +kernel)⟩
theorem lw_p53 : lw_okq (⟨"ShipUnstoppedModel", "behindOne", "()I"⟩, 33) := ⟨⟨by decide +kernel, by decide +kernel⟩, List.mem_of_getElem? (i := 1021) (by decide +kernel), List.mem_of_getElem? (i := 1230) (by decide +kernel), List.mem_of_getElem? (i := 1231) (by decide +kernel)⟩
theorem lw_p54 : lw_okq (⟨"ShipUnstoppedModel", "settle", "(I)V"⟩, 33) := ⟨⟨by decide +kernel, by decide +kernel⟩, List.mem_of_getElem? (i := 1021) (by decide +kernel), List.mem_of_getElem? (i := 1234) (by decide +kernel), List.mem_of_getElem? (i := 1235) (by decide +kernel)⟩
theorem lw_p55 : lw_okq (⟨"ShipUnstoppedModel", "emit", "(II)V"⟩, 33) := ⟨⟨by decide +kernel, by decide +kernel⟩, List.mem_of_getElem? (i := 1021) (by decide +kernel), List.mem_of_getElem? (i := 1238) (by decide +kernel), List.mem_of_getElem? (i := 1239) (by decide +kernel)⟩
theorem lw_p56 : lw_okq (⟨"ShipUnstoppedModel", "push", "(I)V"⟩, 33) := ⟨⟨by decide +kernel, by decide +kernel⟩, List.mem_of_getElem? (i := 1021) (by decide +kernel), List.mem_of_getElem? (i := 1242) (by decide +kernel), List.mem_of_getElem? (i := 1243) (by decide +kernel)⟩
theorem lw_p57 : lw_okq (⟨"ShipUnstoppedModel", "whole", "()V"⟩, 33) := ⟨⟨by decide +kernel, by decide +kernel⟩, List.mem_of_getElem? (i := 1021) (by decide +kernel), List.mem_of_getElem? (i := 1246) (by decide +kernel), List.mem_of_getElem? (i := 1247) (by decide +kernel)⟩
theorem lw_p58 : lw_okq (⟨"ShipUnstoppedModel", "beginOne", "()I"⟩, 33) := ⟨⟨by decide +kernel, by decide +kernel⟩, List.mem_of_getElem? (i := 1021) (by decide +kernel), List.mem_of_getElem? (i := 1250) (by decide +kernel), List.mem_of_getElem? (i := 1251) (by decide +kernel)⟩
theorem lw_p59 : lw_okq (⟨"ShipUnstoppedModel", "nameOf", "()I"⟩, 33) := ⟨⟨by decide +kernel, by decide +kernel⟩, List.mem_of_getElem? (i := 1021) (by decide +kernel), List.mem_of_getElem? (i := 1254) (by decide +kernel), List.mem_of_getElem? (i := 1255) (by decide +kernel)⟩
theorem lw_p60 : lw_okq (⟨"ShipUnstoppedModel", "isBarred", "(I)Z"⟩, 33) := ⟨⟨by decide +kernel, by decide +kernel⟩, List.mem_of_getElem? (i := 1021) (by decide +kernel), List.mem_of_getElem? (i := 1261) (by decide +kernel), List.mem_of_getElem? (i := 1262) (by decide +kernel)⟩
theorem lw_p61 : lw_okq (⟨"ShipUnstoppedModel", "compareOf", "()I"⟩, 33) := ⟨⟨by decide +kernel, by decide +kernel⟩, List.mem_of_getElem? (i := 1021) (by decide +kernel), List.mem_of_getElem? (i := 1265) (by decide +kernel), List.mem_of_getElem? (i := 1266) (by decide +kernel)⟩
theorem lw_p62 : lw_okq (⟨"ShipUnstoppedModel", "isState", "(I)Z"⟩, 33) := ⟨⟨by decide +kernel, by decide +kernel⟩, List.mem_of_getElem? (i := 1021) (by decide +kernel), List.mem_of_getElem? (i := 1282) (by decide +kernel), List.mem_of_getElem? (i := 1283) (by decide +kernel)⟩
theorem lw_p63 : lw_okq (⟨"ShipUnstoppedModel", "madeOf", "(III)I"⟩, 33) := ⟨⟨by decide +kernel, by decide +kernel⟩, List.mem_of_getElem? (i := 1021) (by decide +kernel), List.mem_of_getElem? (i := 1292) (by decide +kernel), List.mem_of_getElem? (i := 1293) (by decide +kernel)⟩
def lw_privs_4 : List (MethodName × Nat) := [(⟨"ShipUnstoppedModel", "either", "()I"⟩, 33), (⟨"ShipUnstoppedModel", "asks", "()I"⟩, 33), (⟨"ShipUnstoppedModel", "summed", "()I"⟩, 33), (⟨"ShipUnstoppedModel", "goesOn", "()Z"⟩, 33), (⟨"ShipUnstoppedModel", "hasParen", "()Z"⟩, 33), (⟨"ShipUnstoppedModel", "behindOne", "()I"⟩, 33), (⟨"ShipUnstoppedModel", "settle", "(I)V"⟩, 33), (⟨"ShipUnstoppedModel", "emit", "(II)V"⟩, 33), (⟨"ShipUnstoppedModel", "push", "(I)V"⟩, 33), (⟨"ShipUnstoppedModel", "whole", "()V"⟩, 33), (⟨"ShipUnstoppedModel", "beginOne", "()I"⟩, 33), (⟨"ShipUnstoppedModel", "nameOf", "()I"⟩, 33), (⟨"ShipUnstoppedModel", "isBarred", "(I)Z"⟩, 33), (⟨"ShipUnstoppedModel", "compareOf", "()I"⟩, 33), (⟨"ShipUnstoppedModel", "isState", "(I)Z"⟩, 33), (⟨"ShipUnstoppedModel", "madeOf", "(III)I"⟩, 33)]
theorem lw_r4 : ∀ q ∈ lw_privs_4, lw_okq q := List.forall_mem_cons.mpr ⟨lw_p48, List.forall_mem_cons.mpr ⟨lw_p49, List.forall_mem_cons.mpr ⟨lw_p50, List.forall_mem_cons.mpr ⟨lw_p51, List.forall_mem_cons.mpr ⟨lw_p52, List.forall_mem_cons.mpr ⟨lw_p53, List.forall_mem_cons.mpr ⟨lw_p54, List.forall_mem_cons.mpr ⟨lw_p55, List.forall_mem_cons.mpr ⟨lw_p56, List.forall_mem_cons.mpr ⟨lw_p57, List.forall_mem_cons.mpr ⟨lw_p58, List.forall_mem_cons.mpr ⟨lw_p59, List.forall_mem_cons.mpr ⟨lw_p60, List.forall_mem_cons.mpr ⟨lw_p61, List.forall_mem_cons.mpr ⟨lw_p62, List.forall_mem_cons.mpr ⟨lw_p63, fun _ h => absurd h List.not_mem_nil⟩⟩⟩⟩⟩⟩⟩⟩⟩⟩⟩⟩⟩⟩⟩⟩
theorem lw_p64 : lw_okq (⟨"ShipUnstoppedModel", "speedOf", "(IIII)I"⟩, 33) := ⟨⟨by decide +kernel, by decide +kernel⟩, List.mem_of_getElem? (i := 1021) (by decide +kernel), List.mem_of_getElem? (i := 1302) (by decide +kernel), List.mem_of_getElem? (i := 1303) (by decide +kernel)⟩
theorem lw_p65 : lw_okq (⟨"ShipUnstoppedModel", "clauseOf", "(I)I"⟩, 33) := ⟨⟨by decide +kernel, by decide +kernel⟩, List.mem_of_getElem? (i := 1021) (by decide +kernel), List.mem_of_getElem? (i := 1306) (by decide +kernel), List.mem_of_getElem? (i := 1307) (by decide +kernel)⟩
theorem lw_p66 : lw_okq (⟨"ShipUnstoppedModel", "work", "(I)V"⟩, 33) := ⟨⟨by decide +kernel, by decide +kernel⟩, List.mem_of_getElem? (i := 1021) (by decide +kernel), List.mem_of_getElem? (i := 1310) (by decide +kernel), List.mem_of_getElem? (i := 1311) (by decide +kernel)⟩
theorem lw_p67 : lw_okq (⟨"ShipUnstoppedModel", "draughtOf", "(I)I"⟩, 33) := ⟨⟨by decide +kernel, by decide +kernel⟩, List.mem_of_getElem? (i := 1021) (by decide +kernel), List.mem_of_getElem? (i := 1328) (by decide +kernel), List.mem_of_getElem? (i := 1329) (by decide +kernel)⟩
theorem lw_p68 : lw_okq (⟨"ShipUnstoppedModel", "isHigh", "(I)Z"⟩, 33) := ⟨⟨by decide +kernel, by decide +kernel⟩, List.mem_of_getElem? (i := 1021) (by decide +kernel), List.mem_of_getElem? (i := 1335) (by decide +kernel), List.mem_of_getElem? (i := 1336) (by decide +kernel)⟩
theorem lw_p69 : lw_okq (⟨"ShipUnstoppedModel", "stateNow", "()I"⟩, 33) := ⟨⟨by decide +kernel, by decide +kernel⟩, List.mem_of_getElem? (i := 1021) (by decide +kernel), List.mem_of_getElem? (i := 1346) (by decide +kernel), List.mem_of_getElem? (i := 1347) (by decide +kernel)⟩
theorem lw_p70 : lw_okq (⟨"ShipUnstoppedModel", "keep", "()V"⟩, 33) := ⟨⟨by decide +kernel, by decide +kernel⟩, List.mem_of_getElem? (i := 1021) (by decide +kernel), List.mem_of_getElem? (i := 1350) (by decide +kernel), List.mem_of_getElem? (i := 1351) (by decide +kernel)⟩
theorem lw_p71 : lw_okq (⟨"ShipUnstoppedModel", "begin", "(I)V"⟩, 33) := ⟨⟨by decide +kernel, by decide +kernel⟩, List.mem_of_getElem? (i := 1021) (by decide +kernel), List.mem_of_getElem? (i := 1378) (by decide +kernel), List.mem_of_getElem? (i := 1379) (by decide +kernel)⟩
theorem lw_p72 : lw_okq (⟨"ShipUnstoppedModel", "lay", "()V"⟩, 33) := ⟨⟨by decide +kernel, by decide +kernel⟩, List.mem_of_getElem? (i := 1021) (by decide +kernel), List.mem_of_getElem? (i := 1382) (by decide +kernel), List.mem_of_getElem? (i := 1383) (by decide +kernel)⟩
theorem lw_p73 : lw_okq (⟨"ShipUnstoppedModel", "goOn", "()V"⟩, 33) := ⟨⟨by decide +kernel, by decide +kernel⟩, List.mem_of_getElem? (i := 1021) (by decide +kernel), List.mem_of_getElem? (i := 1386) (by decide +kernel), List.mem_of_getElem? (i := 1387) (by decide +kernel)⟩
theorem lw_p74 : lw_okq (⟨"ShipUnstoppedModel", "spread", "(I)V"⟩, 33) := ⟨⟨by decide +kernel, by decide +kernel⟩, List.mem_of_getElem? (i := 1021) (by decide +kernel), List.mem_of_getElem? (i := 1390) (by decide +kernel), List.mem_of_getElem? (i := 1391) (by decide +kernel)⟩
theorem lw_p75 : lw_okq (⟨"ShipUnstoppedModel", "beginKept", "()V"⟩, 33) := ⟨⟨by decide +kernel, by decide +kernel⟩, List.mem_of_getElem? (i := 1021) (by decide +kernel), List.mem_of_getElem? (i := 1401) (by decide +kernel), List.mem_of_getElem? (i := 1402) (by decide +kernel)⟩
theorem lw_p76 : lw_okq (⟨"ShipUnstoppedModel", "isLess", "()Z"⟩, 33) := ⟨⟨by decide +kernel, by decide +kernel⟩, List.mem_of_getElem? (i := 1021) (by decide +kernel), List.mem_of_getElem? (i := 1405) (by decide +kernel), List.mem_of_getElem? (i := 1406) (by decide +kernel)⟩
theorem lw_p77 : lw_okq (⟨"ShipUnstoppedModel", "keeps", "(II)Z"⟩, 33) := ⟨⟨by decide +kernel, by decide +kernel⟩, List.mem_of_getElem? (i := 1021) (by decide +kernel), List.mem_of_getElem? (i := 1409) (by decide +kernel), List.mem_of_getElem? (i := 1410) (by decide +kernel)⟩
theorem lw_p78 : lw_okq (⟨"ShipUnstoppedModel", "laid", "(III)I"⟩, 33) := ⟨⟨by decide +kernel, by decide +kernel⟩, List.mem_of_getElem? (i := 1021) (by decide +kernel), List.mem_of_getElem? (i := 1413) (by decide +kernel), List.mem_of_getElem? (i := 1414) (by decide +kernel)⟩
theorem lw_p79 : lw_okq (⟨"ShipUnstoppedModel", "passes", "(IIIZ)Z"⟩, 33) := ⟨⟨by decide +kernel, by decide +kernel⟩, List.mem_of_getElem? (i := 1021) (by decide +kernel), List.mem_of_getElem? (i := 1430) (by decide +kernel), List.mem_of_getElem? (i := 1431) (by decide +kernel)⟩
def lw_privs_5 : List (MethodName × Nat) := [(⟨"ShipUnstoppedModel", "speedOf", "(IIII)I"⟩, 33), (⟨"ShipUnstoppedModel", "clauseOf", "(I)I"⟩, 33), (⟨"ShipUnstoppedModel", "work", "(I)V"⟩, 33), (⟨"ShipUnstoppedModel", "draughtOf", "(I)I"⟩, 33), (⟨"ShipUnstoppedModel", "isHigh", "(I)Z"⟩, 33), (⟨"ShipUnstoppedModel", "stateNow", "()I"⟩, 33), (⟨"ShipUnstoppedModel", "keep", "()V"⟩, 33), (⟨"ShipUnstoppedModel", "begin", "(I)V"⟩, 33), (⟨"ShipUnstoppedModel", "lay", "()V"⟩, 33), (⟨"ShipUnstoppedModel", "goOn", "()V"⟩, 33), (⟨"ShipUnstoppedModel", "spread", "(I)V"⟩, 33), (⟨"ShipUnstoppedModel", "beginKept", "()V"⟩, 33), (⟨"ShipUnstoppedModel", "isLess", "()Z"⟩, 33), (⟨"ShipUnstoppedModel", "keeps", "(II)Z"⟩, 33), (⟨"ShipUnstoppedModel", "laid", "(III)I"⟩, 33), (⟨"ShipUnstoppedModel", "passes", "(IIIZ)Z"⟩, 33)]
theorem lw_r5 : ∀ q ∈ lw_privs_5, lw_okq q := List.forall_mem_cons.mpr ⟨lw_p64, List.forall_mem_cons.mpr ⟨lw_p65, List.forall_mem_cons.mpr ⟨lw_p66, List.forall_mem_cons.mpr ⟨lw_p67, List.forall_mem_cons.mpr ⟨lw_p68, List.forall_mem_cons.mpr ⟨lw_p69, List.forall_mem_cons.mpr ⟨lw_p70, List.forall_mem_cons.mpr ⟨lw_p71, List.forall_mem_cons.mpr ⟨lw_p72, List.forall_mem_cons.mpr ⟨lw_p73, List.forall_mem_cons.mpr ⟨lw_p74, List.forall_mem_cons.mpr ⟨lw_p75, List.forall_mem_cons.mpr ⟨lw_p76, List.forall_mem_cons.mpr ⟨lw_p77, List.forall_mem_cons.mpr ⟨lw_p78, List.forall_mem_cons.mpr ⟨lw_p79, fun _ h => absurd h List.not_mem_nil⟩⟩⟩⟩⟩⟩⟩⟩⟩⟩⟩⟩⟩⟩⟩⟩
theorem lw_p80 : lw_okq (⟨"ShipUnstoppedModel", "isGood", "(IIII)Z"⟩, 33) := ⟨⟨by decide +kernel, by decide +kernel⟩, List.mem_of_getElem? (i := 1021) (by decide +kernel), List.mem_of_getElem? (i := 1434) (by decide +kernel), List.mem_of_getElem? (i := 1435) (by decide +kernel)⟩
theorem lw_p81 : lw_okq (⟨"ShipUnstoppedModel", "far", "(II)I"⟩, 33) := ⟨⟨by decide +kernel, by decide +kernel⟩, List.mem_of_getElem? (i := 1021) (by decide +kernel), List.mem_of_getElem? (i := 1438) (by decide +kernel), List.mem_of_getElem? (i := 1439) (by decide +kernel)⟩
theorem lw_p82 : lw_okq (⟨"ShipUnstoppedModel", "aboardAhead", "(I)I"⟩, 33) := ⟨⟨by decide +kernel, by decide +kernel⟩, List.mem_of_getElem? (i := 1021) (by decide +kernel), List.mem_of_getElem? (i := 1459) (by decide +kernel), List.mem_of_getElem? (i := 1460) (by decide +kernel)⟩
def lw_privs_6 : List (MethodName × Nat) := [(⟨"ShipUnstoppedModel", "isGood", "(IIII)Z"⟩, 33), (⟨"ShipUnstoppedModel", "far", "(II)I"⟩, 33), (⟨"ShipUnstoppedModel", "aboardAhead", "(I)I"⟩, 33)]
theorem lw_r6 : ∀ q ∈ lw_privs_6, lw_okq q := List.forall_mem_cons.mpr ⟨lw_p80, List.forall_mem_cons.mpr ⟨lw_p81, List.forall_mem_cons.mpr ⟨lw_p82, fun _ h => absurd h List.not_mem_nil⟩⟩⟩
def lw_privs : List (MethodName × Nat) := lw_privs_1 ++ (lw_privs_2 ++ (lw_privs_3 ++ (lw_privs_4 ++ (lw_privs_5 ++ (lw_privs_6)))))
def lw_tbl : List Cond := k2_sels lw_privs ++ tables_1
theorem lw_privs_ok : ∀ q ∈ lw_privs, lw_okq q := by
  show ∀ q ∈ lw_privs_1 ++ (lw_privs_2 ++ (lw_privs_3 ++ (lw_privs_4 ++ (lw_privs_5 ++ (lw_privs_6))))), lw_okq q
  exact List.forall_mem_append.mpr ⟨lw_r1, List.forall_mem_append.mpr ⟨lw_r2, List.forall_mem_append.mpr ⟨lw_r3, List.forall_mem_append.mpr ⟨lw_r4, List.forall_mem_append.mpr ⟨lw_r5, lw_r6⟩⟩⟩⟩⟩

def RX0 : String := "ShipUnstopped$Chart"
def TX0 : u_T := fun k => match k with
  | 0 => ("ShipUnstopped$Chart", "sea", "LShipUnstopped$Sea;", true)
  | 1 => ("ShipUnstopped$Chart", "laws", "LShipUnstopped$Laws;", true)
  | 2 => ("ShipUnstopped$Chart", "speeds", "[I", true)
  | 3 => ("ShipUnstopped$Chart", "enough", "[I", true)
  | 4 => ("ShipUnstopped$Chart", "afloat", "[I", true)
  | 5 => ("ShipUnstopped$Chart", "hours", "[I", true)
  | 6 => ("ShipUnstopped$Chart", "here", "[I", false)
  | 7 => ("ShipUnstopped$Chart", "there", "[I", false)
  | 8 => ("ShipUnstopped$Chart", "can", "[I", false)
  | 9 => ("ShipUnstopped$Chart", "could", "[I", false)
  | 10 => ("ShipUnstopped$Chart", "pacedHours", "I", false)
  | 11 => ("ShipUnstopped$Chart", "soundedHours", "I", false)
  | 12 => ("ShipUnstopped$Chart", "settled", "Z", false)
  | _ => ("ShipUnstopped$Chart", "ahead", "I", false)
def tyX0 : Nat → FieldType := fun k => match k with
  | 0 => .object "ShipUnstopped$Sea"
  | 1 => .object "ShipUnstopped$Laws"
  | 2 => .array .int
  | 3 => .array .int
  | 4 => .array .int
  | 5 => .array .int
  | 6 => .array .int
  | 7 => .array .int
  | 8 => .array .int
  | 9 => .array .int
  | 10 => .int
  | 11 => .int
  | 12 => .boolean
  | _ => .int
theorem nmX0 : ∀ a, a < 14 → ∀ b, b < 14 → a ≠ b → (TX0 a).2.1 ≠ (TX0 b).2.1 := by decide +kernel
theorem tyX0_ok : ∀ k, k < 14 → parseFieldDescriptor (TX0 k).2.2.1 = some (tyX0 k) := by decide +kernel
def RX1 : String := "ShipUnstopped$Crew"
def TX1 : u_T := fun k => match k with
  | 0 => ("ShipUnstopped$Crew", "people", "[I", true)
  | 1 => ("ShipUnstopped$Crew", "laps", "[I", true)
  | 2 => ("ShipUnstopped$Crew", "comes", "[I", true)
  | 3 => ("ShipUnstopped$Crew", "count", "I", false)
  | _ => ("ShipUnstopped$Crew", "present", "I", false)
def tyX1 : Nat → FieldType := fun k => match k with
  | 0 => .array .int
  | 1 => .array .int
  | 2 => .array .int
  | 3 => .int
  | _ => .int
theorem nmX1 : ∀ a, a < 5 → ∀ b, b < 5 → a ≠ b → (TX1 a).2.1 ≠ (TX1 b).2.1 := by decide +kernel
theorem tyX1_ok : ∀ k, k < 5 → parseFieldDescriptor (TX1 k).2.2.1 = some (tyX1 k) := by decide +kernel
def RX2 : String := "ShipUnstopped$Laws"
def TX2 : u_T := fun k => match k with
  | 0 => ("ShipUnstopped$Laws", "sea", "LShipUnstopped$Sea;", true)
  | 1 => ("ShipUnstopped$Laws", "text", "LShipUnstopped$Text;", false)
  | 2 => ("ShipUnstopped$Laws", "names", "[I", true)
  | _ => ("ShipUnstopped$Laws", "stack", "[I", true)
def tyX2 : Nat → FieldType := fun k => match k with
  | 0 => .object "ShipUnstopped$Sea"
  | 1 => .object "ShipUnstopped$Text"
  | 2 => .array .int
  | _ => .array .int
theorem nmX2 : ∀ a, a < 4 → ∀ b, b < 4 → a ≠ b → (TX2 a).2.1 ≠ (TX2 b).2.1 := by decide +kernel
theorem tyX2_ok : ∀ k, k < 4 → parseFieldDescriptor (TX2 k).2.2.1 = some (tyX2 k) := by decide +kernel
def RX3 : String := "ShipUnstopped$Reader"
def TX3 : u_T := fun k => match k with
  | 0 => ("ShipUnstopped$Reader", "tape", "LShipUnstopped$Tape;", true)
  | 1 => ("ShipUnstopped$Reader", "hasRead", "Z", false)
  | 2 => ("ShipUnstopped$Reader", "fault", "I", false)
  | 3 => ("ShipUnstopped$Reader", "faultAt", "I", false)
  | 4 => ("ShipUnstopped$Reader", "text", "LShipUnstopped$Text;", false)
  | 5 => ("ShipUnstopped$Reader", "token", "I", false)
  | 6 => ("ShipUnstopped$Reader", "kind", "I", false)
  | 7 => ("ShipUnstopped$Reader", "clause", "I", false)
  | 8 => ("ShipUnstopped$Reader", "names", "I", false)
  | _ => ("ShipUnstopped$Reader", "open", "I", false)
def tyX3 : Nat → FieldType := fun k => match k with
  | 0 => .object "ShipUnstopped$Tape"
  | 1 => .boolean
  | 2 => .int
  | 3 => .int
  | 4 => .object "ShipUnstopped$Text"
  | 5 => .int
  | 6 => .int
  | 7 => .int
  | 8 => .int
  | _ => .int
theorem nmX3 : ∀ a, a < 10 → ∀ b, b < 10 → a ≠ b → (TX3 a).2.1 ≠ (TX3 b).2.1 := by decide +kernel
theorem tyX3_ok : ∀ k, k < 10 → parseFieldDescriptor (TX3 k).2.2.1 = some (tyX3 k) := by decide +kernel
def RX4 : String := "ShipUnstopped$Row"
def TX4 : u_T := fun k => match k with
  | 0 => ("ShipUnstopped$Row", "items", "[I", true)
  | _ => ("ShipUnstopped$Row", "count", "I", false)
def tyX4 : Nat → FieldType := fun k => match k with
  | 0 => .array .int
  | _ => .int
theorem nmX4 : ∀ a, a < 2 → ∀ b, b < 2 → a ≠ b → (TX4 a).2.1 ≠ (TX4 b).2.1 := by decide +kernel
theorem tyX4_ok : ∀ k, k < 2 → parseFieldDescriptor (TX4 k).2.2.1 = some (tyX4 k) := by decide +kernel
def RX5 : String := "ShipUnstopped$Scene"
def TX5 : u_T := fun k => match k with
  | 0 => ("ShipUnstopped$Scene", "sea", "LShipUnstopped$Sea;", true)
  | 1 => ("ShipUnstopped$Scene", "vessel", "LShipUnstopped$Vessel;", true)
  | 2 => ("ShipUnstopped$Scene", "wake", "LShipUnstopped$Wake;", true)
  | 3 => ("ShipUnstopped$Scene", "course", "LShipUnstopped$Row;", true)
  | 4 => ("ShipUnstopped$Scene", "goods", "LShipUnstopped$Row;", true)
  | 5 => ("ShipUnstopped$Scene", "crew", "LShipUnstopped$Crew;", true)
  | 6 => ("ShipUnstopped$Scene", "texts", "I", false)
  | _ => ("ShipUnstopped$Scene", "ruling", "I", false)
def tyX5 : Nat → FieldType := fun k => match k with
  | 0 => .object "ShipUnstopped$Sea"
  | 1 => .object "ShipUnstopped$Vessel"
  | 2 => .object "ShipUnstopped$Wake"
  | 3 => .object "ShipUnstopped$Row"
  | 4 => .object "ShipUnstopped$Row"
  | 5 => .object "ShipUnstopped$Crew"
  | 6 => .int
  | _ => .int
theorem nmX5 : ∀ a, a < 8 → ∀ b, b < 8 → a ≠ b → (TX5 a).2.1 ≠ (TX5 b).2.1 := by decide +kernel
theorem tyX5_ok : ∀ k, k < 8 → parseFieldDescriptor (TX5 k).2.2.1 = some (tyX5 k) := by decide +kernel
def RX6 : String := "ShipUnstopped$Sea"
def TX6 : u_T := fun k => match k with
  | 0 => ("ShipUnstopped$Sea", "places", "I", true)
  | 1 => ("ShipUnstopped$Sea", "depths", "[I", true)
  | 2 => ("ShipUnstopped$Sea", "winds", "[I", true)
  | 3 => ("ShipUnstopped$Sea", "rocks", "I", false)
  | _ => ("ShipUnstopped$Sea", "weight", "I", false)
def tyX6 : Nat → FieldType := fun k => match k with
  | 0 => .int
  | 1 => .array .int
  | 2 => .array .int
  | 3 => .int
  | _ => .int
theorem nmX6 : ∀ a, a < 5 → ∀ b, b < 5 → a ≠ b → (TX6 a).2.1 ≠ (TX6 b).2.1 := by decide +kernel
theorem tyX6_ok : ∀ k, k < 5 → parseFieldDescriptor (TX6 k).2.2.1 = some (tyX6 k) := by decide +kernel
def RX7 : String := "ShipUnstopped$Tape"
def TX7 : u_T := fun k => match k with
  | 0 => ("ShipUnstopped$Tape", "bytes", "[B", true)
  | 1 => ("ShipUnstopped$Tape", "kinds", "[I", true)
  | 2 => ("ShipUnstopped$Tape", "starts", "[I", true)
  | 3 => ("ShipUnstopped$Tape", "length", "I", false)
  | _ => ("ShipUnstopped$Tape", "at", "I", false)
def tyX7 : Nat → FieldType := fun k => match k with
  | 0 => .array .byte
  | 1 => .array .int
  | 2 => .array .int
  | 3 => .int
  | _ => .int
theorem nmX7 : ∀ a, a < 5 → ∀ b, b < 5 → a ≠ b → (TX7 a).2.1 ≠ (TX7 b).2.1 := by decide +kernel
theorem tyX7_ok : ∀ k, k < 5 → parseFieldDescriptor (TX7 k).2.2.1 = some (tyX7 k) := by decide +kernel
def RX8 : String := "ShipUnstopped$Text"
def TX8 : u_T := fun k => match k with
  | 0 => ("ShipUnstopped$Text", "code", "[I", true)
  | 1 => ("ShipUnstopped$Text", "from", "[I", true)
  | 2 => ("ShipUnstopped$Text", "to", "[I", true)
  | 3 => ("ShipUnstopped$Text", "size", "I", false)
  | 4 => ("ShipUnstopped$Text", "clauses", "I", false)
  | _ => ("ShipUnstopped$Text", "speedNames", "I", false)
def tyX8 : Nat → FieldType := fun k => match k with
  | 0 => .array .int
  | 1 => .array .int
  | 2 => .array .int
  | 3 => .int
  | 4 => .int
  | _ => .int
theorem nmX8 : ∀ a, a < 6 → ∀ b, b < 6 → a ≠ b → (TX8 a).2.1 ≠ (TX8 b).2.1 := by decide +kernel
theorem tyX8_ok : ∀ k, k < 6 → parseFieldDescriptor (TX8 k).2.2.1 = some (tyX8 k) := by decide +kernel
def RX9 : String := "ShipUnstopped$Vessel"
def TX9 : u_T := fun k => match k with
  | 0 => ("ShipUnstopped$Vessel", "lane", "I", false)
  | 1 => ("ShipUnstopped$Vessel", "place", "I", false)
  | 2 => ("ShipUnstopped$Vessel", "hour", "I", false)
  | 3 => ("ShipUnstopped$Vessel", "last", "I", false)
  | 4 => ("ShipUnstopped$Vessel", "days", "I", false)
  | 5 => ("ShipUnstopped$Vessel", "laps", "I", false)
  | _ => ("ShipUnstopped$Vessel", "afloat", "Z", false)
def tyX9 : Nat → FieldType := fun k => match k with
  | 0 => .int
  | 1 => .int
  | 2 => .int
  | 3 => .int
  | 4 => .int
  | 5 => .int
  | _ => .boolean
theorem nmX9 : ∀ a, a < 7 → ∀ b, b < 7 → a ≠ b → (TX9 a).2.1 ≠ (TX9 b).2.1 := by decide +kernel
theorem tyX9_ok : ∀ k, k < 7 → parseFieldDescriptor (TX9 k).2.2.1 = some (tyX9 k) := by decide +kernel
def RX10 : String := "ShipUnstopped$Wake"
def TX10 : u_T := fun k => match k with
  | 0 => ("ShipUnstopped$Wake", "states", "[I", true)
  | 1 => ("ShipUnstopped$Wake", "days", "[I", true)
  | 2 => ("ShipUnstopped$Wake", "laps", "[I", true)
  | 3 => ("ShipUnstopped$Wake", "next", "I", false)
  | _ => ("ShipUnstopped$Wake", "count", "I", false)
def tyX10 : Nat → FieldType := fun k => match k with
  | 0 => .array .int
  | 1 => .array .int
  | 2 => .array .int
  | 3 => .int
  | _ => .int
theorem nmX10 : ∀ a, a < 5 → ∀ b, b < 5 → a ≠ b → (TX10 a).2.1 ≠ (TX10 b).2.1 := by decide +kernel
theorem tyX10_ok : ∀ k, k < 5 → parseFieldDescriptor (TX10 k).2.2.1 = some (tyX10 k) := by decide +kernel
def RX11 : String := "ShipUnstopped"
def TX11 : u_T := fun k => match k with
  | 0 => ("ShipUnstopped", "tape", "LShipUnstopped$Tape;", true)
  | 1 => ("ShipUnstopped", "reader", "LShipUnstopped$Reader;", true)
  | 2 => ("ShipUnstopped", "texts", "[LShipUnstopped$Text;", true)
  | 3 => ("ShipUnstopped", "noText", "LShipUnstopped$Text;", true)
  | 4 => ("ShipUnstopped", "now", "LShipUnstopped$Scene;", true)
  | 5 => ("ShipUnstopped", "image", "LShipUnstopped$Scene;", true)
  | 6 => ("ShipUnstopped", "laws", "LShipUnstopped$Laws;", true)
  | _ => ("ShipUnstopped", "chart", "LShipUnstopped$Chart;", true)
def tyX11 : Nat → FieldType := fun k => match k with
  | 0 => .object "ShipUnstopped$Tape"
  | 1 => .object "ShipUnstopped$Reader"
  | 2 => .array (.object "ShipUnstopped$Text")
  | 3 => .object "ShipUnstopped$Text"
  | 4 => .object "ShipUnstopped$Scene"
  | 5 => .object "ShipUnstopped$Scene"
  | 6 => .object "ShipUnstopped$Laws"
  | _ => .object "ShipUnstopped$Chart"
theorem nmX11 : ∀ a, a < 8 → ∀ b, b < 8 → a ≠ b → (TX11 a).2.1 ≠ (TX11 b).2.1 := by decide +kernel
theorem tyX11_ok : ∀ k, k < 8 → parseFieldDescriptor (TX11 k).2.2.1 = some (tyX11 k) := by decide +kernel
def RX12 : String := "ShipUnstoppedModel"
def TX12 : u_T := fun k => match k with
  | 0 => ("ShipUnstoppedModel", "a", "[I", true)
  | 1 => ("ShipUnstoppedModel", "image", "[I", true)
  | 2 => ("ShipUnstoppedModel", "places", "I", true)
  | 3 => ("ShipUnstoppedModel", "texts", "[I", true)
  | 4 => ("ShipUnstoppedModel", "tape", "[I", true)
  | 5 => ("ShipUnstoppedModel", "taped", "I", false)
  | 6 => ("ShipUnstoppedModel", "fault", "I", false)
  | 7 => ("ShipUnstoppedModel", "faultPlace", "I", false)
  | 8 => ("ShipUnstoppedModel", "at", "I", false)
  | 9 => ("ShipUnstoppedModel", "place", "I", false)
  | 10 => ("ShipUnstoppedModel", "token", "I", false)
  | 11 => ("ShipUnstoppedModel", "number", "I", false)
  | 12 => ("ShipUnstoppedModel", "word", "J", false)
  | 13 => ("ShipUnstoppedModel", "text0", "I", false)
  | 14 => ("ShipUnstoppedModel", "clauses", "I", false)
  | 15 => ("ShipUnstoppedModel", "written", "I", false)
  | 16 => ("ShipUnstoppedModel", "came", "I", false)
  | 17 => ("ShipUnstoppedModel", "pile", "[I", true)
  | 18 => ("ShipUnstoppedModel", "piled", "I", false)
  | 19 => ("ShipUnstoppedModel", "opens", "I", false)
  | 20 => ("ShipUnstoppedModel", "isWhole", "Z", false)
  | 21 => ("ShipUnstoppedModel", "sort0", "I", false)
  | 22 => ("ShipUnstoppedModel", "once", "I", false)
  | 23 => ("ShipUnstoppedModel", "named", "[I", true)
  | 24 => ("ShipUnstoppedModel", "values", "[J", true)
  | 25 => ("ShipUnstoppedModel", "truth", "[Z", true)
  | 26 => ("ShipUnstoppedModel", "table", "[I", true)
  | 27 => ("ShipUnstoppedModel", "isLaid", "Z", false)
  | 28 => ("ShipUnstoppedModel", "can", "[Z", true)
  | 29 => ("ShipUnstoppedModel", "then", "[Z", true)
  | 30 => ("ShipUnstoppedModel", "isKept", "[Z", true)
  | 31 => ("ShipUnstoppedModel", "passed", "[Z", true)
  | _ => ("ShipUnstoppedModel", "passedThen", "[Z", true)
def tyX12 : Nat → FieldType := fun k => match k with
  | 0 => .array .int
  | 1 => .array .int
  | 2 => .int
  | 3 => .array .int
  | 4 => .array .int
  | 5 => .int
  | 6 => .int
  | 7 => .int
  | 8 => .int
  | 9 => .int
  | 10 => .int
  | 11 => .int
  | 12 => .long
  | 13 => .int
  | 14 => .int
  | 15 => .int
  | 16 => .int
  | 17 => .array .int
  | 18 => .int
  | 19 => .int
  | 20 => .boolean
  | 21 => .int
  | 22 => .int
  | 23 => .array .int
  | 24 => .array .long
  | 25 => .array .boolean
  | 26 => .array .int
  | 27 => .boolean
  | 28 => .array .boolean
  | 29 => .array .boolean
  | 30 => .array .boolean
  | 31 => .array .boolean
  | _ => .array .boolean
theorem nmX12 : ∀ a, a < 33 → ∀ b, b < 33 → a ≠ b → (TX12 a).2.1 ≠ (TX12 b).2.1 := by decide +kernel
theorem tyX12_ok : ∀ k, k < 33 → parseFieldDescriptor (TX12 k).2.2.1 = some (tyX12 k) := by decide +kernel
