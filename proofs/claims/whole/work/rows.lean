section
-- ===== PART A: goes FIRST, ahead of the names: the tables' words, and 'selects' of the private methods out of them =====
/-- a private method of a class that the tables say can be made, by its rows of tables_1 -/
def lw_okq (q : MethodName × Nat) : Prop := (q.1.cls ≠ "java/lang/invoke/MethodHandle" ∧ q.1.cls ≠ "java/lang/invoke/VarHandle") ∧ Cond.instantiable q.1.cls q.2 ∈ tables_1 ∧ Cond.privateMethod q.1 ∈ tables_1 ∧ Cond.instanceMethod q.1 ∈ tables_1
theorem lw_p0 : lw_okq (⟨"HiredByLonging", "refusalOfRow", "(I)I"⟩, 7) := ⟨⟨by decide +kernel, by decide +kernel⟩, List.mem_of_getElem? (i := 24) (by decide +kernel), List.mem_of_getElem? (i := 210) (by decide +kernel), List.mem_of_getElem? (i := 211) (by decide +kernel)⟩
theorem lw_p1 : lw_okq (⟨"HiredByLonging", "refusalOf", "(II)I"⟩, 7) := ⟨⟨by decide +kernel, by decide +kernel⟩, List.mem_of_getElem? (i := 24) (by decide +kernel), List.mem_of_getElem? (i := 214) (by decide +kernel), List.mem_of_getElem? (i := 215) (by decide +kernel)⟩
theorem lw_p2 : lw_okq (⟨"HiredByLonging$Land", "followHorse", "(LHiredByLonging$Shelf;I)Z"⟩, 5) := ⟨⟨by decide +kernel, by decide +kernel⟩, List.mem_of_getElem? (i := 89) (by decide +kernel), List.mem_of_getElem? (i := 250) (by decide +kernel), List.mem_of_getElem? (i := 251) (by decide +kernel)⟩
theorem lw_p3 : lw_okq (⟨"HiredByLonging$Land", "followOats", "(I)Z"⟩, 5) := ⟨⟨by decide +kernel, by decide +kernel⟩, List.mem_of_getElem? (i := 89) (by decide +kernel), List.mem_of_getElem? (i := 269) (by decide +kernel), List.mem_of_getElem? (i := 270) (by decide +kernel)⟩
theorem lw_p4 : lw_okq (⟨"HiredByLonging$Land", "followDays", "(I)Z"⟩, 5) := ⟨⟨by decide +kernel, by decide +kernel⟩, List.mem_of_getElem? (i := 89) (by decide +kernel), List.mem_of_getElem? (i := 273) (by decide +kernel), List.mem_of_getElem? (i := 274) (by decide +kernel)⟩
theorem lw_p5 : lw_okq (⟨"HiredByLonging$Land", "followLonging", "(II)Z"⟩, 5) := ⟨⟨by decide +kernel, by decide +kernel⟩, List.mem_of_getElem? (i := 89) (by decide +kernel), List.mem_of_getElem? (i := 348) (by decide +kernel), List.mem_of_getElem? (i := 349) (by decide +kernel)⟩
theorem lw_p6 : lw_okq (⟨"HiredByLonging", "isHorse", "(I)Z"⟩, 7) := ⟨⟨by decide +kernel, by decide +kernel⟩, List.mem_of_getElem? (i := 24) (by decide +kernel), List.mem_of_getElem? (i := 412) (by decide +kernel), List.mem_of_getElem? (i := 413) (by decide +kernel)⟩
theorem lw_p7 : lw_okq (⟨"HiredByLonging", "refusalOfKind", "(I)I"⟩, 7) := ⟨⟨by decide +kernel, by decide +kernel⟩, List.mem_of_getElem? (i := 24) (by decide +kernel), List.mem_of_getElem? (i := 456) (by decide +kernel), List.mem_of_getElem? (i := 457) (by decide +kernel)⟩
theorem lw_p8 : lw_okq (⟨"HiredByLonging", "daysOfRide", "(LHiredByLonging$Steed;I)I"⟩, 7) := ⟨⟨by decide +kernel, by decide +kernel⟩, List.mem_of_getElem? (i := 24) (by decide +kernel), List.mem_of_getElem? (i := 465) (by decide +kernel), List.mem_of_getElem? (i := 466) (by decide +kernel)⟩
theorem lw_p9 : lw_okq (⟨"HiredByLonging", "daysOfLaterRide", "(LHiredByLonging$Steed;II)I"⟩, 7) := ⟨⟨by decide +kernel, by decide +kernel⟩, List.mem_of_getElem? (i := 24) (by decide +kernel), List.mem_of_getElem? (i := 554) (by decide +kernel), List.mem_of_getElem? (i := 555) (by decide +kernel)⟩
theorem lw_p10 : lw_okq (⟨"HiredByLonging", "feesOf", "(LHiredByLonging$Steed;I)I"⟩, 7) := ⟨⟨by decide +kernel, by decide +kernel⟩, List.mem_of_getElem? (i := 24) (by decide +kernel), List.mem_of_getElem? (i := 583) (by decide +kernel), List.mem_of_getElem? (i := 584) (by decide +kernel)⟩
theorem lw_p11 : lw_okq (⟨"HiredByLonging", "isTold", "(LHiredByLonging$Steed;LHiredByLonging$Shelf;I)Z"⟩, 7) := ⟨⟨by decide +kernel, by decide +kernel⟩, List.mem_of_getElem? (i := 24) (by decide +kernel), List.mem_of_getElem? (i := 622) (by decide +kernel), List.mem_of_getElem? (i := 623) (by decide +kernel)⟩
theorem lw_p12 : lw_okq (⟨"HiredByLonging$Shelf", "leastOfSort", "()I"⟩, 6) := ⟨⟨by decide +kernel, by decide +kernel⟩, List.mem_of_getElem? (i := 152) (by decide +kernel), List.mem_of_getElem? (i := 630) (by decide +kernel), List.mem_of_getElem? (i := 631) (by decide +kernel)⟩
theorem lw_p13 : lw_okq (⟨"HiredByLonging", "kindsTold", "(LHiredByLonging$Shelf;II)I"⟩, 7) := ⟨⟨by decide +kernel, by decide +kernel⟩, List.mem_of_getElem? (i := 24) (by decide +kernel), List.mem_of_getElem? (i := 647) (by decide +kernel), List.mem_of_getElem? (i := 648) (by decide +kernel)⟩
theorem lw_p14 : lw_okq (⟨"HiredByLonging", "figuresTold", "(LHiredByLonging$Shelf;II)I"⟩, 7) := ⟨⟨by decide +kernel, by decide +kernel⟩, List.mem_of_getElem? (i := 24) (by decide +kernel), List.mem_of_getElem? (i := 651) (by decide +kernel), List.mem_of_getElem? (i := 652) (by decide +kernel)⟩
theorem lw_p15 : lw_okq (⟨"HiredByLonging", "isBest", "(IIIII)Z"⟩, 7) := ⟨⟨by decide +kernel, by decide +kernel⟩, List.mem_of_getElem? (i := 24) (by decide +kernel), List.mem_of_getElem? (i := 659) (by decide +kernel), List.mem_of_getElem? (i := 660) (by decide +kernel)⟩
def lw_privs_1 : List (MethodName × Nat) := [(⟨"HiredByLonging", "refusalOfRow", "(I)I"⟩, 7), (⟨"HiredByLonging", "refusalOf", "(II)I"⟩, 7), (⟨"HiredByLonging$Land", "followHorse", "(LHiredByLonging$Shelf;I)Z"⟩, 5), (⟨"HiredByLonging$Land", "followOats", "(I)Z"⟩, 5), (⟨"HiredByLonging$Land", "followDays", "(I)Z"⟩, 5), (⟨"HiredByLonging$Land", "followLonging", "(II)Z"⟩, 5), (⟨"HiredByLonging", "isHorse", "(I)Z"⟩, 7), (⟨"HiredByLonging", "refusalOfKind", "(I)I"⟩, 7), (⟨"HiredByLonging", "daysOfRide", "(LHiredByLonging$Steed;I)I"⟩, 7), (⟨"HiredByLonging", "daysOfLaterRide", "(LHiredByLonging$Steed;II)I"⟩, 7), (⟨"HiredByLonging", "feesOf", "(LHiredByLonging$Steed;I)I"⟩, 7), (⟨"HiredByLonging", "isTold", "(LHiredByLonging$Steed;LHiredByLonging$Shelf;I)Z"⟩, 7), (⟨"HiredByLonging$Shelf", "leastOfSort", "()I"⟩, 6), (⟨"HiredByLonging", "kindsTold", "(LHiredByLonging$Shelf;II)I"⟩, 7), (⟨"HiredByLonging", "figuresTold", "(LHiredByLonging$Shelf;II)I"⟩, 7), (⟨"HiredByLonging", "isBest", "(IIIII)Z"⟩, 7)]
theorem lw_r1 : ∀ q ∈ lw_privs_1, lw_okq q := List.forall_mem_cons.mpr ⟨lw_p0, List.forall_mem_cons.mpr ⟨lw_p1, List.forall_mem_cons.mpr ⟨lw_p2, List.forall_mem_cons.mpr ⟨lw_p3, List.forall_mem_cons.mpr ⟨lw_p4, List.forall_mem_cons.mpr ⟨lw_p5, List.forall_mem_cons.mpr ⟨lw_p6, List.forall_mem_cons.mpr ⟨lw_p7, List.forall_mem_cons.mpr ⟨lw_p8, List.forall_mem_cons.mpr ⟨lw_p9, List.forall_mem_cons.mpr ⟨lw_p10, List.forall_mem_cons.mpr ⟨lw_p11, List.forall_mem_cons.mpr ⟨lw_p12, List.forall_mem_cons.mpr ⟨lw_p13, List.forall_mem_cons.mpr ⟨lw_p14, List.forall_mem_cons.mpr ⟨lw_p15, fun _ h => absurd h List.not_mem_nil⟩⟩⟩⟩⟩⟩⟩⟩⟩⟩⟩⟩⟩⟩⟩⟩
theorem lw_p16 : lw_okq (⟨"java/lang/Throwable", "fillInStackTrace", "(I)Ljava/lang/Throwable;"⟩, 6) := ⟨⟨by decide +kernel, by decide +kernel⟩, List.mem_of_getElem? (i := 809) (by decide +kernel), List.mem_of_getElem? (i := 807) (by decide +kernel), List.mem_of_getElem? (i := 808) (by decide +kernel)⟩
theorem lw_p17 : lw_okq (⟨"HiredByLongingModel", "wrongRow", "(I)I"⟩, 35) := ⟨⟨by decide +kernel, by decide +kernel⟩, List.mem_of_getElem? (i := 888) (by decide +kernel), List.mem_of_getElem? (i := 1009) (by decide +kernel), List.mem_of_getElem? (i := 1010) (by decide +kernel)⟩
theorem lw_p18 : lw_okq (⟨"HiredByLongingModel", "readStatement", "()V"⟩, 35) := ⟨⟨by decide +kernel, by decide +kernel⟩, List.mem_of_getElem? (i := 888) (by decide +kernel), List.mem_of_getElem? (i := 1017) (by decide +kernel), List.mem_of_getElem? (i := 1018) (by decide +kernel)⟩
theorem lw_p19 : lw_okq (⟨"HiredByLongingModel", "here", "()I"⟩, 35) := ⟨⟨by decide +kernel, by decide +kernel⟩, List.mem_of_getElem? (i := 888) (by decide +kernel), List.mem_of_getElem? (i := 1021) (by decide +kernel), List.mem_of_getElem? (i := 1022) (by decide +kernel)⟩
theorem lw_p20 : lw_okq (⟨"HiredByLongingModel", "readNumbers", "(II)V"⟩, 35) := ⟨⟨by decide +kernel, by decide +kernel⟩, List.mem_of_getElem? (i := 888) (by decide +kernel), List.mem_of_getElem? (i := 1028) (by decide +kernel), List.mem_of_getElem? (i := 1029) (by decide +kernel)⟩
theorem lw_p21 : lw_okq (⟨"HiredByLongingModel", "readDigits", "(I)I"⟩, 35) := ⟨⟨by decide +kernel, by decide +kernel⟩, List.mem_of_getElem? (i := 888) (by decide +kernel), List.mem_of_getElem? (i := 1032) (by decide +kernel), List.mem_of_getElem? (i := 1033) (by decide +kernel)⟩
theorem lw_p22 : lw_okq (⟨"HiredByLongingModel", "open", "()V"⟩, 35) := ⟨⟨by decide +kernel, by decide +kernel⟩, List.mem_of_getElem? (i := 888) (by decide +kernel), List.mem_of_getElem? (i := 1038) (by decide +kernel), List.mem_of_getElem? (i := 1039) (by decide +kernel)⟩
theorem lw_p23 : lw_okq (⟨"HiredByLongingModel", "carryAll", "([IZ)V"⟩, 35) := ⟨⟨by decide +kernel, by decide +kernel⟩, List.mem_of_getElem? (i := 888) (by decide +kernel), List.mem_of_getElem? (i := 1042) (by decide +kernel), List.mem_of_getElem? (i := 1043) (by decide +kernel)⟩
theorem lw_p24 : lw_okq (⟨"HiredByLongingModel", "carry", "(I)I"⟩, 35) := ⟨⟨by decide +kernel, by decide +kernel⟩, List.mem_of_getElem? (i := 888) (by decide +kernel), List.mem_of_getElem? (i := 1046) (by decide +kernel), List.mem_of_getElem? (i := 1047) (by decide +kernel)⟩
theorem lw_p25 : lw_okq (⟨"HiredByLongingModel", "comesTold", "(I)Z"⟩, 35) := ⟨⟨by decide +kernel, by decide +kernel⟩, List.mem_of_getElem? (i := 888) (by decide +kernel), List.mem_of_getElem? (i := 1050) (by decide +kernel), List.mem_of_getElem? (i := 1051) (by decide +kernel)⟩
theorem lw_p26 : lw_okq (⟨"HiredByLongingModel", "horseComes", "(IIII)Z"⟩, 35) := ⟨⟨by decide +kernel, by decide +kernel⟩, List.mem_of_getElem? (i := 888) (by decide +kernel), List.mem_of_getElem? (i := 1054) (by decide +kernel), List.mem_of_getElem? (i := 1055) (by decide +kernel)⟩
theorem lw_p27 : lw_okq (⟨"HiredByLongingModel", "isHorse", "(I)Z"⟩, 35) := ⟨⟨by decide +kernel, by decide +kernel⟩, List.mem_of_getElem? (i := 888) (by decide +kernel), List.mem_of_getElem? (i := 1062) (by decide +kernel), List.mem_of_getElem? (i := 1063) (by decide +kernel)⟩
theorem lw_p28 : lw_okq (⟨"HiredByLongingModel", "ride", "(II)I"⟩, 35) := ⟨⟨by decide +kernel, by decide +kernel⟩, List.mem_of_getElem? (i := 888) (by decide +kernel), List.mem_of_getElem? (i := 1066) (by decide +kernel), List.mem_of_getElem? (i := 1067) (by decide +kernel)⟩
theorem lw_p29 : lw_okq (⟨"HiredByLongingModel", "rideOn", "(II)V"⟩, 35) := ⟨⟨by decide +kernel, by decide +kernel⟩, List.mem_of_getElem? (i := 888) (by decide +kernel), List.mem_of_getElem? (i := 1070) (by decide +kernel), List.mem_of_getElem? (i := 1071) (by decide +kernel)⟩
theorem lw_p30 : lw_okq (⟨"HiredByLongingModel", "goalOf", "(I)I"⟩, 35) := ⟨⟨by decide +kernel, by decide +kernel⟩, List.mem_of_getElem? (i := 888) (by decide +kernel), List.mem_of_getElem? (i := 1074) (by decide +kernel), List.mem_of_getElem? (i := 1075) (by decide +kernel)⟩
theorem lw_p31 : lw_okq (⟨"HiredByLongingModel", "paceOf", "(I)I"⟩, 35) := ⟨⟨by decide +kernel, by decide +kernel⟩, List.mem_of_getElem? (i := 888) (by decide +kernel), List.mem_of_getElem? (i := 1081) (by decide +kernel), List.mem_of_getElem? (i := 1082) (by decide +kernel)⟩
def lw_privs_2 : List (MethodName × Nat) := [(⟨"java/lang/Throwable", "fillInStackTrace", "(I)Ljava/lang/Throwable;"⟩, 6), (⟨"HiredByLongingModel", "wrongRow", "(I)I"⟩, 35), (⟨"HiredByLongingModel", "readStatement", "()V"⟩, 35), (⟨"HiredByLongingModel", "here", "()I"⟩, 35), (⟨"HiredByLongingModel", "readNumbers", "(II)V"⟩, 35), (⟨"HiredByLongingModel", "readDigits", "(I)I"⟩, 35), (⟨"HiredByLongingModel", "open", "()V"⟩, 35), (⟨"HiredByLongingModel", "carryAll", "([IZ)V"⟩, 35), (⟨"HiredByLongingModel", "carry", "(I)I"⟩, 35), (⟨"HiredByLongingModel", "comesTold", "(I)Z"⟩, 35), (⟨"HiredByLongingModel", "horseComes", "(IIII)Z"⟩, 35), (⟨"HiredByLongingModel", "isHorse", "(I)Z"⟩, 35), (⟨"HiredByLongingModel", "ride", "(II)I"⟩, 35), (⟨"HiredByLongingModel", "rideOn", "(II)V"⟩, 35), (⟨"HiredByLongingModel", "goalOf", "(I)I"⟩, 35), (⟨"HiredByLongingModel", "paceOf", "(I)I"⟩, 35)]
theorem lw_r2 : ∀ q ∈ lw_privs_2, lw_okq q := List.forall_mem_cons.mpr ⟨lw_p16, List.forall_mem_cons.mpr ⟨lw_p17, List.forall_mem_cons.mpr ⟨lw_p18, List.forall_mem_cons.mpr ⟨lw_p19, List.forall_mem_cons.mpr ⟨lw_p20, List.forall_mem_cons.mpr ⟨lw_p21, List.forall_mem_cons.mpr ⟨lw_p22, List.forall_mem_cons.mpr ⟨lw_p23, List.forall_mem_cons.mpr ⟨lw_p24, List.forall_mem_cons.mpr ⟨lw_p25, List.forall_mem_cons.mpr ⟨lw_p26, List.forall_mem_cons.mpr ⟨lw_p27, List.forall_mem_cons.mpr ⟨lw_p28, List.forall_mem_cons.mpr ⟨lw_p29, List.forall_mem_cons.mpr ⟨lw_p30, List.forall_mem_cons.mpr ⟨lw_p31, fun _ h => absurd h List.not_mem_nil⟩⟩⟩⟩⟩⟩⟩⟩⟩⟩⟩⟩⟩⟩⟩⟩
theorem lw_p32 : lw_okq (⟨"HiredByLongingModel", "walkOf", "(I)I"⟩, 35) := ⟨⟨by decide +kernel, by decide +kernel⟩, List.mem_of_getElem? (i := 888) (by decide +kernel), List.mem_of_getElem? (i := 1088) (by decide +kernel), List.mem_of_getElem? (i := 1089) (by decide +kernel)⟩
theorem lw_p33 : lw_okq (⟨"HiredByLongingModel", "dayBy", "(Z)V"⟩, 35) := ⟨⟨by decide +kernel, by decide +kernel⟩, List.mem_of_getElem? (i := 888) (by decide +kernel), List.mem_of_getElem? (i := 1092) (by decide +kernel), List.mem_of_getElem? (i := 1093) (by decide +kernel)⟩
theorem lw_p34 : lw_okq (⟨"HiredByLongingModel", "pinesOf", "(I)I"⟩, 35) := ⟨⟨by decide +kernel, by decide +kernel⟩, List.mem_of_getElem? (i := 888) (by decide +kernel), List.mem_of_getElem? (i := 1096) (by decide +kernel), List.mem_of_getElem? (i := 1097) (by decide +kernel)⟩
theorem lw_p35 : lw_okq (⟨"HiredByLongingModel", "daysCome", "(I)Z"⟩, 35) := ⟨⟨by decide +kernel, by decide +kernel⟩, List.mem_of_getElem? (i := 888) (by decide +kernel), List.mem_of_getElem? (i := 1100) (by decide +kernel), List.mem_of_getElem? (i := 1101) (by decide +kernel)⟩
theorem lw_p36 : lw_okq (⟨"HiredByLongingModel", "goDays", "(I)V"⟩, 35) := ⟨⟨by decide +kernel, by decide +kernel⟩, List.mem_of_getElem? (i := 888) (by decide +kernel), List.mem_of_getElem? (i := 1105) (by decide +kernel), List.mem_of_getElem? (i := 1106) (by decide +kernel)⟩
theorem lw_p37 : lw_okq (⟨"HiredByLongingModel", "close", "()V"⟩, 35) := ⟨⟨by decide +kernel, by decide +kernel⟩, List.mem_of_getElem? (i := 888) (by decide +kernel), List.mem_of_getElem? (i := 1109) (by decide +kernel), List.mem_of_getElem? (i := 1110) (by decide +kernel)⟩
theorem lw_p38 : lw_okq (⟨"HiredByLongingModel", "wrongKept", "(I)I"⟩, 35) := ⟨⟨by decide +kernel, by decide +kernel⟩, List.mem_of_getElem? (i := 888) (by decide +kernel), List.mem_of_getElem? (i := 1129) (by decide +kernel), List.mem_of_getElem? (i := 1130) (by decide +kernel)⟩
theorem lw_p39 : lw_okq (⟨"HiredByLongingModel", "allLonging", "()I"⟩, 35) := ⟨⟨by decide +kernel, by decide +kernel⟩, List.mem_of_getElem? (i := 888) (by decide +kernel), List.mem_of_getElem? (i := 1154) (by decide +kernel), List.mem_of_getElem? (i := 1155) (by decide +kernel)⟩
theorem lw_p40 : lw_okq (⟨"HiredByLongingModel", "ownRide", "(II)I"⟩, 35) := ⟨⟨by decide +kernel, by decide +kernel⟩, List.mem_of_getElem? (i := 888) (by decide +kernel), List.mem_of_getElem? (i := 1162) (by decide +kernel), List.mem_of_getElem? (i := 1163) (by decide +kernel)⟩
theorem lw_p41 : lw_okq (⟨"HiredByLongingModel", "takeChain", "(II)V"⟩, 35) := ⟨⟨by decide +kernel, by decide +kernel⟩, List.mem_of_getElem? (i := 888) (by decide +kernel), List.mem_of_getElem? (i := 1174) (by decide +kernel), List.mem_of_getElem? (i := 1175) (by decide +kernel)⟩
theorem lw_p42 : lw_okq (⟨"HiredByLongingModel", "secondRides", "(IIII)V"⟩, 35) := ⟨⟨by decide +kernel, by decide +kernel⟩, List.mem_of_getElem? (i := 888) (by decide +kernel), List.mem_of_getElem? (i := 1178) (by decide +kernel), List.mem_of_getElem? (i := 1179) (by decide +kernel)⟩
theorem lw_p43 : lw_okq (⟨"HiredByLongingModel", "thirdRides", "(IIIII)V"⟩, 35) := ⟨⟨by decide +kernel, by decide +kernel⟩, List.mem_of_getElem? (i := 888) (by decide +kernel), List.mem_of_getElem? (i := 1182) (by decide +kernel), List.mem_of_getElem? (i := 1183) (by decide +kernel)⟩
theorem lw_p44 : lw_okq (⟨"HiredByLongingModel", "feesOf", "(II)I"⟩, 35) := ⟨⟨by decide +kernel, by decide +kernel⟩, List.mem_of_getElem? (i := 888) (by decide +kernel), List.mem_of_getElem? (i := 1236) (by decide +kernel), List.mem_of_getElem? (i := 1237) (by decide +kernel)⟩
theorem lw_p45 : lw_okq (⟨"HiredByLongingModel", "isRow", "(III)Z"⟩, 35) := ⟨⟨by decide +kernel, by decide +kernel⟩, List.mem_of_getElem? (i := 888) (by decide +kernel), List.mem_of_getElem? (i := 1247) (by decide +kernel), List.mem_of_getElem? (i := 1248) (by decide +kernel)⟩
theorem lw_p46 : lw_okq (⟨"HiredByLongingModel", "skipped", "(I)J"⟩, 35) := ⟨⟨by decide +kernel, by decide +kernel⟩, List.mem_of_getElem? (i := 888) (by decide +kernel), List.mem_of_getElem? (i := 1251) (by decide +kernel), List.mem_of_getElem? (i := 1252) (by decide +kernel)⟩
theorem lw_p47 : lw_okq (⟨"HiredByLongingModel", "waitedRide", "(III)I"⟩, 35) := ⟨⟨by decide +kernel, by decide +kernel⟩, List.mem_of_getElem? (i := 888) (by decide +kernel), List.mem_of_getElem? (i := 1266) (by decide +kernel), List.mem_of_getElem? (i := 1267) (by decide +kernel)⟩
def lw_privs_3 : List (MethodName × Nat) := [(⟨"HiredByLongingModel", "walkOf", "(I)I"⟩, 35), (⟨"HiredByLongingModel", "dayBy", "(Z)V"⟩, 35), (⟨"HiredByLongingModel", "pinesOf", "(I)I"⟩, 35), (⟨"HiredByLongingModel", "daysCome", "(I)Z"⟩, 35), (⟨"HiredByLongingModel", "goDays", "(I)V"⟩, 35), (⟨"HiredByLongingModel", "close", "()V"⟩, 35), (⟨"HiredByLongingModel", "wrongKept", "(I)I"⟩, 35), (⟨"HiredByLongingModel", "allLonging", "()I"⟩, 35), (⟨"HiredByLongingModel", "ownRide", "(II)I"⟩, 35), (⟨"HiredByLongingModel", "takeChain", "(II)V"⟩, 35), (⟨"HiredByLongingModel", "secondRides", "(IIII)V"⟩, 35), (⟨"HiredByLongingModel", "thirdRides", "(IIIII)V"⟩, 35), (⟨"HiredByLongingModel", "feesOf", "(II)I"⟩, 35), (⟨"HiredByLongingModel", "isRow", "(III)Z"⟩, 35), (⟨"HiredByLongingModel", "skipped", "(I)J"⟩, 35), (⟨"HiredByLongingModel", "waitedRide", "(III)I"⟩, 35)]
theorem lw_r3 : ∀ q ∈ lw_privs_3, lw_okq q := List.forall_mem_cons.mpr ⟨lw_p32, List.forall_mem_cons.mpr ⟨lw_p33, List.forall_mem_cons.mpr ⟨lw_p34, List.forall_mem_cons.mpr ⟨lw_p35, List.forall_mem_cons.mpr ⟨lw_p36, List.forall_mem_cons.mpr ⟨lw_p37, List.forall_mem_cons.mpr ⟨lw_p38, List.forall_mem_cons.mpr ⟨lw_p39, List.forall_mem_cons.mpr ⟨lw_p40, List.forall_mem_cons.mpr ⟨lw_p41, List.forall_mem_cons.mpr ⟨lw_p42, List.forall_mem_cons.mpr ⟨lw_p43, List.forall_mem_cons.mpr ⟨lw_p44, List.forall_mem_cons.mpr ⟨lw_p45, List.forall_mem_cons.mpr ⟨lw_p46, List.forall_mem_cons.mpr ⟨lw_p47, fun _ h => absurd h List.not_mem_nil⟩⟩⟩⟩⟩⟩⟩⟩⟩⟩⟩⟩⟩⟩⟩⟩
theorem lw_p48 : lw_okq (⟨"HiredByLongingModel", "hasBy", "(III)I"⟩, 35) := ⟨⟨by decide +kernel, by decide +kernel⟩, List.mem_of_getElem? (i := 888) (by decide +kernel), List.mem_of_getElem? (i := 1270) (by decide +kernel), List.mem_of_getElem? (i := 1271) (by decide +kernel)⟩
theorem lw_p49 : lw_okq (⟨"HiredByLongingModel", "drawBelow", "(I)I"⟩, 35) := ⟨⟨by decide +kernel, by decide +kernel⟩, List.mem_of_getElem? (i := 888) (by decide +kernel), List.mem_of_getElem? (i := 1305) (by decide +kernel), List.mem_of_getElem? (i := 1306) (by decide +kernel)⟩
theorem lw_p50 : lw_okq (⟨"HiredByLongingModel", "atGoals", "()I"⟩, 35) := ⟨⟨by decide +kernel, by decide +kernel⟩, List.mem_of_getElem? (i := 888) (by decide +kernel), List.mem_of_getElem? (i := 1312) (by decide +kernel), List.mem_of_getElem? (i := 1313) (by decide +kernel)⟩
def lw_privs_4 : List (MethodName × Nat) := [(⟨"HiredByLongingModel", "hasBy", "(III)I"⟩, 35), (⟨"HiredByLongingModel", "drawBelow", "(I)I"⟩, 35), (⟨"HiredByLongingModel", "atGoals", "()I"⟩, 35)]
theorem lw_r4 : ∀ q ∈ lw_privs_4, lw_okq q := List.forall_mem_cons.mpr ⟨lw_p48, List.forall_mem_cons.mpr ⟨lw_p49, List.forall_mem_cons.mpr ⟨lw_p50, fun _ h => absurd h List.not_mem_nil⟩⟩⟩
def lw_privs : List (MethodName × Nat) := lw_privs_1 ++ (lw_privs_2 ++ (lw_privs_3 ++ (lw_privs_4)))
def lw_tbl : List Cond := k2_sels lw_privs ++ tables_1
theorem lw_privs_ok : ∀ q ∈ lw_privs, lw_okq q := by
  show ∀ q ∈ lw_privs_1 ++ (lw_privs_2 ++ (lw_privs_3 ++ (lw_privs_4))), lw_okq q
  exact List.forall_mem_append.mpr ⟨lw_r1, List.forall_mem_append.mpr ⟨lw_r2, List.forall_mem_append.mpr ⟨lw_r3, lw_r4⟩⟩⟩
-- ===== end of PART A; then your names; then what follows =====
end
section
/-! THE WORLD: one list of cells for both objects; what they hold told by numbers. -/
def n_Ho : String := "HiredByLonging$Horse"
def n_Co : String := "HiredByLonging$Content"
def n_Bl : String := "HiredByLonging$Blind"
def n_Tw : String := "HiredByLonging$Two"
def n_Dr : String := "HiredByLonging$Drowned"
def n_Fo : String := "HiredByLonging$Foal"
def n_Ma : String := "HiredByLonging$Mare"
def n_Ge : String := "HiredByLonging$Gelding"
def n_St : String := "HiredByLonging$Steed"
def n_La : String := "HiredByLonging$Land"
def n_Sh : String := "HiredByLonging$Shelf"
def n_Hb : String := "HiredByLonging"
def n_Mo : String := "HiredByLongingModel"
def n_Lw : String := "HiredByLongingLaw"
def n_In : String := "java/lang/Intege\x72"
def T_0 : u_T := fun _ => ("", "", "", false)
def T_St : u_T := fun k => match k with
  | 0 => (n_St, "kind", "LHiredByLonging$Horse;", false)
  | 1 => (n_St, "figure", "I", false)
  | 2 => (n_St, "home", "I", false)
  | 3 => (n_St, "at", "I", false)
  | _ => (n_St, "longing", "I", false)
def T_La : u_T := fun k => match k with
  | 0 => (n_La, "kinds", "[LHiredByLonging$Horse;", true)
  | 1 => (n_La, "steeds", "[LHiredByLonging$Steed;", true)
  | 2 => (n_La, "horses", "I", false)
  | 3 => (n_La, "oats", "I", false)
  | _ => (n_La, "day", "I", false)
def T_Sh : u_T := fun k => match k with
  | 0 => (n_Sh, "holds", "I", false)
  | 1 => (n_Sh, "kind", "LHiredByLonging$Horse;", false)
  | 2 => (n_Sh, "figure", "I", false)
  | 3 => (n_Sh, "sort", "I", false)
  | 4 => (n_Sh, "size", "I", false)
  | _ => (n_Sh, "elements", "[I", true)
def T_Hb : u_T := fun k => match k with
  | 0 => (n_Hb, "kinds", "[LHiredByLonging$Horse;", true)
  | 1 => (n_Hb, "now", "LHiredByLonging$Land;", true)
  | 2 => (n_Hb, "image", "LHiredByLonging$Land;", true)
  | 3 => (n_Hb, "minds", "[LHiredByLonging$Land;", true)
  | 4 => (n_Hb, "one", "LHiredByLonging$Steed;", true)
  | 5 => (n_Hb, "shelves", "[LHiredByLonging$Shelf;", true)
  | _ => (n_Hb, "imageTaken", "Z", false)
def T_Mo : u_T := fun k => match k with
  | 0 => (n_Mo, "horses", "I", false)
  | 1 => (n_Mo, "kinds", "[I", true)
  | 2 => (n_Mo, "figures", "[I", true)
  | 3 => (n_Mo, "homes0", "[I", true)
  | 4 => (n_Mo, "at0", "[I", true)
  | 5 => (n_Mo, "longing", "[I", true)
  | 6 => (n_Mo, "oats", "I", false)
  | 7 => (n_Mo, "today", "I", false)
  | 8 => (n_Mo, "holdsWhat", "[I", true)
  | 9 => (n_Mo, "keptKind", "[I", true)
  | 10 => (n_Mo, "keptFigure", "[I", true)
  | 11 => (n_Mo, "rowSort", "[I", true)
  | 12 => (n_Mo, "rowMany", "[I", true)
  | 13 => (n_Mo, "rows", "[J", true)
  | 14 => (n_Mo, "thrown", "I", false)
  | 15 => (n_Mo, "reading", "I", false)
  | 16 => (n_Mo, "place", "I", false)
  | 17 => (n_Mo, "isBad", "Z", false)
  | 18 => (n_Mo, "statements", "I", false)
  | 19 => (n_Mo, "placeIn", "[I", true)
  | 20 => (n_Mo, "letterOf", "[I", true)
  | 21 => (n_Mo, "told", "[I", true)
  | 22 => (n_Mo, "kept", "[I", true)
  | 23 => (n_Mo, "kept1", "[I", true)
  | 24 => (n_Mo, "kept2", "[I", true)
  | 25 => (n_Mo, "imaged", "[I", true)
  | 26 => (n_Mo, "hasImage", "Z", false)
  | 27 => (n_Mo, "place0", "I", false)
  | 28 => (n_Mo, "isTaking", "Z", false)
  | 29 => (n_Mo, "keptIn", "[I", false)
  | 30 => (n_Mo, "chainDays", "I", false)
  | 31 => (n_Mo, "chainFirst", "I", false)
  | 32 => (n_Mo, "thereBy", "[I", true)
  | 33 => (n_Mo, "seed", "I", false)
  | _ => (n_Mo, "between", "[J", true)
/-- the words that every method takes: those of the tables that keep -/
def TW : List Cond := lw_tbl.filter goodWord
theorem tw_of {w : Cond} (i : Nat) (h : lw_tbl[i]? = some w) (g : goodWord w = true) : w ∈ TW := List.mem_filter.mpr ⟨List.mem_of_getElem? h, g⟩
theorem tw_good {w : Cond} (h : w ∈ TW) : (w.onTables && w.keeps) = true ∨ ∃ ty, w = .arrayClass ty := good_of_word (List.mem_filter.mp h).2
/-- a callee's words among its caller's -/
theorem tw_in {a b : Cond} {ex : List Cond} (hb : b ∈ TW) (he : ∀ w ∈ ex, w ∈ TW) : GoodIn (a :: TW) (ex ++ b :: TW) := by
  intro w hw
  have h : w ∈ TW := by
    rcases List.mem_append.mp hw with h | h
    · exact he w h
    · rcases List.mem_cons.mp h with rfl | h
      · exact hb
      · exact h
  exact ⟨List.mem_cons_of_mem _ h, tw_good h⟩
theorem tw_in0 {b : Cond} {ex : List Cond} (hb : b ∈ TW) (he : ∀ w ∈ ex, w ∈ TW) : GoodIn TW (ex ++ b :: TW) := by
  intro w hw
  have h : w ∈ TW := by
    rcases List.mem_append.mp hw with h | h
    · exact he w h
    · rcases List.mem_cons.mp h with rfl | h
      · exact hb
      · exact h
  exact ⟨h, tw_good h⟩
/-- the words on members of a nest mate: they go along in the worlds -/
def isNst : Cond → Bool
  | .fieldLinkNest .. => true
  | .methodLinkNest .. => true
  | .castable .. => true
  | .declares _ => true
  | _ => false
def NW : List Cond := lw_tbl.filter isNst
theorem nw_of {w : Cond} (i : Nat) (h : lw_tbl[i]? = some w) (g : isNst w = true) : w ∈ NW := List.mem_filter.mpr ⟨List.mem_of_getElem? h, g⟩
def NWs (U : State) : Prop := ∀ w ∈ NW, va_Nw w U
theorem nst_tabs {w : Cond} (h : isNst w = true) : w.onTables = true := by
  cases w <;> first | rfl | (simp [isNst] at h)
theorem nst_warm {w : Cond} (h : isNst w = true) {s U : State} (hW : s.WarmedH U.vm) (hZ : va_Nw w s) : va_Nw w U := by
  cases w <;> first | exact va_Nw.warmF hW hZ | exact va_Nw.warmM hW hZ | exact va_Nw.warmC hW hZ | exact va_Nw.warmD hW hZ | (simp [isNst] at h)
theorem NWs.warm {s U : State} (h : NWs s) (hW : s.WarmedH U.vm) : NWs U := fun w hw => nst_warm (List.mem_filter.mp hw).2 hW (h w hw)
theorem NWs.same {s U : State} (h : NWs s) (hv : s.vm = U.vm) : NWs U := fun w hw => va_Nw.same (nst_tabs (List.mem_filter.mp hw).2) hv (h w hw)
theorem NWs.use {s : State} (h : NWs s) {w : Cond} (hw : w ∈ NW) {A : Array Value} : w.before A s = true := va_Nw.use (nst_tabs (List.mem_filter.mp hw).2) (h w hw)
abbrev vcls : List vw_C := [(n_Ho, T_0, 0), (n_Co, T_0, 0), (n_Bl, T_0, 0), (n_Tw, T_0, 0), (n_Dr, T_0, 0), (n_Fo, T_0, 0), (n_Ma, T_0, 0), (n_Ge, T_0, 0), (n_St, T_St, 5), (n_La, T_La, 5), (n_Sh, T_Sh, 6), (n_Hb, T_Hb, 7), (n_Mo, T_Mo, 35)]
/-- the fixed things: classes and slots, the arrays' classes, the addresses, the first address that is the law's -/
abbrev GC : Type := va_G × (Nat → ClassId) × (Nat → Nat) × Nat
abbrev g_a (g : GC) : Nat → Nat := g.2.2.1
abbrev g_b (g : GC) : Nat := g.2.2.2
abbrev g_c (g : GC) : Nat → ClassId := g.2.1
abbrev gtys (g : GC) : List (ClassId × FieldType) := [(g_c g 0, .int), (g_c g 1, .long), (g_c g 2, .object n_Ho), (g_c g 3, .object n_St), (g_c g 4, .object n_La), (g_c g 5, .object n_Sh)]
abbrev XD : Type := Nat → Nat → Int32
abbrev JD : Type := Nat → Nat → Int64
/-- the reference's numbers: ints, longs, which array keptIn is (0: null) -/
abbrev MD : Type := XD × JD × Nat
/-- both sides, and the law's own long -/
abbrev WD : Type := XD × MD × (Nat → Int64)
def x_up {α : Type} (w : Nat → Nat → α) (k j : Nat) (v : α) : Nat → Nat → α := fun a b => if a = k then (if b = j then v else w a b) else w a b
abbrev rfs (f : Nat → Nat) : (Nat → Int32) ⊕ (Nat → Int64) ⊕ (Nat → UInt32) ⊕ (Nat → UInt64) ⊕ (Nat → Option Nat) := .inr (.inr (.inr (.inr fun i => some (f i))))
def shX (g : GC) (k : Nat) (d : Nat → Int32) : va_E :=
  if k = 0 then .inr (11, [.ref (g_a g 1), .ref (g_a g 10), .ref (g_a g 11), .ref (g_a g 65), .ref (g_a g 64), .ref (g_a g 66), .int (d 6)])
  else if k = 1 then .inl (g_c g 2, 8, rfs fun i => g_a g (2 + i))
  else if k < 10 then .inr (k - 2, [])
  else if k < 16 then .inr (9, [.ref (g_a g 1), .ref (g_a g (k + 6)), .int (d 2), .int (d 3), .int (d 4)])
  else if k < 22 then .inl (g_c g 3, 7, rfs fun i => g_a g (22 + 7 * (k - 16) + i))
  else if k < 65 then .inr (8, [.ref (g_a g (2 + (d 0).toNatClampNeg)), .int (d 1), .int (d 2), .int (d 3), .int (d 4)])
  else if k = 65 then .inl (g_c g 4, 4, rfs fun i => g_a g (12 + i))
  else if k = 66 then .inl (g_c g 5, 8, rfs fun i => g_a g (67 + i))
  else if k < 75 then .inr (10, [.int (d 0), .ref (g_a g (2 + (d 1).toNatClampNeg)), .int (d 2), .int (d 3), .int (d 4), .ref (g_a g (k + 8))])
  else .inl (g_c g 0, 100, .inl d)
def shN (k : Nat) : Nat := if k < 89 then 7 else if k < 94 then 8 else if k < 97 then 51 else if k < 98 then 204 else if k < 102 then 38 else 4
def shM (g : GC) (k : Nat) (d : Nat → Int32) (j : Nat → Int64) (q : Nat) : va_E :=
  if k = 83 then .inr (12, [.int (d 0), .ref (g_a g 84), .ref (g_a g 85), .ref (g_a g 86), .ref (g_a g 87), .ref (g_a g 88), .int (d 6), .int (d 7), .ref (g_a g 89), .ref (g_a g 90), .ref (g_a g 91), .ref (g_a g 92), .ref (g_a g 93), .ref (g_a g 94), .int (d 14), .int (d 15), .int (d 16), .int (d 17), .int (d 18), .ref (g_a g 95), .ref (g_a g 96), .ref (g_a g 97), .ref (g_a g 98), .ref (g_a g 99), .ref (g_a g 100), .ref (g_a g 101), .int (d 26), .int (d 27), .int (d 28), (if q = 0 then .null else .ref (g_a g q)), .int (d 30), .int (d 31), .ref (g_a g 102), .int (d 33), .ref (g_a g 103)])
  else if k = 94 then .inl (g_c g 1, 800, .inr (.inl j))
  else if k = 103 then .inl (g_c g 1, 100, .inr (.inl j))
  else .inl (g_c g 0, shN k, .inl d)
def shW (g : GC) (w : WD) (k : Nat) : va_E := if k < 83 then shX g k (w.1 k) else if k < 104 then shM g k (w.2.1.1 k) (w.2.1.2.1 k) w.2.1.2.2 else .inl (g_c g 1, 1, .inr (.inl w.2.2))
def wl (g : GC) (w : WD) : va_W := (List.range 105).map fun k => (g_a g k, shW g w k)
theorem wl_at {g : GC} {w : WD} {k : Nat} (h : k < 105) : (wl g w)[k]? = some (g_a g k, shW g w k) := by simp [wl, h]
theorem wl_set {g : GC} {w w' : WD} {k : Nat} {v : va_E} (hk : k < 105) (hv : shW g w' k = v) (ho : ∀ j, j ≠ k → shW g w' j = shW g w j) : (wl g w).set k (g_a g k, v) = wl g w' := by
  refine List.ext_getElem? fun i => ?_
  rw [List.getElem?_set]
  rcases Nat.lt_or_ge i 105 with h | h
  · rw [wl_at (w := w) h, wl_at (w := w') h]
    by_cases e : k = i
    · subst e
      simp [wl, hk, hv]
    · rw [if_neg e, ho i (fun q => e q.symm)]
  · rw [if_neg (by omega)]
    simp [wl, h]
def gOk (g : GC) : Prop := (∀ i j : Nat, i < 105 → j < 105 → g_a g i = g_a g j → i = j) ∧ ∀ k : Nat, k < 105 → g_b g ≤ g_a g k
theorem gOk.d {g : GC} (h : gOk g) (w : WD) : va_D (fun q => g_b g ≤ q) (wl g w) := by
  have key : ∀ (i : Nat) (p : Nat × va_E), (wl g w)[i]? = some p → i < 105 ∧ p.1 = g_a g i := by
    intro i p hi
    have h1 : i < 105 := by
      rcases Nat.lt_or_ge i 105 with q | q
      · exact q
      · simp [wl, q] at hi
    rw [wl_at h1] at hi
    cases hi
    exact ⟨h1, rfl⟩
  refine ⟨fun i j p q hi hj e => ?_, fun k q hk => ?_⟩
  · obtain ⟨a1, a2⟩ := key i p hi
    obtain ⟨b1, b2⟩ := key j q hj
    exact h.1 i j a1 b1 (by rw [← a2, ← b2, e])
  · obtain ⟨a1, a2⟩ := key k q hk
    rw [a2]
    exact h.2 k a1
/-- the machine's fixed things in a walk, and where it goes -/
abbrev MX : Type := Program × Launch × Env × Room × State × MethodId × Array Value × List Frame × Method × Code × (State → Prop) × Nat × Nat
abbrev AB (g : GC) : Nat → Prop := fun q => g_b g ≤ q
def Cx (g : GC) (X : MX) (cc : ByteArray) (nL : Nat) (own : String) (lvl : Nat) : Prop := match X with
  | (p, _, _, R, s, m, args, _, _, c, _, _, _) => p.tables.exec = Jvm.exec ∧ c.code = cc ∧ c.maxLocals = nL ∧ s.vm.findClass own = some m.cls ∧ (∀ w ∈ TW, w.before args s = true) ∧ va_K g.1 vcls (gtys g) s ∧ gOk g ∧ g_b g ≤ s.heap.size ∧ lvl ≤ R.frames ∧ 40 * lvl ≤ R.locals ∧ NWs s
def Wk (g : GC) (X : MX) (nL pc : Nat) (loc : List (Nat × Value)) (st : List Value) (w : WD) : Prop := match X with
  | (p, l, e, R, s, m, args, below, meth, c, Q, cells, slots) => ∀ (H : Heap) (locs : List Loc) (ls : Array Slot), va_P g.1 vcls (wl g w) H → va_S (AB g) s.heap H locs → lv_has ls nL loc → W p l e R s m args below meth c H locs cells slots Q (F0 m pc ls st)
/-- the world in a state -/
def Wat (g : GC) (w : WD) (U : State) : Prop := va_P g.1 vcls (wl g w) U.heap ∧ va_K g.1 vcls (gtys g) U ∧ g_b g ≤ U.heap.size
def Wpr (g : GC) (w : WD) (U : State) : Prop := Wat g w U ∧ NWs U
def rmd (lvl : Nat) : Room := { frames := lvl, cells := 0, slots := 0, locals := 40 * lvl }
/-- contracts: from the world w, with these arguments, the method answers r and leaves the world w' -/
def Mi (g : GC) (l : Launch) (y : MethodName) (cc : ByteArray) (nL : Nat) (ret : Option FieldType) (lvl : Nat) (av : List Value) (w : WD) (r : Int32) (w' : WD) : Prop :=
  Met l y (.code y cc nL ret :: TW) (rmd lvl) (va_Pc av (fun U => Wpr g w U)) (va_Qi (fun (r2 : Int32) (_ : Unit) => r2 = r) (fun _ t => Wat g w' t) (AB g)) 0 0 (AB g)
def Ml (g : GC) (l : Launch) (y : MethodName) (cc : ByteArray) (nL : Nat) (ret : Option FieldType) (lvl : Nat) (av : List Value) (w : WD) (r : Int64) (w' : WD) : Prop :=
  Met l y (.code y cc nL ret :: TW) (rmd lvl) (va_Pc av (fun U => Wpr g w U)) (va_Ql (fun (r2 : Int64) (_ : Unit) => r2 = r) (fun _ t => Wat g w' t) (AB g)) 0 0 (AB g)
def Mv (g : GC) (l : Launch) (y : MethodName) (cc : ByteArray) (nL : Nat) (ret : Option FieldType) (lvl : Nat) (av : List Value) (w : WD) (w' : WD) : Prop :=
  Met l y (.code y cc nL ret :: TW) (rmd lvl) (va_Pc av (fun U => Wpr g w U)) (va_Qv (fun (_ : Unit) => True) (fun _ t => Wat g w' t) (AB g)) 0 0 (AB g)
theorem wat_blind {g : GC} {w : WD} {av : List Value} : FrameBlind (va_Pc av (fun U => Wpr g w U)) := fun a U fr mk q => by
  obtain ⟨q0, ⟨qP, qK, qb⟩, qn⟩ := q
  exact ⟨q0, ⟨qP, va_K.moved (u := U) (U := U.calling fr mk a) (Vm.Alike.refl U.vm) qK, qb⟩, qn.same rfl⟩
/-- the entry of a method -/
theorem m_entry {g : GC} (hg : gOk g) {l : Launch} {y : MethodName} {cc : ByteArray} {nL : Nat} {ret : Option FieldType} {lvl : Nat} {av : List Value} {w : WD} {Qc : Array Value → State → Outcome → State → Prop} (hy : plainName y.cls = true) (hn : (lg_sl av).length ≤ nL)
    (body : ∀ (X : MX), X.2.2.2.2.2.2.2.2.2.2.1 = MQ X.2.2.2.2.2.2.2.1 Qc X.2.2.2.2.2.2.1 X.2.2.2.2.1 0 0 (AB g) → X.2.2.2.2.2.2.2.2.1.sig.returnType = ret → X.2.2.2.2.2.2.2.2.1.locks = false → X.2.2.2.2.2.2.2.2.2.2.2 = (0, 0) → Cx g X cc nL y.cls lvl → Wk g X nL 0 (lv_args 0 av) [] w) :
    Met l y (.code y cc nL ret :: TW) (rmd lvl) (va_Pc av (fun U => Wpr g w U)) Qc 0 0 (AB g) := by
  refine Met.ofW (cc := cc) (maxL := nL) (ret := ret) hy rfl ?_
  intro p e s m args below meth c s₁ B hml hv
  obtain ⟨rfl, ⟨hP, hK, hb⟩, hnw⟩ := hv
  have hts := atoms_spec (ws := .code y cc nL ret :: TW) B.pre
  have hl := lv_entry av (n := nL) hn
  rw [lg_entry_eq]
  have h := body (p, l, e, rmd lvl, s, m, av.toArray, below, meth, c, MQ below Qc av.toArray s 0 0 (AB g), 0, 0) rfl B.returns B.notSynchronized rfl ⟨B.exec, B.bytes, hml, findClass_of_methodNamed B.named, fun w hw => hts w (List.mem_cons_of_mem _ hw), hK, hg, hb, Nat.le_refl _, Nat.le_refl _, hnw⟩
  exact h s.heap [] _ hP va_S.rf hl
end
section
/-! MINI-ROWS: an instruction each, over Wk. -/
def x_rem (x y : Int32) : Int32 := x - x / y * y
def l_rem (x y : Int64) : Int64 := x - x / y * y
def x_abs (x : Int32) : Int32 := if 0 ≤ x then x else 0 - x
def x_min (x y : Int32) : Int32 := if y < x then y else x
def x_max (x y : Int32) : Int32 := if x < y then y else x
/-- guards of the pure functions: an index within, a 0 or 1, not 0 -/
def gI {α : Type} (i : Int32) (n : Nat) (v : Option α) : Option α := if i < 0 ∨ n ≤ i.toNatClampNeg then none else v
def gB {α : Type} (i : Int32) (v : Option α) : Option α := if i = 0 ∨ i = 1 then v else none
theorem gI_some {α : Type} {i : Int32} {n : Nat} {v : Option α} {r : α} (h : gI i n v = some r) : vp_in i n ∧ v = some r := by
  unfold gI at h
  by_cases c : i < 0 ∨ n ≤ i.toNatClampNeg
  · rw [if_pos c] at h; cases h
  · rw [if_neg c] at h; exact ⟨c, h⟩
theorem gB_some {α : Type} {i : Int32} {v : Option α} {r : α} (h : gB i v = some r) : (i = 0 ∨ i = 1) ∧ v = some r := by
  unfold gB at h
  by_cases c : i = 0 ∨ i = 1
  · rw [if_pos c] at h; exact ⟨c, h⟩
  · rw [if_neg c] at h; cases h
theorem bd_some {α β : Type} {v : Option α} {k : α → Option β} {r : β} (h : v.bind k = some r) : ∃ a, v = some a ∧ k a = some r := by
  cases v with
  | none => cases h
  | some a => exact ⟨a, rfl, h⟩
theorem vin_lt {i : Int32} {n : Nat} (h : vp_in i n) : i.toNatClampNeg < n := Nat.not_le.mp fun q => h (Or.inr q)
section MR
variable {g : GC} {X : MX} {cc : ByteArray} {nL : Nat} {own : String} {lvl : Nat} {pc : Nat} {loc lv' : List (Nat × Value)} {rest : List Value} {w : WD}

theorem k_iload_n (C : Cx g X cc nL own lvl) {k : Fin 4} {x : Int32} (hd : decode cc pc = .ok (.iload_n k, 1)) (i : Nat) (hi : loc[i]? = some ((k : Nat), .int x)) (h : Wk g X nL (pc + 1) loc (.int x :: rest) w) : Wk g X nL pc loc (rest) w := by
  obtain ⟨p, l, e, R, s, m, args, below, meth, c, Q, cells, slots⟩ := X
  obtain ⟨hx, hb, hml, hown, hts, hK, hg, hbs, hfr, hlo, hnw⟩ := C
  exact fun H locs ls hP hS hl => lv_iload_n hx hb hd rfl (lv_at hl i hi) (h H locs ls hP hS hl)

theorem k_iload (C : Cx g X cc nL own lvl) {k : Nat} {x : Int32} (hd : decode cc pc = .ok (.iload k, 2)) (i : Nat) (hi : loc[i]? = some (k, .int x)) (h : Wk g X nL (pc + 2) loc (.int x :: rest) w) : Wk g X nL pc loc (rest) w := by
  obtain ⟨p, l, e, R, s, m, args, below, meth, c, Q, cells, slots⟩ := X
  obtain ⟨hx, hb, hml, hown, hts, hK, hg, hbs, hfr, hlo, hnw⟩ := C
  exact fun H locs ls hP hS hl => lv_iload hx hb hd (lv_at hl i hi) (h H locs ls hP hS hl)

theorem k_istore_n (C : Cx g X cc nL own lvl) {k : Fin 4} {x : Int32} (hd : decode cc pc = .ok (.istore_n k, 1)) (hn : Nat.ble ((k : Nat) + 1) nL = true) (hl' : ((k : Nat), Value.int x) :: loc.filter (fun q => !(q.1 == (k : Nat)) && !(q.1 + 1 == (k : Nat) && q.2.category == 2)) = lv') (h : Wk g X nL (pc + 1) lv' rest w) : Wk g X nL pc loc (.int x :: rest) w := by
  obtain ⟨p, l, e, R, s, m, args, below, meth, c, Q, cells, slots⟩ := X
  obtain ⟨hx, hb, hml, hown, hts, hK, hg, hbs, hfr, hlo, hnw⟩ := C
  exact fun H locs ls hP hS hl => lv_istore_n hx hb hd rfl hl (Nat.le_of_ble_eq_true hn) hl' (fun ls' hl2 => h H locs ls' hP hS hl2)

theorem k_istore (C : Cx g X cc nL own lvl) {k : Nat} {x : Int32} (hd : decode cc pc = .ok (.istore k, 2)) (hn : Nat.ble (k + 1) nL = true) (hl' : (k, Value.int x) :: loc.filter (fun q => !(q.1 == k) && !(q.1 + 1 == k && q.2.category == 2)) = lv') (h : Wk g X nL (pc + 2) lv' rest w) : Wk g X nL pc loc (.int x :: rest) w := by
  obtain ⟨p, l, e, R, s, m, args, below, meth, c, Q, cells, slots⟩ := X
  obtain ⟨hx, hb, hml, hown, hts, hK, hg, hbs, hfr, hlo, hnw⟩ := C
  exact fun H locs ls hP hS hl => lv_istore hx hb hd hl (Nat.le_of_ble_eq_true hn) hl' (fun ls' hl2 => h H locs ls' hP hS hl2)

theorem k_aload_n (C : Cx g X cc nL own lvl) {k : Fin 4} {x : Nat} (hd : decode cc pc = .ok (.aload_n k, 1)) (i : Nat) (hi : loc[i]? = some ((k : Nat), .ref x)) (h : Wk g X nL (pc + 1) loc (.ref x :: rest) w) : Wk g X nL pc loc (rest) w := by
  obtain ⟨p, l, e, R, s, m, args, below, meth, c, Q, cells, slots⟩ := X
  obtain ⟨hx, hb, hml, hown, hts, hK, hg, hbs, hfr, hlo, hnw⟩ := C
  exact fun H locs ls hP hS hl => lv_aload_n hx hb hd rfl (lv_at hl i hi) (h H locs ls hP hS hl)

theorem k_aload (C : Cx g X cc nL own lvl) {k : Nat} {x : Nat} (hd : decode cc pc = .ok (.aload k, 2)) (i : Nat) (hi : loc[i]? = some (k, .ref x)) (h : Wk g X nL (pc + 2) loc (.ref x :: rest) w) : Wk g X nL pc loc (rest) w := by
  obtain ⟨p, l, e, R, s, m, args, below, meth, c, Q, cells, slots⟩ := X
  obtain ⟨hx, hb, hml, hown, hts, hK, hg, hbs, hfr, hlo, hnw⟩ := C
  exact fun H locs ls hP hS hl => lv_aload hx hb hd (lv_at hl i hi) (h H locs ls hP hS hl)

theorem k_astore_n (C : Cx g X cc nL own lvl) {k : Fin 4} {x : Nat} (hd : decode cc pc = .ok (.astore_n k, 1)) (hn : Nat.ble ((k : Nat) + 1) nL = true) (hl' : ((k : Nat), Value.ref x) :: loc.filter (fun q => !(q.1 == (k : Nat)) && !(q.1 + 1 == (k : Nat) && q.2.category == 2)) = lv') (h : Wk g X nL (pc + 1) lv' rest w) : Wk g X nL pc loc (.ref x :: rest) w := by
  obtain ⟨p, l, e, R, s, m, args, below, meth, c, Q, cells, slots⟩ := X
  obtain ⟨hx, hb, hml, hown, hts, hK, hg, hbs, hfr, hlo, hnw⟩ := C
  exact fun H locs ls hP hS hl => lv_astore_n hx hb hd rfl hl (Nat.le_of_ble_eq_true hn) hl' (fun ls' hl2 => h H locs ls' hP hS hl2)

theorem k_astore (C : Cx g X cc nL own lvl) {k : Nat} {x : Nat} (hd : decode cc pc = .ok (.astore k, 2)) (hn : Nat.ble (k + 1) nL = true) (hl' : (k, Value.ref x) :: loc.filter (fun q => !(q.1 == k) && !(q.1 + 1 == k && q.2.category == 2)) = lv') (h : Wk g X nL (pc + 2) lv' rest w) : Wk g X nL pc loc (.ref x :: rest) w := by
  obtain ⟨p, l, e, R, s, m, args, below, meth, c, Q, cells, slots⟩ := X
  obtain ⟨hx, hb, hml, hown, hts, hK, hg, hbs, hfr, hlo, hnw⟩ := C
  exact fun H locs ls hP hS hl => lv_astore hx hb hd hl (Nat.le_of_ble_eq_true hn) hl' (fun ls' hl2 => h H locs ls' hP hS hl2)

theorem k_lload_n (C : Cx g X cc nL own lvl) {k : Fin 4} {x : Int64} (hd : decode cc pc = .ok (.lload_n k, 1)) (i : Nat) (hi : loc[i]? = some ((k : Nat), .long x)) (h : Wk g X nL (pc + 1) loc (.long x :: rest) w) : Wk g X nL pc loc (rest) w := by
  obtain ⟨p, l, e, R, s, m, args, below, meth, c, Q, cells, slots⟩ := X
  obtain ⟨hx, hb, hml, hown, hts, hK, hg, hbs, hfr, hlo, hnw⟩ := C
  exact fun H locs ls hP hS hl => lv_lload_n hx hb hd rfl (lv_at hl i hi) (h H locs ls hP hS hl)

theorem k_lload (C : Cx g X cc nL own lvl) {k : Nat} {x : Int64} (hd : decode cc pc = .ok (.lload k, 2)) (i : Nat) (hi : loc[i]? = some (k, .long x)) (h : Wk g X nL (pc + 2) loc (.long x :: rest) w) : Wk g X nL pc loc (rest) w := by
  obtain ⟨p, l, e, R, s, m, args, below, meth, c, Q, cells, slots⟩ := X
  obtain ⟨hx, hb, hml, hown, hts, hK, hg, hbs, hfr, hlo, hnw⟩ := C
  exact fun H locs ls hP hS hl => lv_lload hx hb hd (lv_at hl i hi) (h H locs ls hP hS hl)

theorem k_lstore_n (C : Cx g X cc nL own lvl) {k : Fin 4} {x : Int64} (hd : decode cc pc = .ok (.lstore_n k, 1)) (hn : Nat.ble ((k : Nat) + 2) nL = true) (hl' : ((k : Nat), Value.long x) :: loc.filter (fun q => !(q.1 == (k : Nat)) && (!(q.1 == (k : Nat) + 1) && !(q.1 + 1 == (k : Nat) && q.2.category == 2))) = lv') (h : Wk g X nL (pc + 1) lv' rest w) : Wk g X nL pc loc (.long x :: rest) w := by
  obtain ⟨p, l, e, R, s, m, args, below, meth, c, Q, cells, slots⟩ := X
  obtain ⟨hx, hb, hml, hown, hts, hK, hg, hbs, hfr, hlo, hnw⟩ := C
  exact fun H locs ls hP hS hl => lv_lstore_n hx hb hd rfl hl (Nat.le_of_ble_eq_true hn) hl' (fun ls' hl2 => h H locs ls' hP hS hl2)

theorem k_lstore (C : Cx g X cc nL own lvl) {k : Nat} {x : Int64} (hd : decode cc pc = .ok (.lstore k, 2)) (hn : Nat.ble (k + 2) nL = true) (hl' : (k, Value.long x) :: loc.filter (fun q => !(q.1 == k) && (!(q.1 == k + 1) && !(q.1 + 1 == k && q.2.category == 2))) = lv') (h : Wk g X nL (pc + 2) lv' rest w) : Wk g X nL pc loc (.long x :: rest) w := by
  obtain ⟨p, l, e, R, s, m, args, below, meth, c, Q, cells, slots⟩ := X
  obtain ⟨hx, hb, hml, hown, hts, hK, hg, hbs, hfr, hlo, hnw⟩ := C
  exact fun H locs ls hP hS hl => lv_lstore hx hb hd hl (Nat.le_of_ble_eq_true hn) hl' (fun ls' hl2 => h H locs ls' hP hS hl2)

theorem k_iinc (C : Cx g X cc nL own lvl) {k : Nat} {n : Int} {x : Int32} (v : Int32) (hd : decode cc pc = .ok (.iinc k n, 3)) (i : Nat) (hi : loc[i]? = some (k, .int x)) (hv : x + Int32.ofInt n = v) (hn : Nat.ble (k + 1) nL = true) (hl' : (k, Value.int v) :: loc.filter (fun q => !(q.1 == k) && !(q.1 + 1 == k && q.2.category == 2)) = lv') (h : Wk g X nL (pc + 3) lv' rest w) : Wk g X nL pc loc (rest) w := by
  obtain ⟨p, l, e, R, s, m, args, below, meth, c, Q, cells, slots⟩ := X
  obtain ⟨hx, hb, hml, hown, hts, hK, hg, hbs, hfr, hlo, hnw⟩ := C
  exact fun H locs ls hP hS hl => lv_iinc hx hb hd hl hi hv (Nat.le_of_ble_eq_true hn) hl' (fun ls' hl2 => h H locs ls' hP hS hl2)

theorem k_iconst (C : Cx g X cc nL own lvl) {n : Int} (v : Int32) (hd : decode cc pc = .ok (.iconst n, 1)) (hv : Int32.ofInt n = v) (h : Wk g X nL (pc + 1) loc (.int v :: rest) w) : Wk g X nL pc loc (rest) w := by
  obtain ⟨p, l, e, R, s, m, args, below, meth, c, Q, cells, slots⟩ := X
  obtain ⟨hx, hb, hml, hown, hts, hK, hg, hbs, hfr, hlo, hnw⟩ := C
  exact fun H locs ls hP hS hl => lv_iconst hx hb hd hv (h H locs ls hP hS hl)

theorem k_bipush (C : Cx g X cc nL own lvl) {n : Int} (v : Int32) (hd : decode cc pc = .ok (.bipush n, 2)) (hv : (Int8.ofInt n).toInt32 = v) (h : Wk g X nL (pc + 2) loc (.int v :: rest) w) : Wk g X nL pc loc (rest) w := by
  obtain ⟨p, l, e, R, s, m, args, below, meth, c, Q, cells, slots⟩ := X
  obtain ⟨hx, hb, hml, hown, hts, hK, hg, hbs, hfr, hlo, hnw⟩ := C
  exact fun H locs ls hP hS hl => lv_bipush hx hb hd hv (h H locs ls hP hS hl)

theorem k_sipush (C : Cx g X cc nL own lvl) {n : Int} (v : Int32) (hd : decode cc pc = .ok (.sipush n, 3)) (hv : (Int16.ofInt n).toInt32 = v) (h : Wk g X nL (pc + 3) loc (.int v :: rest) w) : Wk g X nL pc loc (rest) w := by
  obtain ⟨p, l, e, R, s, m, args, below, meth, c, Q, cells, slots⟩ := X
  obtain ⟨hx, hb, hml, hown, hts, hK, hg, hbs, hfr, hlo, hnw⟩ := C
  exact fun H locs ls hP hS hl => lv_sipush hx hb hd hv (h H locs ls hP hS hl)

theorem k_lconst (C : Cx g X cc nL own lvl) {n : Fin 2} (v : Int64) (hd : decode cc pc = .ok (.lconst n, 1)) (hv : Int64.ofNat (n : Nat) = v) (h : Wk g X nL (pc + 1) loc (.long v :: rest) w) : Wk g X nL pc loc (rest) w := by
  obtain ⟨p, l, e, R, s, m, args, below, meth, c, Q, cells, slots⟩ := X
  obtain ⟨hx, hb, hml, hown, hts, hK, hg, hbs, hfr, hlo, hnw⟩ := C
  exact fun H locs ls hP hS hl => lv_lconst hx hb hd hv (h H locs ls hP hS hl)

theorem k_ldc (C : Cx g X cc nL own lvl) {idx : Nat} (v : Int32) (hw : Cond.constant own idx v ∈ TW) (hd : decode cc pc = .ok (.ldc idx, 2)) (h : Wk g X nL (pc + 2) loc (.int v :: rest) w) : Wk g X nL pc loc (rest) w := by
  obtain ⟨p, l, e, R, s, m, args, below, meth, c, Q, cells, slots⟩ := X
  obtain ⟨hx, hb, hml, hown, hts, hK, hg, hbs, hfr, hlo, hnw⟩ := C
  exact fun H locs ls hP hS hl => lv_ldc hx hb hown (hts _ hw) hd (h H locs ls hP hS hl)

theorem k_ldcw (C : Cx g X cc nL own lvl) {idx : Nat} (v : Int32) (hw : Cond.constant own idx v ∈ TW) (hd : decode cc pc = .ok (.ldc_w idx, 3)) (h : Wk g X nL (pc + 3) loc (.int v :: rest) w) : Wk g X nL pc loc (rest) w := by
  obtain ⟨p, l, e, R, s, m, args, below, meth, c, Q, cells, slots⟩ := X
  obtain ⟨hx, hb, hml, hown, hts, hK, hg, hbs, hfr, hlo, hnw⟩ := C
  exact fun H locs ls hP hS hl => lv_ldcw hx hb hown (hts _ hw) hd (h H locs ls hP hS hl)

theorem k_ldc2 (C : Cx g X cc nL own lvl) {idx : Nat} (v : Int64) (hw : Cond.constantLong own idx v ∈ TW) (hd : decode cc pc = .ok (.ldc2_w idx, 3)) (h : Wk g X nL (pc + 3) loc (.long v :: rest) w) : Wk g X nL pc loc (rest) w := by
  obtain ⟨p, l, e, R, s, m, args, below, meth, c, Q, cells, slots⟩ := X
  obtain ⟨hx, hb, hml, hown, hts, hK, hg, hbs, hfr, hlo, hnw⟩ := C
  exact fun H locs ls hP hS hl => lv_ldc2 hx hb hown (hts _ hw) hd (h H locs ls hP hS hl)

theorem k_iadd (C : Cx g X cc nL own lvl) {x y : Int32} (hd : decode cc pc = .ok (.iadd, 1)) (h : Wk g X nL (pc + 1) loc (.int (x + y) :: rest) w) : Wk g X nL pc loc (.int y :: .int x :: rest) w := by
  obtain ⟨p, l, e, R, s, m, args, below, meth, c, Q, cells, slots⟩ := X
  obtain ⟨hx, hb, hml, hown, hts, hK, hg, hbs, hfr, hlo, hnw⟩ := C
  exact fun H locs ls hP hS hl => lv_iadd hx hb hd (h H locs ls hP hS hl)

theorem k_isub (C : Cx g X cc nL own lvl) {x y : Int32} (hd : decode cc pc = .ok (.isub, 1)) (h : Wk g X nL (pc + 1) loc (.int (x - y) :: rest) w) : Wk g X nL pc loc (.int y :: .int x :: rest) w := by
  obtain ⟨p, l, e, R, s, m, args, below, meth, c, Q, cells, slots⟩ := X
  obtain ⟨hx, hb, hml, hown, hts, hK, hg, hbs, hfr, hlo, hnw⟩ := C
  exact fun H locs ls hP hS hl => lv_isub hx hb hd (h H locs ls hP hS hl)

theorem k_imul (C : Cx g X cc nL own lvl) {x y : Int32} (hd : decode cc pc = .ok (.imul, 1)) (h : Wk g X nL (pc + 1) loc (.int (x * y) :: rest) w) : Wk g X nL pc loc (.int y :: .int x :: rest) w := by
  obtain ⟨p, l, e, R, s, m, args, below, meth, c, Q, cells, slots⟩ := X
  obtain ⟨hx, hb, hml, hown, hts, hK, hg, hbs, hfr, hlo, hnw⟩ := C
  exact fun H locs ls hP hS hl => lv_imul hx hb hd (h H locs ls hP hS hl)

theorem k_iand (C : Cx g X cc nL own lvl) {x y : Int32} (hd : decode cc pc = .ok (.iand, 1)) (h : Wk g X nL (pc + 1) loc (.int (x &&& y) :: rest) w) : Wk g X nL pc loc (.int y :: .int x :: rest) w := by
  obtain ⟨p, l, e, R, s, m, args, below, meth, c, Q, cells, slots⟩ := X
  obtain ⟨hx, hb, hml, hown, hts, hK, hg, hbs, hfr, hlo, hnw⟩ := C
  exact fun H locs ls hP hS hl => lv_iand hx hb hd (h H locs ls hP hS hl)

theorem k_ior (C : Cx g X cc nL own lvl) {x y : Int32} (hd : decode cc pc = .ok (.ior, 1)) (h : Wk g X nL (pc + 1) loc (.int (x ||| y) :: rest) w) : Wk g X nL pc loc (.int y :: .int x :: rest) w := by
  obtain ⟨p, l, e, R, s, m, args, below, meth, c, Q, cells, slots⟩ := X
  obtain ⟨hx, hb, hml, hown, hts, hK, hg, hbs, hfr, hlo, hnw⟩ := C
  exact fun H locs ls hP hS hl => lv_ior hx hb hd (h H locs ls hP hS hl)

theorem k_ishl (C : Cx g X cc nL own lvl) {x y : Int32} (hd : decode cc pc = .ok (.ishl, 1)) (h : Wk g X nL (pc + 1) loc (.int (x <<< (y &&& 31)) :: rest) w) : Wk g X nL pc loc (.int y :: .int x :: rest) w := by
  obtain ⟨p, l, e, R, s, m, args, below, meth, c, Q, cells, slots⟩ := X
  obtain ⟨hx, hb, hml, hown, hts, hK, hg, hbs, hfr, hlo, hnw⟩ := C
  exact fun H locs ls hP hS hl => lv_ishl hx hb hd (h H locs ls hP hS hl)

theorem k_ishr (C : Cx g X cc nL own lvl) {x y : Int32} (hd : decode cc pc = .ok (.ishr, 1)) (h : Wk g X nL (pc + 1) loc (.int (x >>> (y &&& 31)) :: rest) w) : Wk g X nL pc loc (.int y :: .int x :: rest) w := by
  obtain ⟨p, l, e, R, s, m, args, below, meth, c, Q, cells, slots⟩ := X
  obtain ⟨hx, hb, hml, hown, hts, hK, hg, hbs, hfr, hlo, hnw⟩ := C
  exact fun H locs ls hP hS hl => lv_ishr hx hb hd (h H locs ls hP hS hl)

theorem k_idiv (C : Cx g X cc nL own lvl) {x y : Int32} (hne : ¬ y = 0) (hd : decode cc pc = .ok (.idiv, 1)) (h : Wk g X nL (pc + 1) loc (.int (x / y) :: rest) w) : Wk g X nL pc loc (.int y :: .int x :: rest) w := by
  obtain ⟨p, l, e, R, s, m, args, below, meth, c, Q, cells, slots⟩ := X
  obtain ⟨hx, hb, hml, hown, hts, hK, hg, hbs, hfr, hlo, hnw⟩ := C
  exact fun H locs ls hP hS hl => lv_idiv hx hb hd hne (h H locs ls hP hS hl)

theorem k_irem (C : Cx g X cc nL own lvl) {x y : Int32} (hne : ¬ y = 0) (hd : decode cc pc = .ok (.irem, 1)) (h : Wk g X nL (pc + 1) loc (.int (x_rem x y) :: rest) w) : Wk g X nL pc loc (.int y :: .int x :: rest) w := by
  obtain ⟨p, l, e, R, s, m, args, below, meth, c, Q, cells, slots⟩ := X
  obtain ⟨hx, hb, hml, hown, hts, hK, hg, hbs, hfr, hlo, hnw⟩ := C
  exact fun H locs ls hP hS hl => lv_irem hx hb hd hne (h H locs ls hP hS hl)

theorem k_ladd (C : Cx g X cc nL own lvl) {x y : Int64} (hd : decode cc pc = .ok (.ladd, 1)) (h : Wk g X nL (pc + 1) loc (.long (x + y) :: rest) w) : Wk g X nL pc loc (.long y :: .long x :: rest) w := by
  obtain ⟨p, l, e, R, s, m, args, below, meth, c, Q, cells, slots⟩ := X
  obtain ⟨hx, hb, hml, hown, hts, hK, hg, hbs, hfr, hlo, hnw⟩ := C
  exact fun H locs ls hP hS hl => lv_ladd hx hb hd (h H locs ls hP hS hl)

theorem k_lmul (C : Cx g X cc nL own lvl) {x y : Int64} (hd : decode cc pc = .ok (.lmul, 1)) (h : Wk g X nL (pc + 1) loc (.long (x * y) :: rest) w) : Wk g X nL pc loc (.long y :: .long x :: rest) w := by
  obtain ⟨p, l, e, R, s, m, args, below, meth, c, Q, cells, slots⟩ := X
  obtain ⟨hx, hb, hml, hown, hts, hK, hg, hbs, hfr, hlo, hnw⟩ := C
  exact fun H locs ls hP hS hl => lv_lmul hx hb hd (h H locs ls hP hS hl)

theorem k_lsub (C : Cx g X cc nL own lvl) {x y : Int64} (hd : decode cc pc = .ok (.lsub, 1)) (h : Wk g X nL (pc + 1) loc (.long (x - y) :: rest) w) : Wk g X nL pc loc (.long y :: .long x :: rest) w := by
  obtain ⟨p, l, e, R, s, m, args, below, meth, c, Q, cells, slots⟩ := X
  obtain ⟨hx, hb, hml, hown, hts, hK, hg, hbs, hfr, hlo, hnw⟩ := C
  exact fun H locs ls hP hS hl => lv_lsub hx hb hd (h H locs ls hP hS hl)

theorem k_ldiv (C : Cx g X cc nL own lvl) {x y : Int64} (hne : ¬ y = 0) (hd : decode cc pc = .ok (.ldiv, 1)) (h : Wk g X nL (pc + 1) loc (.long (x / y) :: rest) w) : Wk g X nL pc loc (.long y :: .long x :: rest) w := by
  obtain ⟨p, l, e, R, s, m, args, below, meth, c, Q, cells, slots⟩ := X
  obtain ⟨hx, hb, hml, hown, hts, hK, hg, hbs, hfr, hlo, hnw⟩ := C
  exact fun H locs ls hP hS hl => lv_ldiv hx hb hd hne (h H locs ls hP hS hl)

theorem k_lrem (C : Cx g X cc nL own lvl) {x y : Int64} (hne : ¬ y = 0) (hd : decode cc pc = .ok (.lrem, 1)) (h : Wk g X nL (pc + 1) loc (.long (l_rem x y) :: rest) w) : Wk g X nL pc loc (.long y :: .long x :: rest) w := by
  obtain ⟨p, l, e, R, s, m, args, below, meth, c, Q, cells, slots⟩ := X
  obtain ⟨hx, hb, hml, hown, hts, hK, hg, hbs, hfr, hlo, hnw⟩ := C
  exact fun H locs ls hP hS hl => lv_lrem hx hb hd hne (h H locs ls hP hS hl)

theorem k_lcmp (C : Cx g X cc nL own lvl) {x y : Int64} (hd : decode cc pc = .ok (.lcmp, 1)) (h : Wk g X nL (pc + 1) loc (.int (lg_cmp x y) :: rest) w) : Wk g X nL pc loc (.long y :: .long x :: rest) w := by
  obtain ⟨p, l, e, R, s, m, args, below, meth, c, Q, cells, slots⟩ := X
  obtain ⟨hx, hb, hml, hown, hts, hK, hg, hbs, hfr, hlo, hnw⟩ := C
  exact fun H locs ls hP hS hl => W.lcmp hx hb hd (h H locs ls hP hS hl)

theorem k_i2l (C : Cx g X cc nL own lvl) {x : Int32} (hd : decode cc pc = .ok (.i2l, 1)) (h : Wk g X nL (pc + 1) loc (.long x.toInt64 :: rest) w) : Wk g X nL pc loc (.int x :: rest) w := by
  obtain ⟨p, l, e, R, s, m, args, below, meth, c, Q, cells, slots⟩ := X
  obtain ⟨hx, hb, hml, hown, hts, hK, hg, hbs, hfr, hlo, hnw⟩ := C
  exact fun H locs ls hP hS hl => lv_i2l hx hb hd rfl (h H locs ls hP hS hl)

theorem k_l2i (C : Cx g X cc nL own lvl) {x : Int64} (hd : decode cc pc = .ok (.l2i, 1)) (h : Wk g X nL (pc + 1) loc (.int x.toInt32 :: rest) w) : Wk g X nL pc loc (.long x :: rest) w := by
  obtain ⟨p, l, e, R, s, m, args, below, meth, c, Q, cells, slots⟩ := X
  obtain ⟨hx, hb, hml, hown, hts, hK, hg, hbs, hfr, hlo, hnw⟩ := C
  exact fun H locs ls hP hS hl => lv_l2i hx hb hd rfl (h H locs ls hP hS hl)

theorem k_i2b (C : Cx g X cc nL own lvl) {x : Int32} (hd : decode cc pc = .ok (.i2b, 1)) (h : Wk g X nL (pc + 1) loc (.int x.toInt8.toInt32 :: rest) w) : Wk g X nL pc loc (.int x :: rest) w := by
  obtain ⟨p, l, e, R, s, m, args, below, meth, c, Q, cells, slots⟩ := X
  obtain ⟨hx, hb, hml, hown, hts, hK, hg, hbs, hfr, hlo, hnw⟩ := C
  exact fun H locs ls hP hS hl => lv_i2b hx hb hd rfl (h H locs ls hP hS hl)

theorem k_i2s (C : Cx g X cc nL own lvl) {x : Int32} (hd : decode cc pc = .ok (.i2s, 1)) (h : Wk g X nL (pc + 1) loc (.int x.toInt16.toInt32 :: rest) w) : Wk g X nL pc loc (.int x :: rest) w := by
  obtain ⟨p, l, e, R, s, m, args, below, meth, c, Q, cells, slots⟩ := X
  obtain ⟨hx, hb, hml, hown, hts, hK, hg, hbs, hfr, hlo, hnw⟩ := C
  exact fun H locs ls hP hS hl => lv_i2s hx hb hd rfl (h H locs ls hP hS hl)

theorem k_dup (C : Cx g X cc nL own lvl) {v : Value} (hd : decode cc pc = .ok (.dup, 1)) (hv : v.category = 1) (h : Wk g X nL (pc + 1) loc (v :: v :: rest) w) : Wk g X nL pc loc (v :: rest) w := by
  obtain ⟨p, l, e, R, s, m, args, below, meth, c, Q, cells, slots⟩ := X
  obtain ⟨hx, hb, hml, hown, hts, hK, hg, hbs, hfr, hlo, hnw⟩ := C
  exact fun H locs ls hP hS hl => lv_dup hx hb hd hv (h H locs ls hP hS hl)

theorem k_dup2 (C : Cx g X cc nL own lvl) {va vb : Value} (hd : decode cc pc = .ok (.dup2, 1)) (hva : va.category = 1) (hvb : vb.category = 1) (h : Wk g X nL (pc + 1) loc (va :: vb :: va :: vb :: rest) w) : Wk g X nL pc loc (va :: vb :: rest) w := by
  obtain ⟨p, l, e, R, s, m, args, below, meth, c, Q, cells, slots⟩ := X
  obtain ⟨hx, hb, hml, hown, hts, hK, hg, hbs, hfr, hlo, hnw⟩ := C
  exact fun H locs ls hP hS hl => lv_dup2_11 hx hb hd hva hvb (h H locs ls hP hS hl)

theorem k_dup_x1 (C : Cx g X cc nL own lvl) {va vb : Value} (hd : decode cc pc = .ok (.dup_x1, 1)) (hva : va.category = 1) (hvb : vb.category = 1) (h : Wk g X nL (pc + 1) loc (va :: vb :: va :: rest) w) : Wk g X nL pc loc (va :: vb :: rest) w := by
  obtain ⟨p, l, e, R, s, m, args, below, meth, c, Q, cells, slots⟩ := X
  obtain ⟨hx, hb, hml, hown, hts, hK, hg, hbs, hfr, hlo, hnw⟩ := C
  exact fun H locs ls hP hS hl => lv_dup_x1 hx hb hd hva hvb (h H locs ls hP hS hl)

theorem k_pop (C : Cx g X cc nL own lvl) {v : Value} (hd : decode cc pc = .ok (.pop, 1)) (hv : v.category = 1) (h : Wk g X nL (pc + 1) loc rest w) : Wk g X nL pc loc (v :: rest) w := by
  obtain ⟨p, l, e, R, s, m, args, below, meth, c, Q, cells, slots⟩ := X
  obtain ⟨hx, hb, hml, hown, hts, hK, hg, hbs, hfr, hlo, hnw⟩ := C
  exact fun H locs ls hP hS hl => lv_pop hx hb hd hv (h H locs ls hP hS hl)

theorem k_if_eq (C : Cx g X cc nL own lvl) {x : Int32} {off : Int} (tgt : Nat) (hd : decode cc pc = .ok (.ifCond .eq off, 3)) (ht : (pc : Int) + off = (tgt : Int)) (kt : x = 0 → Wk g X nL tgt loc rest w) (kf : ¬ x = 0 → Wk g X nL (pc + 3) loc rest w) : Wk g X nL pc loc (.int x :: rest) w := by
  obtain ⟨p, l, e, R, s, m, args, below, meth, c, Q, cells, slots⟩ := X
  obtain ⟨hx, hb, hml, hown, hts, hK, hg, hbs, hfr, hlo, hnw⟩ := C
  exact fun H locs ls hP hS hl => lv_if_eq hx hb hd ht (fun q => kt q H locs ls hP hS hl) (fun q => kf q H locs ls hP hS hl)

theorem k_if_ne (C : Cx g X cc nL own lvl) {x : Int32} {off : Int} (tgt : Nat) (hd : decode cc pc = .ok (.ifCond .ne off, 3)) (ht : (pc : Int) + off = (tgt : Int)) (kt : ¬ x = 0 → Wk g X nL tgt loc rest w) (kf : x = 0 → Wk g X nL (pc + 3) loc rest w) : Wk g X nL pc loc (.int x :: rest) w := by
  obtain ⟨p, l, e, R, s, m, args, below, meth, c, Q, cells, slots⟩ := X
  obtain ⟨hx, hb, hml, hown, hts, hK, hg, hbs, hfr, hlo, hnw⟩ := C
  exact fun H locs ls hP hS hl => lv_if_ne hx hb hd ht (fun q => kt q H locs ls hP hS hl) (fun q => kf q H locs ls hP hS hl)

theorem k_if_lt (C : Cx g X cc nL own lvl) {x : Int32} {off : Int} (tgt : Nat) (hd : decode cc pc = .ok (.ifCond .lt off, 3)) (ht : (pc : Int) + off = (tgt : Int)) (kt : x < 0 → Wk g X nL tgt loc rest w) (kf : ¬ x < 0 → Wk g X nL (pc + 3) loc rest w) : Wk g X nL pc loc (.int x :: rest) w := by
  obtain ⟨p, l, e, R, s, m, args, below, meth, c, Q, cells, slots⟩ := X
  obtain ⟨hx, hb, hml, hown, hts, hK, hg, hbs, hfr, hlo, hnw⟩ := C
  exact fun H locs ls hP hS hl => lv_if_lt hx hb hd ht (fun q => kt q H locs ls hP hS hl) (fun q => kf q H locs ls hP hS hl)

theorem k_if_ge (C : Cx g X cc nL own lvl) {x : Int32} {off : Int} (tgt : Nat) (hd : decode cc pc = .ok (.ifCond .ge off, 3)) (ht : (pc : Int) + off = (tgt : Int)) (kt : 0 ≤ x → Wk g X nL tgt loc rest w) (kf : ¬ 0 ≤ x → Wk g X nL (pc + 3) loc rest w) : Wk g X nL pc loc (.int x :: rest) w := by
  obtain ⟨p, l, e, R, s, m, args, below, meth, c, Q, cells, slots⟩ := X
  obtain ⟨hx, hb, hml, hown, hts, hK, hg, hbs, hfr, hlo, hnw⟩ := C
  exact fun H locs ls hP hS hl => lv_if_ge hx hb hd ht (fun q => kt q H locs ls hP hS hl) (fun q => kf q H locs ls hP hS hl)

theorem k_if_gt (C : Cx g X cc nL own lvl) {x : Int32} {off : Int} (tgt : Nat) (hd : decode cc pc = .ok (.ifCond .gt off, 3)) (ht : (pc : Int) + off = (tgt : Int)) (kt : 0 < x → Wk g X nL tgt loc rest w) (kf : ¬ 0 < x → Wk g X nL (pc + 3) loc rest w) : Wk g X nL pc loc (.int x :: rest) w := by
  obtain ⟨p, l, e, R, s, m, args, below, meth, c, Q, cells, slots⟩ := X
  obtain ⟨hx, hb, hml, hown, hts, hK, hg, hbs, hfr, hlo, hnw⟩ := C
  exact fun H locs ls hP hS hl => lv_if_gt hx hb hd ht (fun q => kt q H locs ls hP hS hl) (fun q => kf q H locs ls hP hS hl)

theorem k_if_le (C : Cx g X cc nL own lvl) {x : Int32} {off : Int} (tgt : Nat) (hd : decode cc pc = .ok (.ifCond .le off, 3)) (ht : (pc : Int) + off = (tgt : Int)) (kt : x ≤ 0 → Wk g X nL tgt loc rest w) (kf : ¬ x ≤ 0 → Wk g X nL (pc + 3) loc rest w) : Wk g X nL pc loc (.int x :: rest) w := by
  obtain ⟨p, l, e, R, s, m, args, below, meth, c, Q, cells, slots⟩ := X
  obtain ⟨hx, hb, hml, hown, hts, hK, hg, hbs, hfr, hlo, hnw⟩ := C
  exact fun H locs ls hP hS hl => lv_if_le hx hb hd ht (fun q => kt q H locs ls hP hS hl) (fun q => kf q H locs ls hP hS hl)

theorem k_icmp_eq (C : Cx g X cc nL own lvl) {x y : Int32} {off : Int} (tgt : Nat) (hd : decode cc pc = .ok (.if_icmp .eq off, 3)) (ht : (pc : Int) + off = (tgt : Int)) (kt : x = y → Wk g X nL tgt loc rest w) (kf : ¬ x = y → Wk g X nL (pc + 3) loc rest w) : Wk g X nL pc loc (.int y :: .int x :: rest) w := by
  obtain ⟨p, l, e, R, s, m, args, below, meth, c, Q, cells, slots⟩ := X
  obtain ⟨hx, hb, hml, hown, hts, hK, hg, hbs, hfr, hlo, hnw⟩ := C
  exact fun H locs ls hP hS hl => lv_icmp_eq hx hb hd ht (fun q => kt q H locs ls hP hS hl) (fun q => kf q H locs ls hP hS hl)

theorem k_icmp_ne (C : Cx g X cc nL own lvl) {x y : Int32} {off : Int} (tgt : Nat) (hd : decode cc pc = .ok (.if_icmp .ne off, 3)) (ht : (pc : Int) + off = (tgt : Int)) (kt : ¬ x = y → Wk g X nL tgt loc rest w) (kf : x = y → Wk g X nL (pc + 3) loc rest w) : Wk g X nL pc loc (.int y :: .int x :: rest) w := by
  obtain ⟨p, l, e, R, s, m, args, below, meth, c, Q, cells, slots⟩ := X
  obtain ⟨hx, hb, hml, hown, hts, hK, hg, hbs, hfr, hlo, hnw⟩ := C
  exact fun H locs ls hP hS hl => lv_icmp_ne hx hb hd ht (fun q => kt q H locs ls hP hS hl) (fun q => kf q H locs ls hP hS hl)

theorem k_icmp_lt (C : Cx g X cc nL own lvl) {x y : Int32} {off : Int} (tgt : Nat) (hd : decode cc pc = .ok (.if_icmp .lt off, 3)) (ht : (pc : Int) + off = (tgt : Int)) (kt : x < y → Wk g X nL tgt loc rest w) (kf : ¬ x < y → Wk g X nL (pc + 3) loc rest w) : Wk g X nL pc loc (.int y :: .int x :: rest) w := by
  obtain ⟨p, l, e, R, s, m, args, below, meth, c, Q, cells, slots⟩ := X
  obtain ⟨hx, hb, hml, hown, hts, hK, hg, hbs, hfr, hlo, hnw⟩ := C
  exact fun H locs ls hP hS hl => lv_icmp_lt hx hb hd ht (fun q => kt q H locs ls hP hS hl) (fun q => kf q H locs ls hP hS hl)

theorem k_icmp_ge (C : Cx g X cc nL own lvl) {x y : Int32} {off : Int} (tgt : Nat) (hd : decode cc pc = .ok (.if_icmp .ge off, 3)) (ht : (pc : Int) + off = (tgt : Int)) (kt : y ≤ x → Wk g X nL tgt loc rest w) (kf : ¬ y ≤ x → Wk g X nL (pc + 3) loc rest w) : Wk g X nL pc loc (.int y :: .int x :: rest) w := by
  obtain ⟨p, l, e, R, s, m, args, below, meth, c, Q, cells, slots⟩ := X
  obtain ⟨hx, hb, hml, hown, hts, hK, hg, hbs, hfr, hlo, hnw⟩ := C
  exact fun H locs ls hP hS hl => lv_icmp_ge hx hb hd ht (fun q => kt q H locs ls hP hS hl) (fun q => kf q H locs ls hP hS hl)

theorem k_icmp_gt (C : Cx g X cc nL own lvl) {x y : Int32} {off : Int} (tgt : Nat) (hd : decode cc pc = .ok (.if_icmp .gt off, 3)) (ht : (pc : Int) + off = (tgt : Int)) (kt : y < x → Wk g X nL tgt loc rest w) (kf : ¬ y < x → Wk g X nL (pc + 3) loc rest w) : Wk g X nL pc loc (.int y :: .int x :: rest) w := by
  obtain ⟨p, l, e, R, s, m, args, below, meth, c, Q, cells, slots⟩ := X
  obtain ⟨hx, hb, hml, hown, hts, hK, hg, hbs, hfr, hlo, hnw⟩ := C
  exact fun H locs ls hP hS hl => lv_icmp_gt hx hb hd ht (fun q => kt q H locs ls hP hS hl) (fun q => kf q H locs ls hP hS hl)

theorem k_icmp_le (C : Cx g X cc nL own lvl) {x y : Int32} {off : Int} (tgt : Nat) (hd : decode cc pc = .ok (.if_icmp .le off, 3)) (ht : (pc : Int) + off = (tgt : Int)) (kt : x ≤ y → Wk g X nL tgt loc rest w) (kf : ¬ x ≤ y → Wk g X nL (pc + 3) loc rest w) : Wk g X nL pc loc (.int y :: .int x :: rest) w := by
  obtain ⟨p, l, e, R, s, m, args, below, meth, c, Q, cells, slots⟩ := X
  obtain ⟨hx, hb, hml, hown, hts, hK, hg, hbs, hfr, hlo, hnw⟩ := C
  exact fun H locs ls hP hS hl => lv_icmp_le hx hb hd ht (fun q => kt q H locs ls hP hS hl) (fun q => kf q H locs ls hP hS hl)

theorem k_goto (C : Cx g X cc nL own lvl) {off : Int} (tgt : Nat) (hd : decode cc pc = .ok (.goto off, 3)) (ht : (pc : Int) + off = (tgt : Int)) (h : Wk g X nL tgt loc rest w) : Wk g X nL pc loc (rest) w := by
  obtain ⟨p, l, e, R, s, m, args, below, meth, c, Q, cells, slots⟩ := X
  obtain ⟨hx, hb, hml, hown, hts, hK, hg, hbs, hfr, hlo, hnw⟩ := C
  exact fun H locs ls hP hS hl => lv_goto hx hb hd ht (h H locs ls hP hS hl)

theorem k_lookup (C : Cx g X cc nL own lvl) {dflt : Int} {ps : Array (Int × Int)} {len : Nat} {x : Int32} (off : Int) (tgt : Nat) (hd : decode cc pc = .ok (.lookupswitch dflt ps, len)) (hp : (ps.toList.zip (ps.toList.drop 1)).all (fun (a, next) => a.1 < next.1) = true) (ho : Op.lookupswitch.offset ps.toList dflt x.toInt = off) (ht : (pc : Int) + off = (tgt : Int)) (h : Wk g X nL tgt loc rest w) : Wk g X nL pc loc (.int x :: rest) w := by
  obtain ⟨p, l, e, R, s, m, args, below, meth, c, Q, cells, slots⟩ := X
  obtain ⟨hx, hb, hml, hown, hts, hK, hg, hbs, hfr, hlo, hnw⟩ := C
  exact fun H locs ls hP hS hl => lv_lookup hx hb hd hp ho ht (h H locs ls hP hS hl)

theorem k_tabin (C : Cx g X cc nL own lvl) {dflt lo hi : Int} {offs : Array Int} {len : Nat} {x : Int32} (off : Int) (tgt : Nat) (hd : decode cc pc = .ok (.tableswitch dflt lo hi offs, len)) (h1 : ¬ x.toInt < lo) (h2 : ¬ hi < x.toInt) (ho : offs[(x.toInt - lo).toNat]? = some off) (ht : (pc : Int) + off = (tgt : Int)) (h : Wk g X nL tgt loc rest w) : Wk g X nL pc loc (.int x :: rest) w := by
  obtain ⟨p, l, e, R, s, m, args, below, meth, c, Q, cells, slots⟩ := X
  obtain ⟨hx, hb, hml, hown, hts, hK, hg, hbs, hfr, hlo, hnw⟩ := C
  exact fun H locs ls hP hS hl => lv_tableIn hx hb hd h1 h2 ho ht (h H locs ls hP hS hl)

theorem k_tabout (C : Cx g X cc nL own lvl) {dflt lo hi : Int} {offs : Array Int} {len : Nat} {x : Int32} (tgt : Nat) (hd : decode cc pc = .ok (.tableswitch dflt lo hi offs, len)) (h1 : x.toInt < lo ∨ hi < x.toInt) (ht : (pc : Int) + dflt = (tgt : Int)) (h : Wk g X nL tgt loc rest w) : Wk g X nL pc loc (.int x :: rest) w := by
  obtain ⟨p, l, e, R, s, m, args, below, meth, c, Q, cells, slots⟩ := X
  obtain ⟨hx, hb, hml, hown, hts, hK, hg, hbs, hfr, hlo, hnw⟩ := C
  exact fun H locs ls hP hS hl => lv_tableOut hx hb hd h1 ht (h H locs ls hP hS hl)

theorem k_sub (ks : List Nat) (hl' : lv_pick loc ks = lv') (h : Wk g X nL pc lv' rest w) : Wk g X nL pc loc rest w := by
  obtain ⟨p, l, e, R, s, m, args, below, meth, c, Q, cells, slots⟩ := X
  exact fun H locs ls hP hS hl => h H locs ls hP hS (lv_sub hl ks hl')
theorem nti {x v : Int32} (h : ¬ x = v) : ¬ x.toInt = v.toInt := fun e => h (Int32.toInt_inj.mp e)

theorem k_get (C : Cx g X cc nL own lvl) {idx o ci k N : Nat} {Cn : String} {T : u_T} {fs : List Value} {v : Value} (hlink : Cond.fieldLink own idx Cn (T k).2.1 (T k).2.2.1 ∈ TW) (hdecl : (T k).1 = Cn) (hin : ∀ q ∈ u_ws Cn T N, q ∈ TW) (hc : vcls[ci]? = some (Cn, T, N)) (hk : k < N) (ho : o < 105) (he : shW g w o = .inr (ci, fs)) (hv : fs[k]? = some v) (hd : decode cc pc = .ok (.getfield idx, 3)) (h : Wk g X nL (pc + 3) loc (v :: rest) w) : Wk g X nL pc loc (.ref (g_a g o) :: rest) w := by
  obtain ⟨p, l, e, R, s, m, args, below, meth, c, Q, cells, slots⟩ := X
  obtain ⟨hx, hb, hml, hown, hts, hK, hg, hbs, hfr, hlo, hnw⟩ := C
  exact fun H locs ls hP hS hl => va_get hx hb hts hin hown hK hP o (by rw [wl_at ho, he]) hc k hk (hts _ hlink) (fun x hx1 => by rw [hdecl] at hx1; exact hx1) hv hd (h H locs ls hP hS hl)

theorem k_put (C : Cx g X cc nL own lvl) {idx o ci k N : Nat} {Cn : String} {T : u_T} {fs : List Value} {v : Value} {w' : WD} {ty : FieldType} (hlink : Cond.fieldLink own idx Cn (T k).2.1 (T k).2.2.1 ∈ TW) (hdecl : (T k).1 = Cn) (hin : ∀ q ∈ u_ws Cn T N, q ∈ TW) (ty0 : Nat → FieldType) (hty : ∀ k, k < N → parseFieldDescriptor (T k).2.2.1 = some (ty0 k)) (hnm : ∀ a, a < N → ∀ b, b < N → a ≠ b → (T a).2.1 ≠ (T b).2.1) (hc : vcls[ci]? = some (Cn, T, N)) (hk : k < N) (hfin : (T k).2.2.2 = false) (ht : parseFieldDescriptor (T k).2.2.1 = some ty) (hn : narrow ty v = v) (hfit : fits ty v = true) (hlen : k < fs.length) (ho : o < 105) (he : shW g w o = .inr (ci, fs)) (hw : shW g w' o = .inr (ci, fs.set k v)) (hoth : ∀ j, j ≠ o → shW g w' j = shW g w j) (hd : decode cc pc = .ok (.putfield idx, 3)) (h : Wk g X nL (pc + 3) loc rest w') : Wk g X nL pc loc (v :: .ref (g_a g o) :: rest) w := by
  obtain ⟨p, l, e, R, s, m, args, below, meth, c, Q, cells, slots⟩ := X
  obtain ⟨hx, hb, hml, hown, hts, hK, hg, hbs, hfr, hlo, hnw⟩ := C
  refine fun H locs ls hP hS hl => va_put hx hb hts hin ty0 hty hnm hown hK hP (hg.d w) hS o (by rw [wl_at ho, he]) hc k hk (hts _ hlink) (fun x hx1 => by rw [hdecl] at hx1; exact hx1) hfin ht hn hfit hlen hd (fun H1 locs1 hP1 hD1 hS1 => ?_)
  rw [wl_set ho hw hoth] at hP1
  exact h H1 locs1 ls hP1 hS1 hl

theorem k_getN (C : Cx g X cc nL own lvl) {idx o ci k N : Nat} {Cn : String} {T : u_T} {fs : List Value} {v : Value} {host : String} (hlink : Cond.fieldLinkNest own idx Cn (T k).2.1 (T k).2.2.1 host ∈ NW) (hdecl : (T k).1 = Cn) (hin : ∀ q ∈ u_ws Cn T N, q ∈ TW) (hc : vcls[ci]? = some (Cn, T, N)) (hk : k < N) (ho : o < 105) (he : shW g w o = .inr (ci, fs)) (hv : fs[k]? = some v) (hd : decode cc pc = .ok (.getfield idx, 3)) (h : Wk g X nL (pc + 3) loc (v :: rest) w) : Wk g X nL pc loc (.ref (g_a g o) :: rest) w := by
  obtain ⟨p, l, e, R, s, m, args, below, meth, c, Q, cells, slots⟩ := X
  obtain ⟨hx, hb, hml, hown, hts, hK, hg, hbs, hfr, hlo, hnw⟩ := C
  exact fun H locs ls hP hS hl => va_getN hx hb hts hin hown hK hP o (by rw [wl_at ho, he]) hc k hk (hnw.use hlink) (fun x hx1 => by rw [hdecl] at hx1; exact hx1) hv hd (h H locs ls hP hS hl)

theorem k_putN (C : Cx g X cc nL own lvl) {idx o ci k N : Nat} {Cn : String} {T : u_T} {fs : List Value} {v : Value} {host : String} {w' : WD} {ty : FieldType} (hlink : Cond.fieldLinkNest own idx Cn (T k).2.1 (T k).2.2.1 host ∈ NW) (hdecl : (T k).1 = Cn) (hin : ∀ q ∈ u_ws Cn T N, q ∈ TW) (ty0 : Nat → FieldType) (hty : ∀ k, k < N → parseFieldDescriptor (T k).2.2.1 = some (ty0 k)) (hnm : ∀ a, a < N → ∀ b, b < N → a ≠ b → (T a).2.1 ≠ (T b).2.1) (hc : vcls[ci]? = some (Cn, T, N)) (hk : k < N) (hfin : (T k).2.2.2 = false) (ht : parseFieldDescriptor (T k).2.2.1 = some ty) (hn : narrow ty v = v) (hfit : fits ty v = true) (hlen : k < fs.length) (ho : o < 105) (he : shW g w o = .inr (ci, fs)) (hw : shW g w' o = .inr (ci, fs.set k v)) (hoth : ∀ j, j ≠ o → shW g w' j = shW g w j) (hd : decode cc pc = .ok (.putfield idx, 3)) (h : Wk g X nL (pc + 3) loc rest w') : Wk g X nL pc loc (v :: .ref (g_a g o) :: rest) w := by
  obtain ⟨p, l, e, R, s, m, args, below, meth, c, Q, cells, slots⟩ := X
  obtain ⟨hx, hb, hml, hown, hts, hK, hg, hbs, hfr, hlo, hnw⟩ := C
  refine fun H locs ls hP hS hl => va_putN hx hb hts hin ty0 hty hnm hown hK hP (hg.d w) hS o (by rw [wl_at ho, he]) hc k hk (hnw.use hlink) (fun x hx1 => by rw [hdecl] at hx1; exact hx1) hfin ht hn hfit hlen hd (fun H1 locs1 hP1 hD1 hS1 => ?_)
  rw [wl_set ho hw hoth] at hP1
  exact h H1 locs1 ls hP1 hS1 hl

theorem k_iald (C : Cx g X cc nL own lvl) {o n : Nat} {f : Nat → Int32} {i : Int32} (ho : o < 105) (he : shW g w o = .inl (g_c g 0, n, .inl f)) (hi : vp_in i n) (hd : decode cc pc = .ok (.iaload, 1)) (h : Wk g X nL (pc + 1) loc (.int (f i.toNatClampNeg) :: rest) w) : Wk g X nL pc loc (.int i :: .ref (g_a g o) :: rest) w := by
  obtain ⟨p, l, e, R, s, m, args, below, meth, c, Q, cells, slots⟩ := X
  obtain ⟨hx, hb, hml, hown, hts, hK, hg, hbs, hfr, hlo, hnw⟩ := C
  exact fun H locs ls hP hS hl => va_iald hx hb hK hP o 0 (by rw [wl_at ho, he]) rfl hi hd (h H locs ls hP hS hl)

theorem k_lald (C : Cx g X cc nL own lvl) {o n : Nat} {f : Nat → Int64} {i : Int32} (ho : o < 105) (he : shW g w o = .inl (g_c g 1, n, .inr (.inl f))) (hi : vp_in i n) (hd : decode cc pc = .ok (.laload, 1)) (h : Wk g X nL (pc + 1) loc (.long (f i.toNatClampNeg) :: rest) w) : Wk g X nL pc loc (.int i :: .ref (g_a g o) :: rest) w := by
  obtain ⟨p, l, e, R, s, m, args, below, meth, c, Q, cells, slots⟩ := X
  obtain ⟨hx, hb, hml, hown, hts, hK, hg, hbs, hfr, hlo, hnw⟩ := C
  exact fun H locs ls hP hS hl => va_lald hx hb hK hP o 1 (by rw [wl_at ho, he]) rfl hi hd (h H locs ls hP hS hl)

theorem k_iast (C : Cx g X cc nL own lvl) {o n : Nat} {f : Nat → Int32} {i : Int32} {x : Int32} {w' : WD} (ho : o < 105) (he : shW g w o = .inl (g_c g 0, n, .inl f)) (hi : vp_in i n) (hw : shW g w' o = .inl (g_c g 0, n, .inl (upd f i.toNatClampNeg x))) (hoth : ∀ j, j ≠ o → shW g w' j = shW g w j) (hd : decode cc pc = .ok (.iastore, 1)) (h : Wk g X nL (pc + 1) loc rest w') : Wk g X nL pc loc (.int x :: .int i :: .ref (g_a g o) :: rest) w := by
  obtain ⟨p, l, e, R, s, m, args, below, meth, c, Q, cells, slots⟩ := X
  obtain ⟨hx, hb, hml, hown, hts, hK, hg, hbs, hfr, hlo, hnw⟩ := C
  refine fun H locs ls hP hS hl => va_iast hx hb hK hP (hg.d w) hS o 0 (by rw [wl_at ho, he]) rfl hi hd (fun H1 locs1 hP1 hD1 hS1 => ?_)
  rw [wl_set ho hw hoth] at hP1
  exact h H1 locs1 ls hP1 hS1 hl

theorem k_last (C : Cx g X cc nL own lvl) {o n : Nat} {f : Nat → Int64} {i : Int32} {x : Int64} {w' : WD} (ho : o < 105) (he : shW g w o = .inl (g_c g 1, n, .inr (.inl f))) (hi : vp_in i n) (hw : shW g w' o = .inl (g_c g 1, n, .inr (.inl (vp_updL f i.toNatClampNeg x)))) (hoth : ∀ j, j ≠ o → shW g w' j = shW g w j) (hd : decode cc pc = .ok (.lastore, 1)) (h : Wk g X nL (pc + 1) loc rest w') : Wk g X nL pc loc (.long x :: .int i :: .ref (g_a g o) :: rest) w := by
  obtain ⟨p, l, e, R, s, m, args, below, meth, c, Q, cells, slots⟩ := X
  obtain ⟨hx, hb, hml, hown, hts, hK, hg, hbs, hfr, hlo, hnw⟩ := C
  refine fun H locs ls hP hS hl => va_last hx hb hK hP (hg.d w) hS o 1 (by rw [wl_at ho, he]) rfl hi hd (fun H1 locs1 hP1 hD1 hS1 => ?_)
  rw [wl_set ho hw hoth] at hP1
  exact h H1 locs1 ls hP1 hS1 hl

theorem k_aald (C : Cx g X cc nL own lvl) {o n : Nat} {f : Nat → Nat} {i : Int32} {cA : ClassId} {Cn : String} (t0 : Nat) (ht0 : (gtys g)[t0]? = some (cA, .object Cn)) (ho : o < 105) (he : shW g w o = .inl (cA, n, rfs f)) (hi : vp_in i n) (hd : decode cc pc = .ok (.aaload, 1)) (h : Wk g X nL (pc + 1) loc (.ref (f i.toNatClampNeg) :: rest) w) : Wk g X nL pc loc (.int i :: .ref (g_a g o) :: rest) w := by
  obtain ⟨p, l, e, R, s, m, args, below, meth, c, Q, cells, slots⟩ := X
  obtain ⟨hx, hb, hml, hown, hts, hK, hg, hbs, hfr, hlo, hnw⟩ := C
  exact fun H locs ls hP hS hl => va_aldq (f := fun i => some (f i)) hx hb hK hP o t0 (by rw [wl_at ho, he]) ht0 hi hd (h H locs ls hP hS hl)

theorem k_mabs (C : Cx g X cc nL own lvl) {idx : Nat} {x : Int32} (hlink : Cond.methodLink own idx Lib.Math.abs.name ∈ TW) (hstat : Cond.static Lib.Math.abs.name ∈ TW) (hini : Cond.initialized "java/lang/Math" ∈ TW) (hcode : Cond.code Lib.Math.abs.name Lib.Math.abs.code 1 (some .int) ∈ TW) (hlv : Nat.ble 1 lvl = true) (hcs : Nat.ble (rest.map fun v => v.category).sum 20 = true) (hcell : X.2.2.2.2.2.2.2.2.2.2.2.1 ≤ X.2.2.2.1.cells ∧ X.2.2.2.2.2.2.2.2.2.2.2.2 ≤ X.2.2.2.1.slots) (hd : decode cc pc = .ok (.invokestatic idx, 3)) (h : Wk g X nL (pc + 3) loc (.int (x_abs x) :: rest) w) : Wk g X nL pc loc (.int x :: rest) w := by
  obtain ⟨p, l, e, R, s, m, args, below, meth, c, Q, cells, slots⟩ := X
  obtain ⟨hx, hb, hml, hown, hts, hK, hg, hbs, hfr, hlo, hnw⟩ := C
  exact fun H locs ls hP hS hl => va_mabs hx hb (hml.trans hl.1.symm) hown (hts _ hlink) (hts _ hstat) (hts _ hini) (hts _ hcode) (Nat.le_trans (Nat.le_of_ble_eq_true hlv) hfr) (by have h1 := Nat.le_of_ble_eq_true hlv; have h2 := Nat.le_of_ble_eq_true hcs; omega) hcell.1 hcell.2 hd (h H locs ls hP hS hl)

theorem k_mmin (C : Cx g X cc nL own lvl) {idx : Nat} {x y : Int32} (hlink : Cond.methodLink own idx Lib.Math.min.name ∈ TW) (hstat : Cond.static Lib.Math.min.name ∈ TW) (hini : Cond.initialized "java/lang/Math" ∈ TW) (hcode : Cond.code Lib.Math.min.name Lib.Math.min.code 2 (some .int) ∈ TW) (hlv : Nat.ble 1 lvl = true) (hcs : Nat.ble (rest.map fun v => v.category).sum 20 = true) (hcell : X.2.2.2.2.2.2.2.2.2.2.2.1 ≤ X.2.2.2.1.cells ∧ X.2.2.2.2.2.2.2.2.2.2.2.2 ≤ X.2.2.2.1.slots) (hd : decode cc pc = .ok (.invokestatic idx, 3)) (h : Wk g X nL (pc + 3) loc (.int (x_min x y) :: rest) w) : Wk g X nL pc loc (.int y :: .int x :: rest) w := by
  obtain ⟨p, l, e, R, s, m, args, below, meth, c, Q, cells, slots⟩ := X
  obtain ⟨hx, hb, hml, hown, hts, hK, hg, hbs, hfr, hlo, hnw⟩ := C
  exact fun H locs ls hP hS hl => va_mmin hx hb (hml.trans hl.1.symm) hown (hts _ hlink) (hts _ hstat) (hts _ hini) (hts _ hcode) (Nat.le_trans (Nat.le_of_ble_eq_true hlv) hfr) (by have h1 := Nat.le_of_ble_eq_true hlv; have h2 := Nat.le_of_ble_eq_true hcs; omega) hcell.1 hcell.2 hd (h H locs ls hP hS hl)

theorem k_mmax (C : Cx g X cc nL own lvl) {idx : Nat} {x y : Int32} (hlink : Cond.methodLink own idx Lib.Math.max.name ∈ TW) (hstat : Cond.static Lib.Math.max.name ∈ TW) (hini : Cond.initialized "java/lang/Math" ∈ TW) (hcode : Cond.code Lib.Math.max.name Lib.Math.max.code 2 (some .int) ∈ TW) (hlv : Nat.ble 1 lvl = true) (hcs : Nat.ble (rest.map fun v => v.category).sum 20 = true) (hcell : X.2.2.2.2.2.2.2.2.2.2.2.1 ≤ X.2.2.2.1.cells ∧ X.2.2.2.2.2.2.2.2.2.2.2.2 ≤ X.2.2.2.1.slots) (hd : decode cc pc = .ok (.invokestatic idx, 3)) (h : Wk g X nL (pc + 3) loc (.int (x_max x y) :: rest) w) : Wk g X nL pc loc (.int y :: .int x :: rest) w := by
  obtain ⟨p, l, e, R, s, m, args, below, meth, c, Q, cells, slots⟩ := X
  obtain ⟨hx, hb, hml, hown, hts, hK, hg, hbs, hfr, hlo, hnw⟩ := C
  exact fun H locs ls hP hS hl => va_mmax hx hb (hml.trans hl.1.symm) hown (hts _ hlink) (hts _ hstat) (hts _ hini) (hts _ hcode) (Nat.le_trans (Nat.le_of_ble_eq_true hlv) hfr) (by have h1 := Nat.le_of_ble_eq_true hlv; have h2 := Nat.le_of_ble_eq_true hcs; omega) hcell.1 hcell.2 hd (h H locs ls hP hS hl)

end MR

/-- where a walk goes: this answer, this world -/
def RtI (g : GC) (X : MX) (ret : Option FieldType) (r : Int32) (w : WD) : Prop := match X with
  | (_, _, _, R, s, _, args, below, meth, _, Q, cells, slots) => Q = MQ below (va_Qi (fun (r2 : Int32) (_ : Unit) => r2 = r) (fun _ t => Wat g w t) (AB g)) args s cells slots (AB g) ∧ meth.sig.returnType = ret ∧ meth.locks = false ∧ cells ≤ R.cells ∧ slots ≤ R.slots
def RtL (g : GC) (X : MX) (ret : Option FieldType) (r : Int64) (w : WD) : Prop := match X with
  | (_, _, _, R, s, _, args, below, meth, _, Q, cells, slots) => Q = MQ below (va_Ql (fun (r2 : Int64) (_ : Unit) => r2 = r) (fun _ t => Wat g w t) (AB g)) args s cells slots (AB g) ∧ meth.sig.returnType = ret ∧ meth.locks = false ∧ cells ≤ R.cells ∧ slots ≤ R.slots
def RtV (g : GC) (X : MX) (ret : Option FieldType) (w : WD) : Prop := match X with
  | (_, _, _, R, s, _, args, below, meth, _, Q, cells, slots) => Q = MQ below (va_Qv (fun (_ : Unit) => True) (fun _ t => Wat g w t) (AB g)) args s cells slots (AB g) ∧ meth.sig.returnType = ret ∧ meth.locks = false ∧ cells ≤ R.cells ∧ slots ≤ R.slots
section RT
variable {g : GC} {X : MX} {cc : ByteArray} {nL : Nat} {own : String} {lvl : Nat} {pc : Nat} {loc : List (Nat × Value)} {rest : List Value} {w : WD}

theorem k_iret (C : Cx g X cc nL own lvl) {r : Int32} (q : RtI g X (some .int) r w) (hd : decode cc pc = .ok (.ireturn, 1)) : Wk g X nL pc loc [.int r] w := by
  obtain ⟨p, l, e, R, s, m, args, below, meth, c, Q, cells, slots⟩ := X
  obtain ⟨hx, hb, hml, hown, hts, hK, hg, hbs, hfr, hlo, hnw⟩ := C
  obtain ⟨rfl, hr, hlk, hce, hsl⟩ := q
  exact fun H locs ls hP hS hl => W.iret hx hb hr (fun t ht hW => ⟨⟨r, (), rfl, rfl, ⟨by rw [ht]; exact hP, va_K.moved hW.alike hK, by rw [ht]; exact Nat.le_trans hbs hS.1⟩⟩, hS.F ht⟩) hS.2.2 hd hlk

theorem k_zret (C : Cx g X cc nL own lvl) {r : Int32} (q : RtI g X (some .boolean) r w) (hz : r = 0 ∨ r = 1) (hd : decode cc pc = .ok (.ireturn, 1)) : Wk g X nL pc loc [.int r] w := by
  obtain ⟨p, l, e, R, s, m, args, below, meth, c, Q, cells, slots⟩ := X
  obtain ⟨hx, hb, hml, hown, hts, hK, hg, hbs, hfr, hlo, hnw⟩ := C
  obtain ⟨rfl, hr, hlk, hce, hsl⟩ := q
  exact fun H locs ls hP hS hl => W.zret hx hb hr (by rcases hz with rfl | rfl <;> rfl) (fun t ht hW => ⟨⟨r, (), rfl, rfl, ⟨by rw [ht]; exact hP, va_K.moved hW.alike hK, by rw [ht]; exact Nat.le_trans hbs hS.1⟩⟩, hS.F ht⟩) hS.2.2 hd hlk

theorem k_lret (C : Cx g X cc nL own lvl) {r : Int64} (q : RtL g X (some .long) r w) (hd : decode cc pc = .ok (.lreturn, 1)) : Wk g X nL pc loc [.long r] w := by
  obtain ⟨p, l, e, R, s, m, args, below, meth, c, Q, cells, slots⟩ := X
  obtain ⟨hx, hb, hml, hown, hts, hK, hg, hbs, hfr, hlo, hnw⟩ := C
  obtain ⟨rfl, hr, hlk, hce, hsl⟩ := q
  exact fun H locs ls hP hS hl => W.lret hx hb hr (fun t ht hW => ⟨⟨r, (), rfl, rfl, ⟨by rw [ht]; exact hP, va_K.moved hW.alike hK, by rw [ht]; exact Nat.le_trans hbs hS.1⟩⟩, hS.F ht⟩) hS.2.2 hd hlk

theorem k_vret (C : Cx g X cc nL own lvl) (q : RtV g X none w) (hd : decode cc pc = .ok (.return_, 1)) : Wk g X nL pc loc [] w := by
  obtain ⟨p, l, e, R, s, m, args, below, meth, c, Q, cells, slots⟩ := X
  obtain ⟨hx, hb, hml, hown, hts, hK, hg, hbs, hfr, hlo, hnw⟩ := C
  obtain ⟨rfl, hr, hlk, hce, hsl⟩ := q
  exact fun H locs ls hP hS hl => W.vret hx hb hr (fun t ht hW => ⟨⟨(), rfl, trivial, ⟨by rw [ht]; exact hP, va_K.moved hW.alike hK, by rw [ht]; exact Nat.le_trans hbs hS.1⟩⟩, hS.F ht⟩) hS.2.2 hd hlk

theorem rtI_c {ret : Option FieldType} {r : Int32} (q : RtI g X ret r w) : X.2.2.2.2.2.2.2.2.2.2.2.1 ≤ X.2.2.2.1.cells ∧ X.2.2.2.2.2.2.2.2.2.2.2.2 ≤ X.2.2.2.1.slots := by
  obtain ⟨p, l, e, R, s, m, args, below, meth, c, Q, cells, slots⟩ := X
  exact q.2.2.2
theorem rtL_c {ret : Option FieldType} {r : Int64} (q : RtL g X ret r w) : X.2.2.2.2.2.2.2.2.2.2.2.1 ≤ X.2.2.2.1.cells ∧ X.2.2.2.2.2.2.2.2.2.2.2.2 ≤ X.2.2.2.1.slots := by
  obtain ⟨p, l, e, R, s, m, args, below, meth, c, Q, cells, slots⟩ := X
  exact q.2.2.2
theorem rtV_c {ret : Option FieldType} (q : RtV g X ret w) : X.2.2.2.2.2.2.2.2.2.2.2.1 ≤ X.2.2.2.1.cells ∧ X.2.2.2.2.2.2.2.2.2.2.2.2 ≤ X.2.2.2.1.slots := by
  obtain ⟨p, l, e, R, s, m, args, below, meth, c, Q, cells, slots⟩ := X
  exact q.2.2.2
end RT
section ME
variable {g : GC} {l : Launch} {y : MethodName} {cc : ByteArray} {nL : Nat} {ret : Option FieldType} {lvl : Nat} {av : List Value} {w w' : WD}

theorem m_i (hg : gOk g) {r : Int32} (hy : plainName y.cls = true) (hn : Nat.ble (lg_sl av).length nL = true) (body : ∀ (X : MX), RtI g X ret r w' → Cx g X cc nL y.cls lvl → Wk g X nL 0 (lv_args 0 av) [] w) : Mi g l y cc nL ret lvl av w r w' := by
  refine m_entry hg hy (Nat.le_of_ble_eq_true hn) fun X h1 h2 h3 h4 C => ?_
  obtain ⟨p, l, e, R, s, m, args, below, meth, c, Q, cells, slots⟩ := X
  cases h4
  exact body _ ⟨h1, h2, h3, Nat.zero_le _, Nat.zero_le _⟩ C

theorem m_l (hg : gOk g) {r : Int64} (hy : plainName y.cls = true) (hn : Nat.ble (lg_sl av).length nL = true) (body : ∀ (X : MX), RtL g X ret r w' → Cx g X cc nL y.cls lvl → Wk g X nL 0 (lv_args 0 av) [] w) : Ml g l y cc nL ret lvl av w r w' := by
  refine m_entry hg hy (Nat.le_of_ble_eq_true hn) fun X h1 h2 h3 h4 C => ?_
  obtain ⟨p, l, e, R, s, m, args, below, meth, c, Q, cells, slots⟩ := X
  cases h4
  exact body _ ⟨h1, h2, h3, Nat.zero_le _, Nat.zero_le _⟩ C

theorem m_v (hg : gOk g) (hy : plainName y.cls = true) (hn : Nat.ble (lg_sl av).length nL = true) (body : ∀ (X : MX), RtV g X ret w' → Cx g X cc nL y.cls lvl → Wk g X nL 0 (lv_args 0 av) [] w) : Mv g l y cc nL ret lvl av w w' := by
  refine m_entry hg hy (Nat.le_of_ble_eq_true hn) fun X h1 h2 h3 h4 C => ?_
  obtain ⟨p, l, e, R, s, m, args, below, meth, c, Q, cells, slots⟩ := X
  cases h4
  exact body _ ⟨h1, h2, h3, Nat.zero_le _, Nat.zero_le _⟩ C

end ME

section CL
/-- what a call's tables say: providers of the kit's call words -/
def LkS (own : String) (idx : Nat) (y : MethodName) (cc : ByteArray) (nL : Nat) (ret : Option FieldType) (n : Nat) : Prop := ∀ (R : Room) (s : State) (args : Array Value) (lv : Nat), (∀ w ∈ TW, w.before args s = true) → (rmd lv).frames + 1 ≤ R.frames ∧ 8 + (nL + 11) + (rmd lv).locals ≤ R.locals → CallB R s args own idx y cc nL ret (.code y cc nL ret :: TW) (rmd lv) 0 0 n ∧ (Cond.static y).before args s = true
def LkT (own : String) (idx : Nat) (y : MethodName) (host : String) (cc : ByteArray) (nL : Nat) (ret : Option FieldType) (n : Nat) : Prop := ∀ (R : Room) (s : State) (args : Array Value) (lv : Nat), (∀ w ∈ TW, w.before args s = true) → NWs s → (rmd lv).frames + 1 ≤ R.frames ∧ 8 + (nL + 11) + (rmd lv).locals ≤ R.locals → va_CN R s args own idx y host cc nL ret (.code y cc nL ret :: TW) (rmd lv) 0 0 n ∧ (Cond.static y).before args s = true ∧ True
def LkV (own C : String) (idx : Nat) (y : MethodName) (cc : ByteArray) (nL : Nat) (ret : Option FieldType) (n : Nat) : Prop := ∀ (R : Room) (s : State) (args : Array Value) (lv : Nat), (∀ w ∈ TW, w.before args s = true) → (rmd lv).frames + 1 ≤ R.frames ∧ 8 + (nL + 11) + (rmd lv).locals ≤ R.locals → CallW R s args own C idx y cc nL ret (.code y cc nL ret :: TW) (rmd lv) 0 0 n
def LkU (own C owner : String) (idx : Nat) (x y : MethodName) (cc : ByteArray) (nL : Nat) (ret : Option FieldType) (n : Nat) : Prop := ∀ (R : Room) (s : State) (args : Array Value) (lv : Nat), (∀ w ∈ TW, w.before args s = true) → (rmd lv).frames + 1 ≤ R.frames ∧ 8 + (nL + 11) + (rmd lv).locals ≤ R.locals → va_CU R s args own C owner idx x y cc nL ret (.code y cc nL ret :: TW) (rmd lv) 0 0 n
def LkP (own : String) (idx : Nat) (y : MethodName) (cc : ByteArray) (nL : Nat) (ret : Option FieldType) (n : Nat) : Prop := ∀ (R : Room) (s : State) (args : Array Value) (lv : Nat), (∀ w ∈ TW, w.before args s = true) → (rmd lv).frames + 1 ≤ R.frames ∧ 8 + (nL + 11) + (rmd lv).locals ≤ R.locals → va_CS R s args own idx y cc nL ret (.code y cc nL ret :: TW) (rmd lv) 0 0 n
theorem tw_gi {b : Cond} {ex : List Cond} (hb : b ∈ TW) (he : ∀ w ∈ ex, w ∈ TW) : GoodIn TW (ex ++ b :: TW) := tw_in0 hb he
theorem lkS {own : String} {idx : Nat} {y : MethodName} {cc : ByteArray} {nL : Nat} {ret : Option FieldType} (n : Nat) (h1 : Cond.methodLink own idx y ∈ TW) (h2 : Cond.static y ∈ TW) (h3 : Cond.initialized y.cls ∈ TW) (h4 : Cond.code y cc nL ret ∈ TW) (hd : y.cls ≠ "java/lang/invoke/MethodHandle" ∧ y.cls ≠ "java/lang/invoke/VarHandle" ∧ (parseMethodDescriptor y.desc).map (fun d => d.parameters.length) = some n) : LkS own idx y cc nL ret n := fun R s args lv ht hR => ⟨callB_of n ht (tw_gi (ex := []) h4 (by simp)) rfl rfl rfl (ht _ h3) (ht _ h1) hd hR, ht _ h2⟩
theorem lkT {own host : String} {idx : Nat} {y : MethodName} {cc : ByteArray} {nL : Nat} {ret : Option FieldType} (n : Nat) (h1 : Cond.methodLinkNest own idx y host ∈ NW) (h2 : Cond.static y ∈ TW) (h3 : Cond.initialized y.cls ∈ TW) (h4 : Cond.code y cc nL ret ∈ TW) (hd : y.cls ≠ "java/lang/invoke/MethodHandle" ∧ y.cls ≠ "java/lang/invoke/VarHandle" ∧ (parseMethodDescriptor y.desc).map (fun d => d.parameters.length) = some n) : LkT own idx y host cc nL ret n := fun R s args lv ht hnw hR => ⟨va_cnB n ht (tw_gi (ex := []) h4 (by simp)) rfl rfl rfl (hnw _ h1) (ht _ h3) hd hR, ht _ h2, trivial⟩
theorem lkV {own C : String} {idx : Nat} {y : MethodName} {cc : ByteArray} {nL : Nat} {ret : Option FieldType} (n : Nat) (h1 : Cond.methodLink own idx y ∈ TW) (h2 : Cond.instanceMethod y ∈ TW) (h3 : Cond.selects C y y ∈ TW) (h5 : Cond.initialized C ∈ TW) (h4 : Cond.code y cc nL ret ∈ TW) (hd : y.cls = C ∧ y.cls ≠ "java/lang/invoke/MethodHandle" ∧ y.cls ≠ "java/lang/invoke/VarHandle" ∧ (parseMethodDescriptor y.desc).map (fun d => d.parameters.length) = some n) : LkV own C idx y cc nL ret n := fun R s args lv ht hR => cwV n ht (tw_gi h4 (by simp [h1, h2, h3, h5])) rfl rfl rfl hd hR
theorem lkU {own C owner : String} {idx : Nat} {x y : MethodName} {cc : ByteArray} {nL : Nat} {ret : Option FieldType} (n : Nat) (h1 : Cond.methodLink own idx x ∈ TW) (h6 : Cond.sameMethod x.cls owner x.name x.desc ∈ TW) (h3 : Cond.selects C x y ∈ TW) (h2 : Cond.instanceMethod y ∈ TW) (h5 : Cond.initialized y.cls ∈ TW) (h4 : Cond.code y cc nL ret ∈ TW) (hyx : y = ⟨owner, x.name, x.desc⟩) (hd : owner ≠ "java/lang/invoke/MethodHandle" ∧ owner ≠ "java/lang/invoke/VarHandle" ∧ (parseMethodDescriptor x.desc).map (fun d => d.parameters.length) = some n) : LkU own C owner idx x y cc nL ret n := fun R s args lv ht hR => va_cwU n ht (tw_gi h4 (by simp [h1, h2, h3, h5, h6])) rfl rfl rfl hyx hd hR
theorem lkO {own C owner : String} {idx : Nat} {x y : MethodName} {cc : ByteArray} {nL : Nat} {ret : Option FieldType} (n : Nat) (h1 : Cond.methodLink own idx x ∈ TW) (h6 : Cond.sameMethod x.cls owner x.name x.desc ∈ TW) (h7 : Cond.instanceMethod ⟨owner, x.name, x.desc⟩ ∈ TW) (h3 : Cond.selects C x y ∈ TW) (h2 : Cond.instanceMethod y ∈ TW) (h5 : Cond.initialized y.cls ∈ TW) (h4 : Cond.code y cc nL ret ∈ TW) {b0 : ByteArray} {m0 : Nat} {r0 : Option FieldType} (h0 : Cond.code ⟨owner, x.name, x.desc⟩ b0 m0 r0 ∈ TW) (hd : owner ≠ "java/lang/invoke/MethodHandle" ∧ owner ≠ "java/lang/invoke/VarHandle" ∧ (parseMethodDescriptor x.desc).map (fun d => d.parameters.length) = some n) : LkU own C owner idx x y cc nL ret n := fun R s args lv ht hR => va_cwO n ht (tw_gi h4 (by simp [h1, h2, h3, h5, h6, h7])) rfl rfl rfl h0 hd hR
theorem lkP {own : String} {idx : Nat} {y : MethodName} {cc : ByteArray} {nL : Nat} {ret : Option FieldType} (n : Nat) (h1 : Cond.methodLink own idx y ∈ TW) (h6 : Cond.sameMethod y.cls y.cls y.name y.desc ∈ TW) (h7 : Cond.superclass own y.cls ∈ TW) (h2 : Cond.instanceMethod y ∈ TW) (h5 : Cond.initialized y.cls ∈ TW) (h4 : Cond.code y cc nL ret ∈ TW) (hd : y.name ≠ "<init>" ∧ (parseMethodDescriptor y.desc).map (fun d => d.parameters.length) = some n) : LkP own idx y cc nL ret n := fun R s args lv ht hR => va_cwSU n ht (tw_gi h4 (by simp [h1, h2, h5, h6, h7])) rfl rfl rfl hd hR
variable {g : GC} {X : MX} {cc cc2 : ByteArray} {nL nL2 n idx lv2 : Nat} {own : String} {lvl : Nat} {pc : Nat} {loc : List (Nat × Value)} {rest st As : List Value} {w w' : WD} {y : MethodName} {ret2 : Option FieldType}
theorem lv_need {R : Room} (h1 : Nat.ble (lv2 + 1) lvl = true) (h2 : Nat.ble nL2 21 = true) (hfr : lvl ≤ R.frames) (hlo : 40 * lvl ≤ R.locals) : (rmd lv2).frames + 1 ≤ R.frames ∧ 8 + (nL2 + 11) + (rmd lv2).locals ≤ R.locals := by
  have a := Nat.le_of_ble_eq_true h1
  have b := Nat.le_of_ble_eq_true h2
  refine ⟨Nat.le_trans a hfr, ?_⟩
  show 8 + (nL2 + 11) + 40 * lv2 ≤ R.locals
  omega

theorem k_callSi (C : Cx g X cc nL own lvl)  {r : Int32} (lk : LkS own idx y cc2 nL2 ret2 n) (hM : ∀ l, Mi g l y cc2 nL2 ret2 lv2 (As) w r w') (hlv : Nat.ble (lv2 + 1) lvl = true) (hnl : Nat.ble nL2 21 = true) (hcell : X.2.2.2.2.2.2.2.2.2.2.2.1 ≤ X.2.2.2.1.cells ∧ X.2.2.2.2.2.2.2.2.2.2.2.2 ≤ X.2.2.2.1.slots) (hst : st = As.reverse ++ rest) (hn : As.length = n) (hcat : Nat.ble (rest.map fun v => v.category).sum 8 = true) (hd : decode cc pc = .ok (.invokestatic idx, 3)) (h : Wk g X nL (pc + 3) loc (.int r :: rest) w') : Wk g X nL pc loc st w := by
  obtain ⟨p, l, e, R, s, m, args, below, meth, c, Q, cells, slots⟩ := X
  obtain ⟨hx, hb, hml, hown, hts, hK, hg, hbs, hfr, hlo, hnw⟩ := C
  subst hst
  refine fun H locs ls hP hS hl => va_calli (va_runS (As := As) (rest := rest) ⟨hx, hb, hml, hown, hts⟩ (hM l) (lk R s args lv2 hts (lv_need hlv hnl hfr hlo)) ⟨wat_blind, fun U hU hW => ⟨rfl, ⟨by rw [hU]; exact hP, va_K.moved hW.alike hK, by rw [hU]; exact Nat.le_trans hbs hS.1⟩, hnw.warm hW⟩⟩ rfl hn hl.1 rfl (lv_room (Nat.le_of_ble_eq_true hcat)) hd hcell) hS (fun _ _ h => h) (fun _ h => h) (fun r1 _ t H1 locs1 ht hvm hw hB hz1 hk1 hS1 => ?_)
  cases hw
  obtain ⟨hB1, -, -⟩ := hB
  rw [ht] at hB1
  exact h H1 locs1 ls hB1 hS1 hl

theorem k_callTi (C : Cx g X cc nL own lvl)  {r : Int32} {host : String} (lk : LkT own idx y host cc2 nL2 ret2 n) (hM : ∀ l, Mi g l y cc2 nL2 ret2 lv2 (As) w r w') (hlv : Nat.ble (lv2 + 1) lvl = true) (hnl : Nat.ble nL2 21 = true) (hcell : X.2.2.2.2.2.2.2.2.2.2.2.1 ≤ X.2.2.2.1.cells ∧ X.2.2.2.2.2.2.2.2.2.2.2.2 ≤ X.2.2.2.1.slots) (hst : st = As.reverse ++ rest) (hn : As.length = n) (hcat : Nat.ble (rest.map fun v => v.category).sum 8 = true) (hd : decode cc pc = .ok (.invokestatic idx, 3)) (h : Wk g X nL (pc + 3) loc (.int r :: rest) w') : Wk g X nL pc loc st w := by
  obtain ⟨p, l, e, R, s, m, args, below, meth, c, Q, cells, slots⟩ := X
  obtain ⟨hx, hb, hml, hown, hts, hK, hg, hbs, hfr, hlo, hnw⟩ := C
  subst hst
  refine fun H locs ls hP hS hl => va_calli (va_runSN (As := As) (rest := rest) ⟨hx, hb, hml, hown, hts⟩ (hM l) (lk R s args lv2 hts hnw (lv_need hlv hnl hfr hlo)) ⟨wat_blind, fun U hU hW => ⟨rfl, ⟨by rw [hU]; exact hP, va_K.moved hW.alike hK, by rw [hU]; exact Nat.le_trans hbs hS.1⟩, hnw.warm hW⟩⟩ rfl hn hl.1 rfl (lv_room (Nat.le_of_ble_eq_true hcat)) hd hcell) hS (fun _ _ h => h) (fun _ h => h) (fun r1 _ t H1 locs1 ht hvm hw hB hz1 hk1 hS1 => ?_)
  cases hw
  obtain ⟨hB1, -, -⟩ := hB
  rw [ht] at hB1
  exact h H1 locs1 ls hB1 hS1 hl

theorem k_callVi (C : Cx g X cc nL own lvl) {o ci N : Nat} {T : u_T} {fs : List Value}  {r : Int32} {Cn : String} (lk : LkV own Cn idx y cc2 nL2 ret2 n) (hM : ∀ l, Mi g l y cc2 nL2 ret2 lv2 (.ref (g_a g o) :: As) w r w') (hlv : Nat.ble (lv2 + 1) lvl = true) (hnl : Nat.ble nL2 21 = true) (hcell : X.2.2.2.2.2.2.2.2.2.2.2.1 ≤ X.2.2.2.1.cells ∧ X.2.2.2.2.2.2.2.2.2.2.2.2 ≤ X.2.2.2.1.slots) (ho : o < 105) (he : shW g w o = .inr (ci, fs)) (hc : vcls[ci]? = some (Cn, T, N)) (hst : st = As.reverse ++ .ref (g_a g o) :: rest) (hn : As.length = n) (hcat : Nat.ble (rest.map fun v => v.category).sum 8 = true) (hd : decode cc pc = .ok (.invokevirtual idx, 3)) (h : Wk g X nL (pc + 3) loc (.int r :: rest) w') : Wk g X nL pc loc st w := by
  obtain ⟨p, l, e, R, s, m, args, below, meth, c, Q, cells, slots⟩ := X
  obtain ⟨hx, hb, hml, hown, hts, hK, hg, hbs, hfr, hlo, hnw⟩ := C
  subst hst
  refine fun H locs ls hP hS hl => va_calli (va_runV (As := As) (rest := rest) ⟨hx, hb, hml, hown, hts⟩ (hM l) (lk R s args lv2 hts (lv_need hlv hnl hfr hlo)) ⟨wat_blind, va_recv (q := (Cn, T, N)) hK hP hc (q0 := o) (by rw [wl_at ho, he]), fun U hU hW => ⟨rfl, ⟨by rw [hU]; exact hP, va_K.moved hW.alike hK, by rw [hU]; exact Nat.le_trans hbs hS.1⟩, hnw.warm hW⟩⟩ rfl hn hl.1 rfl (lv_room (Nat.le_of_ble_eq_true hcat)) hd hcell) hS (fun _ _ h => h) (fun _ h => h) (fun r1 _ t H1 locs1 ht hvm hw hB hz1 hk1 hS1 => ?_)
  cases hw
  obtain ⟨hB1, -, -⟩ := hB
  rw [ht] at hB1
  exact h H1 locs1 ls hB1 hS1 hl

theorem k_callUi (C : Cx g X cc nL own lvl) {o ci N : Nat} {T : u_T} {fs : List Value}  {r : Int32} {Cn owner : String} {x : MethodName} (lk : LkU own Cn owner idx x y cc2 nL2 ret2 n) (hM : ∀ l, Mi g l y cc2 nL2 ret2 lv2 (.ref (g_a g o) :: As) w r w') (hlv : Nat.ble (lv2 + 1) lvl = true) (hnl : Nat.ble nL2 21 = true) (hcell : X.2.2.2.2.2.2.2.2.2.2.2.1 ≤ X.2.2.2.1.cells ∧ X.2.2.2.2.2.2.2.2.2.2.2.2 ≤ X.2.2.2.1.slots) (ho : o < 105) (he : shW g w o = .inr (ci, fs)) (hc : vcls[ci]? = some (Cn, T, N)) (hst : st = As.reverse ++ .ref (g_a g o) :: rest) (hn : As.length = n) (hcat : Nat.ble (rest.map fun v => v.category).sum 8 = true) (hd : decode cc pc = .ok (.invokevirtual idx, 3)) (h : Wk g X nL (pc + 3) loc (.int r :: rest) w') : Wk g X nL pc loc st w := by
  obtain ⟨p, l, e, R, s, m, args, below, meth, c, Q, cells, slots⟩ := X
  obtain ⟨hx, hb, hml, hown, hts, hK, hg, hbs, hfr, hlo, hnw⟩ := C
  subst hst
  refine fun H locs ls hP hS hl => va_calli (va_runU (As := As) (rest := rest) ⟨hx, hb, hml, hown, hts⟩ (hM l) (lk R s args lv2 hts (lv_need hlv hnl hfr hlo)) ⟨wat_blind, va_recv (q := (Cn, T, N)) hK hP hc (q0 := o) (by rw [wl_at ho, he]), fun U hU hW => ⟨rfl, ⟨by rw [hU]; exact hP, va_K.moved hW.alike hK, by rw [hU]; exact Nat.le_trans hbs hS.1⟩, hnw.warm hW⟩⟩ rfl hn hl.1 rfl (lv_room (Nat.le_of_ble_eq_true hcat)) hd hcell) hS (fun _ _ h => h) (fun _ h => h) (fun r1 _ t H1 locs1 ht hvm hw hB hz1 hk1 hS1 => ?_)
  cases hw
  obtain ⟨hB1, -, -⟩ := hB
  rw [ht] at hB1
  exact h H1 locs1 ls hB1 hS1 hl

theorem k_callPi (C : Cx g X cc nL own lvl) {o ci N : Nat} {T : u_T} {fs : List Value}  {r : Int32} {Cn : String} (lk : LkP own idx y cc2 nL2 ret2 n) (hM : ∀ l, Mi g l y cc2 nL2 ret2 lv2 (.ref (g_a g o) :: As) w r w') (hlv : Nat.ble (lv2 + 1) lvl = true) (hnl : Nat.ble nL2 21 = true) (hcell : X.2.2.2.2.2.2.2.2.2.2.2.1 ≤ X.2.2.2.1.cells ∧ X.2.2.2.2.2.2.2.2.2.2.2.2 ≤ X.2.2.2.1.slots) (ho : o < 105) (he : shW g w o = .inr (ci, fs)) (hc : vcls[ci]? = some (Cn, T, N)) (hst : st = As.reverse ++ .ref (g_a g o) :: rest) (hn : As.length = n) (hcat : Nat.ble (rest.map fun v => v.category).sum 8 = true) (hd : decode cc pc = .ok (.invokespecial idx, 3)) (h : Wk g X nL (pc + 3) loc (.int r :: rest) w') : Wk g X nL pc loc st w := by
  obtain ⟨p, l, e, R, s, m, args, below, meth, c, Q, cells, slots⟩ := X
  obtain ⟨hx, hb, hml, hown, hts, hK, hg, hbs, hfr, hlo, hnw⟩ := C
  subst hst
  refine fun H locs ls hP hS hl => va_calli (va_runSU (As := As) (rest := rest) (hK.1 ci _ hc).2 ⟨hx, hb, hml, hown, hts⟩ (hM l) (lk R s args lv2 hts (lv_need hlv hnl hfr hlo)) ⟨wat_blind, va_recv (q := (Cn, T, N)) hK hP hc (q0 := o) (by rw [wl_at ho, he]), fun U hU hW => ⟨rfl, ⟨by rw [hU]; exact hP, va_K.moved hW.alike hK, by rw [hU]; exact Nat.le_trans hbs hS.1⟩, hnw.warm hW⟩⟩ rfl hn hl.1 rfl (lv_room (Nat.le_of_ble_eq_true hcat)) hd hcell) hS (fun _ _ h => h) (fun _ h => h) (fun r1 _ t H1 locs1 ht hvm hw hB hz1 hk1 hS1 => ?_)
  cases hw
  obtain ⟨hB1, -, -⟩ := hB
  rw [ht] at hB1
  exact h H1 locs1 ls hB1 hS1 hl

theorem k_callSl (C : Cx g X cc nL own lvl)  {r : Int64} (lk : LkS own idx y cc2 nL2 ret2 n) (hM : ∀ l, Ml g l y cc2 nL2 ret2 lv2 (As) w r w') (hlv : Nat.ble (lv2 + 1) lvl = true) (hnl : Nat.ble nL2 21 = true) (hcell : X.2.2.2.2.2.2.2.2.2.2.2.1 ≤ X.2.2.2.1.cells ∧ X.2.2.2.2.2.2.2.2.2.2.2.2 ≤ X.2.2.2.1.slots) (hst : st = As.reverse ++ rest) (hn : As.length = n) (hcat : Nat.ble (rest.map fun v => v.category).sum 8 = true) (hd : decode cc pc = .ok (.invokestatic idx, 3)) (h : Wk g X nL (pc + 3) loc (.long r :: rest) w') : Wk g X nL pc loc st w := by
  obtain ⟨p, l, e, R, s, m, args, below, meth, c, Q, cells, slots⟩ := X
  obtain ⟨hx, hb, hml, hown, hts, hK, hg, hbs, hfr, hlo, hnw⟩ := C
  subst hst
  refine fun H locs ls hP hS hl => va_calll (va_runS (As := As) (rest := rest) ⟨hx, hb, hml, hown, hts⟩ (hM l) (lk R s args lv2 hts (lv_need hlv hnl hfr hlo)) ⟨wat_blind, fun U hU hW => ⟨rfl, ⟨by rw [hU]; exact hP, va_K.moved hW.alike hK, by rw [hU]; exact Nat.le_trans hbs hS.1⟩, hnw.warm hW⟩⟩ rfl hn hl.1 rfl (lv_room (Nat.le_of_ble_eq_true hcat)) hd hcell) hS (fun _ _ h => h) (fun _ h => h) (fun r1 _ t H1 locs1 ht hvm hw hB hz1 hk1 hS1 => ?_)
  cases hw
  obtain ⟨hB1, -, -⟩ := hB
  rw [ht] at hB1
  exact h H1 locs1 ls hB1 hS1 hl

theorem k_callTl (C : Cx g X cc nL own lvl)  {r : Int64} {host : String} (lk : LkT own idx y host cc2 nL2 ret2 n) (hM : ∀ l, Ml g l y cc2 nL2 ret2 lv2 (As) w r w') (hlv : Nat.ble (lv2 + 1) lvl = true) (hnl : Nat.ble nL2 21 = true) (hcell : X.2.2.2.2.2.2.2.2.2.2.2.1 ≤ X.2.2.2.1.cells ∧ X.2.2.2.2.2.2.2.2.2.2.2.2 ≤ X.2.2.2.1.slots) (hst : st = As.reverse ++ rest) (hn : As.length = n) (hcat : Nat.ble (rest.map fun v => v.category).sum 8 = true) (hd : decode cc pc = .ok (.invokestatic idx, 3)) (h : Wk g X nL (pc + 3) loc (.long r :: rest) w') : Wk g X nL pc loc st w := by
  obtain ⟨p, l, e, R, s, m, args, below, meth, c, Q, cells, slots⟩ := X
  obtain ⟨hx, hb, hml, hown, hts, hK, hg, hbs, hfr, hlo, hnw⟩ := C
  subst hst
  refine fun H locs ls hP hS hl => va_calll (va_runSN (As := As) (rest := rest) ⟨hx, hb, hml, hown, hts⟩ (hM l) (lk R s args lv2 hts hnw (lv_need hlv hnl hfr hlo)) ⟨wat_blind, fun U hU hW => ⟨rfl, ⟨by rw [hU]; exact hP, va_K.moved hW.alike hK, by rw [hU]; exact Nat.le_trans hbs hS.1⟩, hnw.warm hW⟩⟩ rfl hn hl.1 rfl (lv_room (Nat.le_of_ble_eq_true hcat)) hd hcell) hS (fun _ _ h => h) (fun _ h => h) (fun r1 _ t H1 locs1 ht hvm hw hB hz1 hk1 hS1 => ?_)
  cases hw
  obtain ⟨hB1, -, -⟩ := hB
  rw [ht] at hB1
  exact h H1 locs1 ls hB1 hS1 hl

theorem k_callVl (C : Cx g X cc nL own lvl) {o ci N : Nat} {T : u_T} {fs : List Value}  {r : Int64} {Cn : String} (lk : LkV own Cn idx y cc2 nL2 ret2 n) (hM : ∀ l, Ml g l y cc2 nL2 ret2 lv2 (.ref (g_a g o) :: As) w r w') (hlv : Nat.ble (lv2 + 1) lvl = true) (hnl : Nat.ble nL2 21 = true) (hcell : X.2.2.2.2.2.2.2.2.2.2.2.1 ≤ X.2.2.2.1.cells ∧ X.2.2.2.2.2.2.2.2.2.2.2.2 ≤ X.2.2.2.1.slots) (ho : o < 105) (he : shW g w o = .inr (ci, fs)) (hc : vcls[ci]? = some (Cn, T, N)) (hst : st = As.reverse ++ .ref (g_a g o) :: rest) (hn : As.length = n) (hcat : Nat.ble (rest.map fun v => v.category).sum 8 = true) (hd : decode cc pc = .ok (.invokevirtual idx, 3)) (h : Wk g X nL (pc + 3) loc (.long r :: rest) w') : Wk g X nL pc loc st w := by
  obtain ⟨p, l, e, R, s, m, args, below, meth, c, Q, cells, slots⟩ := X
  obtain ⟨hx, hb, hml, hown, hts, hK, hg, hbs, hfr, hlo, hnw⟩ := C
  subst hst
  refine fun H locs ls hP hS hl => va_calll (va_runV (As := As) (rest := rest) ⟨hx, hb, hml, hown, hts⟩ (hM l) (lk R s args lv2 hts (lv_need hlv hnl hfr hlo)) ⟨wat_blind, va_recv (q := (Cn, T, N)) hK hP hc (q0 := o) (by rw [wl_at ho, he]), fun U hU hW => ⟨rfl, ⟨by rw [hU]; exact hP, va_K.moved hW.alike hK, by rw [hU]; exact Nat.le_trans hbs hS.1⟩, hnw.warm hW⟩⟩ rfl hn hl.1 rfl (lv_room (Nat.le_of_ble_eq_true hcat)) hd hcell) hS (fun _ _ h => h) (fun _ h => h) (fun r1 _ t H1 locs1 ht hvm hw hB hz1 hk1 hS1 => ?_)
  cases hw
  obtain ⟨hB1, -, -⟩ := hB
  rw [ht] at hB1
  exact h H1 locs1 ls hB1 hS1 hl

theorem k_callUl (C : Cx g X cc nL own lvl) {o ci N : Nat} {T : u_T} {fs : List Value}  {r : Int64} {Cn owner : String} {x : MethodName} (lk : LkU own Cn owner idx x y cc2 nL2 ret2 n) (hM : ∀ l, Ml g l y cc2 nL2 ret2 lv2 (.ref (g_a g o) :: As) w r w') (hlv : Nat.ble (lv2 + 1) lvl = true) (hnl : Nat.ble nL2 21 = true) (hcell : X.2.2.2.2.2.2.2.2.2.2.2.1 ≤ X.2.2.2.1.cells ∧ X.2.2.2.2.2.2.2.2.2.2.2.2 ≤ X.2.2.2.1.slots) (ho : o < 105) (he : shW g w o = .inr (ci, fs)) (hc : vcls[ci]? = some (Cn, T, N)) (hst : st = As.reverse ++ .ref (g_a g o) :: rest) (hn : As.length = n) (hcat : Nat.ble (rest.map fun v => v.category).sum 8 = true) (hd : decode cc pc = .ok (.invokevirtual idx, 3)) (h : Wk g X nL (pc + 3) loc (.long r :: rest) w') : Wk g X nL pc loc st w := by
  obtain ⟨p, l, e, R, s, m, args, below, meth, c, Q, cells, slots⟩ := X
  obtain ⟨hx, hb, hml, hown, hts, hK, hg, hbs, hfr, hlo, hnw⟩ := C
  subst hst
  refine fun H locs ls hP hS hl => va_calll (va_runU (As := As) (rest := rest) ⟨hx, hb, hml, hown, hts⟩ (hM l) (lk R s args lv2 hts (lv_need hlv hnl hfr hlo)) ⟨wat_blind, va_recv (q := (Cn, T, N)) hK hP hc (q0 := o) (by rw [wl_at ho, he]), fun U hU hW => ⟨rfl, ⟨by rw [hU]; exact hP, va_K.moved hW.alike hK, by rw [hU]; exact Nat.le_trans hbs hS.1⟩, hnw.warm hW⟩⟩ rfl hn hl.1 rfl (lv_room (Nat.le_of_ble_eq_true hcat)) hd hcell) hS (fun _ _ h => h) (fun _ h => h) (fun r1 _ t H1 locs1 ht hvm hw hB hz1 hk1 hS1 => ?_)
  cases hw
  obtain ⟨hB1, -, -⟩ := hB
  rw [ht] at hB1
  exact h H1 locs1 ls hB1 hS1 hl

theorem k_callPl (C : Cx g X cc nL own lvl) {o ci N : Nat} {T : u_T} {fs : List Value}  {r : Int64} {Cn : String} (lk : LkP own idx y cc2 nL2 ret2 n) (hM : ∀ l, Ml g l y cc2 nL2 ret2 lv2 (.ref (g_a g o) :: As) w r w') (hlv : Nat.ble (lv2 + 1) lvl = true) (hnl : Nat.ble nL2 21 = true) (hcell : X.2.2.2.2.2.2.2.2.2.2.2.1 ≤ X.2.2.2.1.cells ∧ X.2.2.2.2.2.2.2.2.2.2.2.2 ≤ X.2.2.2.1.slots) (ho : o < 105) (he : shW g w o = .inr (ci, fs)) (hc : vcls[ci]? = some (Cn, T, N)) (hst : st = As.reverse ++ .ref (g_a g o) :: rest) (hn : As.length = n) (hcat : Nat.ble (rest.map fun v => v.category).sum 8 = true) (hd : decode cc pc = .ok (.invokespecial idx, 3)) (h : Wk g X nL (pc + 3) loc (.long r :: rest) w') : Wk g X nL pc loc st w := by
  obtain ⟨p, l, e, R, s, m, args, below, meth, c, Q, cells, slots⟩ := X
  obtain ⟨hx, hb, hml, hown, hts, hK, hg, hbs, hfr, hlo, hnw⟩ := C
  subst hst
  refine fun H locs ls hP hS hl => va_calll (va_runSU (As := As) (rest := rest) (hK.1 ci _ hc).2 ⟨hx, hb, hml, hown, hts⟩ (hM l) (lk R s args lv2 hts (lv_need hlv hnl hfr hlo)) ⟨wat_blind, va_recv (q := (Cn, T, N)) hK hP hc (q0 := o) (by rw [wl_at ho, he]), fun U hU hW => ⟨rfl, ⟨by rw [hU]; exact hP, va_K.moved hW.alike hK, by rw [hU]; exact Nat.le_trans hbs hS.1⟩, hnw.warm hW⟩⟩ rfl hn hl.1 rfl (lv_room (Nat.le_of_ble_eq_true hcat)) hd hcell) hS (fun _ _ h => h) (fun _ h => h) (fun r1 _ t H1 locs1 ht hvm hw hB hz1 hk1 hS1 => ?_)
  cases hw
  obtain ⟨hB1, -, -⟩ := hB
  rw [ht] at hB1
  exact h H1 locs1 ls hB1 hS1 hl

theorem k_callSv (C : Cx g X cc nL own lvl)  (lk : LkS own idx y cc2 nL2 ret2 n) (hM : ∀ l, Mv g l y cc2 nL2 ret2 lv2 (As) w w') (hlv : Nat.ble (lv2 + 1) lvl = true) (hnl : Nat.ble nL2 21 = true) (hcell : X.2.2.2.2.2.2.2.2.2.2.2.1 ≤ X.2.2.2.1.cells ∧ X.2.2.2.2.2.2.2.2.2.2.2.2 ≤ X.2.2.2.1.slots) (hst : st = As.reverse ++ rest) (hn : As.length = n) (hcat : Nat.ble (rest.map fun v => v.category).sum 8 = true) (hd : decode cc pc = .ok (.invokestatic idx, 3)) (h : Wk g X nL (pc + 3) loc (rest) w') : Wk g X nL pc loc st w := by
  obtain ⟨p, l, e, R, s, m, args, below, meth, c, Q, cells, slots⟩ := X
  obtain ⟨hx, hb, hml, hown, hts, hK, hg, hbs, hfr, hlo, hnw⟩ := C
  subst hst
  refine fun H locs ls hP hS hl => va_callv (va_runS (As := As) (rest := rest) ⟨hx, hb, hml, hown, hts⟩ (hM l) (lk R s args lv2 hts (lv_need hlv hnl hfr hlo)) ⟨wat_blind, fun U hU hW => ⟨rfl, ⟨by rw [hU]; exact hP, va_K.moved hW.alike hK, by rw [hU]; exact Nat.le_trans hbs hS.1⟩, hnw.warm hW⟩⟩ rfl hn hl.1 rfl (lv_room (Nat.le_of_ble_eq_true hcat)) hd hcell) hS (fun _ _ h => h) (fun _ h => h) (fun _ t H1 locs1 ht hvm hw hB hz1 hk1 hS1 => ?_)
  obtain ⟨hB1, -, -⟩ := hB
  rw [ht] at hB1
  exact h H1 locs1 ls hB1 hS1 hl

theorem k_callTv (C : Cx g X cc nL own lvl)  {host : String} (lk : LkT own idx y host cc2 nL2 ret2 n) (hM : ∀ l, Mv g l y cc2 nL2 ret2 lv2 (As) w w') (hlv : Nat.ble (lv2 + 1) lvl = true) (hnl : Nat.ble nL2 21 = true) (hcell : X.2.2.2.2.2.2.2.2.2.2.2.1 ≤ X.2.2.2.1.cells ∧ X.2.2.2.2.2.2.2.2.2.2.2.2 ≤ X.2.2.2.1.slots) (hst : st = As.reverse ++ rest) (hn : As.length = n) (hcat : Nat.ble (rest.map fun v => v.category).sum 8 = true) (hd : decode cc pc = .ok (.invokestatic idx, 3)) (h : Wk g X nL (pc + 3) loc (rest) w') : Wk g X nL pc loc st w := by
  obtain ⟨p, l, e, R, s, m, args, below, meth, c, Q, cells, slots⟩ := X
  obtain ⟨hx, hb, hml, hown, hts, hK, hg, hbs, hfr, hlo, hnw⟩ := C
  subst hst
  refine fun H locs ls hP hS hl => va_callv (va_runSN (As := As) (rest := rest) ⟨hx, hb, hml, hown, hts⟩ (hM l) (lk R s args lv2 hts hnw (lv_need hlv hnl hfr hlo)) ⟨wat_blind, fun U hU hW => ⟨rfl, ⟨by rw [hU]; exact hP, va_K.moved hW.alike hK, by rw [hU]; exact Nat.le_trans hbs hS.1⟩, hnw.warm hW⟩⟩ rfl hn hl.1 rfl (lv_room (Nat.le_of_ble_eq_true hcat)) hd hcell) hS (fun _ _ h => h) (fun _ h => h) (fun _ t H1 locs1 ht hvm hw hB hz1 hk1 hS1 => ?_)
  obtain ⟨hB1, -, -⟩ := hB
  rw [ht] at hB1
  exact h H1 locs1 ls hB1 hS1 hl

theorem k_callVv (C : Cx g X cc nL own lvl) {o ci N : Nat} {T : u_T} {fs : List Value}  {Cn : String} (lk : LkV own Cn idx y cc2 nL2 ret2 n) (hM : ∀ l, Mv g l y cc2 nL2 ret2 lv2 (.ref (g_a g o) :: As) w w') (hlv : Nat.ble (lv2 + 1) lvl = true) (hnl : Nat.ble nL2 21 = true) (hcell : X.2.2.2.2.2.2.2.2.2.2.2.1 ≤ X.2.2.2.1.cells ∧ X.2.2.2.2.2.2.2.2.2.2.2.2 ≤ X.2.2.2.1.slots) (ho : o < 105) (he : shW g w o = .inr (ci, fs)) (hc : vcls[ci]? = some (Cn, T, N)) (hst : st = As.reverse ++ .ref (g_a g o) :: rest) (hn : As.length = n) (hcat : Nat.ble (rest.map fun v => v.category).sum 8 = true) (hd : decode cc pc = .ok (.invokevirtual idx, 3)) (h : Wk g X nL (pc + 3) loc (rest) w') : Wk g X nL pc loc st w := by
  obtain ⟨p, l, e, R, s, m, args, below, meth, c, Q, cells, slots⟩ := X
  obtain ⟨hx, hb, hml, hown, hts, hK, hg, hbs, hfr, hlo, hnw⟩ := C
  subst hst
  refine fun H locs ls hP hS hl => va_callv (va_runV (As := As) (rest := rest) ⟨hx, hb, hml, hown, hts⟩ (hM l) (lk R s args lv2 hts (lv_need hlv hnl hfr hlo)) ⟨wat_blind, va_recv (q := (Cn, T, N)) hK hP hc (q0 := o) (by rw [wl_at ho, he]), fun U hU hW => ⟨rfl, ⟨by rw [hU]; exact hP, va_K.moved hW.alike hK, by rw [hU]; exact Nat.le_trans hbs hS.1⟩, hnw.warm hW⟩⟩ rfl hn hl.1 rfl (lv_room (Nat.le_of_ble_eq_true hcat)) hd hcell) hS (fun _ _ h => h) (fun _ h => h) (fun _ t H1 locs1 ht hvm hw hB hz1 hk1 hS1 => ?_)
  obtain ⟨hB1, -, -⟩ := hB
  rw [ht] at hB1
  exact h H1 locs1 ls hB1 hS1 hl

theorem k_callUv (C : Cx g X cc nL own lvl) {o ci N : Nat} {T : u_T} {fs : List Value}  {Cn owner : String} {x : MethodName} (lk : LkU own Cn owner idx x y cc2 nL2 ret2 n) (hM : ∀ l, Mv g l y cc2 nL2 ret2 lv2 (.ref (g_a g o) :: As) w w') (hlv : Nat.ble (lv2 + 1) lvl = true) (hnl : Nat.ble nL2 21 = true) (hcell : X.2.2.2.2.2.2.2.2.2.2.2.1 ≤ X.2.2.2.1.cells ∧ X.2.2.2.2.2.2.2.2.2.2.2.2 ≤ X.2.2.2.1.slots) (ho : o < 105) (he : shW g w o = .inr (ci, fs)) (hc : vcls[ci]? = some (Cn, T, N)) (hst : st = As.reverse ++ .ref (g_a g o) :: rest) (hn : As.length = n) (hcat : Nat.ble (rest.map fun v => v.category).sum 8 = true) (hd : decode cc pc = .ok (.invokevirtual idx, 3)) (h : Wk g X nL (pc + 3) loc (rest) w') : Wk g X nL pc loc st w := by
  obtain ⟨p, l, e, R, s, m, args, below, meth, c, Q, cells, slots⟩ := X
  obtain ⟨hx, hb, hml, hown, hts, hK, hg, hbs, hfr, hlo, hnw⟩ := C
  subst hst
  refine fun H locs ls hP hS hl => va_callv (va_runU (As := As) (rest := rest) ⟨hx, hb, hml, hown, hts⟩ (hM l) (lk R s args lv2 hts (lv_need hlv hnl hfr hlo)) ⟨wat_blind, va_recv (q := (Cn, T, N)) hK hP hc (q0 := o) (by rw [wl_at ho, he]), fun U hU hW => ⟨rfl, ⟨by rw [hU]; exact hP, va_K.moved hW.alike hK, by rw [hU]; exact Nat.le_trans hbs hS.1⟩, hnw.warm hW⟩⟩ rfl hn hl.1 rfl (lv_room (Nat.le_of_ble_eq_true hcat)) hd hcell) hS (fun _ _ h => h) (fun _ h => h) (fun _ t H1 locs1 ht hvm hw hB hz1 hk1 hS1 => ?_)
  obtain ⟨hB1, -, -⟩ := hB
  rw [ht] at hB1
  exact h H1 locs1 ls hB1 hS1 hl

theorem k_callPv (C : Cx g X cc nL own lvl) {o ci N : Nat} {T : u_T} {fs : List Value}  {Cn : String} (lk : LkP own idx y cc2 nL2 ret2 n) (hM : ∀ l, Mv g l y cc2 nL2 ret2 lv2 (.ref (g_a g o) :: As) w w') (hlv : Nat.ble (lv2 + 1) lvl = true) (hnl : Nat.ble nL2 21 = true) (hcell : X.2.2.2.2.2.2.2.2.2.2.2.1 ≤ X.2.2.2.1.cells ∧ X.2.2.2.2.2.2.2.2.2.2.2.2 ≤ X.2.2.2.1.slots) (ho : o < 105) (he : shW g w o = .inr (ci, fs)) (hc : vcls[ci]? = some (Cn, T, N)) (hst : st = As.reverse ++ .ref (g_a g o) :: rest) (hn : As.length = n) (hcat : Nat.ble (rest.map fun v => v.category).sum 8 = true) (hd : decode cc pc = .ok (.invokespecial idx, 3)) (h : Wk g X nL (pc + 3) loc (rest) w') : Wk g X nL pc loc st w := by
  obtain ⟨p, l, e, R, s, m, args, below, meth, c, Q, cells, slots⟩ := X
  obtain ⟨hx, hb, hml, hown, hts, hK, hg, hbs, hfr, hlo, hnw⟩ := C
  subst hst
  refine fun H locs ls hP hS hl => va_callv (va_runSU (As := As) (rest := rest) (hK.1 ci _ hc).2 ⟨hx, hb, hml, hown, hts⟩ (hM l) (lk R s args lv2 hts (lv_need hlv hnl hfr hlo)) ⟨wat_blind, va_recv (q := (Cn, T, N)) hK hP hc (q0 := o) (by rw [wl_at ho, he]), fun U hU hW => ⟨rfl, ⟨by rw [hU]; exact hP, va_K.moved hW.alike hK, by rw [hU]; exact Nat.le_trans hbs hS.1⟩, hnw.warm hW⟩⟩ rfl hn hl.1 rfl (lv_room (Nat.le_of_ble_eq_true hcat)) hd hcell) hS (fun _ _ h => h) (fun _ h => h) (fun _ t H1 locs1 ht hvm hw hB hz1 hk1 hS1 => ?_)
  obtain ⟨hB1, -, -⟩ := hB
  rw [ht] at hB1
  exact h H1 locs1 ls hB1 hS1 hl

end CL
end
section
/-! What the world's list holds at each place; what a store does; loads and stores of this world. -/
def lt {α β : Type} (a : α) (k : α → β) : β := k a
theorem lt_some {α β : Type} {a : α} {k : α → Option β} {r : β} (h : lt a k = some r) : ∃ b, b = a ∧ k b = some r := ⟨a, rfl, h⟩
def fu : Nat := 1000
theorem nble {a b : Nat} (h : a ≤ b) : Nat.ble a b = true := Nat.ble_eq.mpr h
/-- a horse of the land o, a land in mind, a shelf: by their numbers -/
def sid (o : Nat) (i : Int32) : Nat := 22 + 7 * (o - 10) + i.toNatClampNeg
def lid (i : Int32) : Nat := 12 + i.toNatClampNeg
def hid (i : Int32) : Nat := 67 + i.toNatClampNeg
theorem sid_ok {o : Nat} {i : Int32} (h : 10 ≤ o ∧ o < 16) (hi : vp_in i 7) : 22 ≤ sid o i ∧ sid o i < 65 := by
  have := vin_lt hi
  unfold sid; omega
theorem lid_ok {i : Int32} (hi : vp_in i 4) : 10 ≤ lid i ∧ lid i < 16 := by
  have := vin_lt hi
  unfold lid; omega
theorem hid_ok {i : Int32} (hi : vp_in i 8) : 67 ≤ hid i ∧ hid i < 75 := by
  have := vin_lt hi
  unfold hid; omega
theorem lt105 {a b o : Nat} (h : a ≤ o ∧ o < b) (hb : Nat.ble b 105 = true) : o < 105 := Nat.lt_of_lt_of_le h.2 (Nat.le_of_ble_eq_true hb)
abbrev ZD : Type := MD × (Nat → Int64)
section SH
variable {g : GC} {x xx : XD} {z : ZD} {m : MD} {oo : Nat → Int64} {o : Nat}
theorem sh_Hb : shW g (x, z) 0 = .inr (11, [.ref (g_a g 1), .ref (g_a g 10), .ref (g_a g 11), .ref (g_a g 65), .ref (g_a g 64), .ref (g_a g 66), .int (x 0 6)]) := rfl
theorem sh_ka : shW g (x, z) 1 = .inl (g_c g 2, 8, rfs fun i => g_a g (2 + i)) := rfl
theorem sh_Ko (h : 2 ≤ o ∧ o < 10) : shW g (x, z) o = .inr (o - 2, []) := by
  obtain ⟨h1, h2⟩ := h
  unfold shW shX
  rw [if_pos (by omega), if_neg (by omega), if_neg (by omega), if_pos (by omega)]
theorem sh_La (h : 10 ≤ o ∧ o < 16) : shW g (x, z) o = .inr (9, [.ref (g_a g 1), .ref (g_a g (o + 6)), .int (x o 2), .int (x o 3), .int (x o 4)]) := by
  obtain ⟨h1, h2⟩ := h
  unfold shW shX
  rw [if_pos (by omega), if_neg (by omega), if_neg (by omega), if_neg (by omega), if_pos (by omega)]
theorem sh_sa (h : 10 ≤ o ∧ o < 16) : shW g (x, z) (o + 6) = .inl (g_c g 3, 7, rfs fun i => g_a g (22 + 7 * (o + 6 - 16) + i)) := by
  obtain ⟨h1, h2⟩ := h
  unfold shW shX
  rw [if_pos (by omega), if_neg (by omega), if_neg (by omega), if_neg (by omega), if_neg (by omega), if_pos (by omega)]
theorem sh_St (h : 22 ≤ o ∧ o < 65) : shW g (x, z) o = .inr (8, [.ref (g_a g (2 + (x o 0).toNatClampNeg)), .int (x o 1), .int (x o 2), .int (x o 3), .int (x o 4)]) := by
  obtain ⟨h1, h2⟩ := h
  unfold shW shX
  rw [if_pos (by omega), if_neg (by omega), if_neg (by omega), if_neg (by omega), if_neg (by omega), if_neg (by omega), if_pos (by omega)]
theorem sh_mi : shW g (x, z) 65 = .inl (g_c g 4, 4, rfs fun i => g_a g (12 + i)) := rfl
theorem sh_sv : shW g (x, z) 66 = .inl (g_c g 5, 8, rfs fun i => g_a g (67 + i)) := rfl
theorem sh_Sh (h : 67 ≤ o ∧ o < 75) : shW g (x, z) o = .inr (10, [.int (x o 0), .ref (g_a g (2 + (x o 1).toNatClampNeg)), .int (x o 2), .int (x o 3), .int (x o 4), .ref (g_a g (o + 8))]) := by
  obtain ⟨h1, h2⟩ := h
  unfold shW shX
  rw [if_pos (by omega), if_neg (by omega), if_neg (by omega), if_neg (by omega), if_neg (by omega), if_neg (by omega), if_neg (by omega), if_neg (by omega), if_neg (by omega), if_pos (by omega)]
theorem sh_el (h : 67 ≤ o ∧ o < 75) : shW g (x, z) (o + 8) = .inl (g_c g 0, 100, .inl (x (o + 8))) := by
  obtain ⟨h1, h2⟩ := h
  unfold shW shX
  rw [if_pos (by omega), if_neg (by omega), if_neg (by omega), if_neg (by omega), if_neg (by omega), if_neg (by omega), if_neg (by omega), if_neg (by omega), if_neg (by omega), if_neg (by omega)]
theorem sh_Mo : shW g (xx, m, oo) 83 = .inr (12, [.int (m.1 83 0), .ref (g_a g 84), .ref (g_a g 85), .ref (g_a g 86), .ref (g_a g 87), .ref (g_a g 88), .int (m.1 83 6), .int (m.1 83 7), .ref (g_a g 89), .ref (g_a g 90), .ref (g_a g 91), .ref (g_a g 92), .ref (g_a g 93), .ref (g_a g 94), .int (m.1 83 14), .int (m.1 83 15), .int (m.1 83 16), .int (m.1 83 17), .int (m.1 83 18), .ref (g_a g 95), .ref (g_a g 96), .ref (g_a g 97), .ref (g_a g 98), .ref (g_a g 99), .ref (g_a g 100), .ref (g_a g 101), .int (m.1 83 26), .int (m.1 83 27), .int (m.1 83 28), (if m.2.2 = 0 then .null else .ref (g_a g m.2.2)), .int (m.1 83 30), .int (m.1 83 31), .ref (g_a g 102), .int (m.1 83 33), .ref (g_a g 103)]) := rfl
theorem sm_i (h : 84 ≤ o ∧ o < 103) (h9 : ¬ o = 94) : shW g (xx, m, oo) o = .inl (g_c g 0, shN o, .inl (m.1 o)) := by
  obtain ⟨h1, h2⟩ := h
  unfold shW shM
  rw [if_neg (by omega), if_pos (by omega), if_neg (by omega), if_neg h9, if_neg (by omega)]
theorem sm_94 : shW g (xx, m, oo) 94 = .inl (g_c g 1, 800, .inr (.inl (m.2.1 94))) := rfl
theorem sm_103 : shW g (xx, m, oo) 103 = .inl (g_c g 1, 100, .inr (.inl (m.2.1 103))) := rfl
theorem x_up_ne {α : Type} {w : Nat → Nat → α} {k j a : Nat} {v : α} (h : ¬ a = k) : x_up w k j v a = w a := by
  funext b
  simp [x_up, h]
theorem x_up_eq {α : Type} {w : Nat → Nat → α} {k j : Nat} {v : α} : x_up w k j v k = fun b => if b = j then v else w k b := by
  funext b
  simp [x_up]
theorem oth_x {k j : Nat} {v : Int32} : ∀ a, a ≠ k → shW g (x_up x k j v, z) a = shW g (x, z) a := by
  intro a h
  unfold shW
  dsimp only
  rw [show x_up x k j v a = x a from x_up_ne h]
theorem oth_m {k j : Nat} {v : Int32} : ∀ a, a ≠ k → shW g (xx, (x_up m.1 k j v, m.2), oo) a = shW g (xx, m, oo) a := by
  intro a h
  unfold shW
  dsimp only
  rw [show x_up m.1 k j v a = m.1 a from x_up_ne h]
theorem oth_l {k j : Nat} {v : Int64} : ∀ a, a ≠ k → shW g (xx, (m.1, x_up m.2.1 k j v, m.2.2), oo) a = shW g (xx, m, oo) a := by
  intro a h
  unfold shW
  dsimp only
  rw [show x_up m.2.1 k j v a = m.2.1 a from x_up_ne h]
theorem oth_q {v : Nat} : ∀ a, a ≠ 83 → shW g (xx, (m.1, m.2.1, v), oo) a = shW g (xx, m, oo) a := by
  intro a h
  unfold shW shM
  by_cases h1 : a < 83
  · rw [if_pos h1, if_pos h1]
  · rw [if_neg h1, if_neg h1]
    by_cases h2 : a < 104
    · rw [if_pos h2, if_pos h2, if_neg h, if_neg h]
    · rw [if_neg h2, if_neg h2]
theorem upd_x {α : Type} {w : Nat → Nat → α} {k j : Nat} {v : α} : (fun b => if b = j then v else w k b) = x_up w k j v k := x_up_eq.symm
end SH
def ft (T : u_T) (k : Nat) : FieldType := (parseFieldDescriptor (T k).2.2.1).getD .int
theorem in_St : ∀ q ∈ u_ws n_St T_St 5, q ∈ TW := by decide +kernel
theorem in_La : ∀ q ∈ u_ws n_La T_La 5, q ∈ TW := by decide +kernel
theorem in_Sh : ∀ q ∈ u_ws n_Sh T_Sh 6, q ∈ TW := by decide +kernel
theorem in_Hb : ∀ q ∈ u_ws n_Hb T_Hb 7, q ∈ TW := by decide +kernel
theorem in_Mo : ∀ q ∈ u_ws n_Mo T_Mo 35, q ∈ TW := by decide +kernel
theorem tk_St : ∀ k, k < 5 → parseFieldDescriptor (T_St k).2.2.1 = some (ft T_St k) := by decide +kernel
theorem tk_La : ∀ k, k < 5 → parseFieldDescriptor (T_La k).2.2.1 = some (ft T_La k) := by decide +kernel
theorem tk_Sh : ∀ k, k < 6 → parseFieldDescriptor (T_Sh k).2.2.1 = some (ft T_Sh k) := by decide +kernel
theorem tk_Hb : ∀ k, k < 7 → parseFieldDescriptor (T_Hb k).2.2.1 = some (ft T_Hb k) := by decide +kernel
theorem tk_Mo : ∀ k, k < 35 → parseFieldDescriptor (T_Mo k).2.2.1 = some (ft T_Mo k) := by decide +kernel
theorem nm_St : ∀ a, a < 5 → ∀ b, b < 5 → a ≠ b → (T_St a).2.1 ≠ (T_St b).2.1 := by decide +kernel
theorem nm_La : ∀ a, a < 5 → ∀ b, b < 5 → a ≠ b → (T_La a).2.1 ≠ (T_La b).2.1 := by decide +kernel
theorem nm_Sh : ∀ a, a < 6 → ∀ b, b < 6 → a ≠ b → (T_Sh a).2.1 ≠ (T_Sh b).2.1 := by decide +kernel
theorem nm_Hb : ∀ a, a < 7 → ∀ b, b < 7 → a ≠ b → (T_Hb a).2.1 ≠ (T_Hb b).2.1 := by decide +kernel
theorem nm_Mo : ∀ a, a < 35 → ∀ b, b < 35 → a ≠ b → (T_Mo a).2.1 ≠ (T_Mo b).2.1 := by decide +kernel
theorem pn_In : plainName n_In = true := by decide +kernel
theorem pn_Ho : plainName n_Ho = true := by decide +kernel
theorem pn_Co : plainName n_Co = true := by decide +kernel
theorem pn_Bl : plainName n_Bl = true := by decide +kernel
theorem pn_Tw : plainName n_Tw = true := by decide +kernel
theorem pn_Dr : plainName n_Dr = true := by decide +kernel
theorem pn_Fo : plainName n_Fo = true := by decide +kernel
theorem pn_Ma : plainName n_Ma = true := by decide +kernel
theorem pn_Ge : plainName n_Ge = true := by decide +kernel
theorem pn_St : plainName n_St = true := by decide +kernel
theorem pn_La : plainName n_La = true := by decide +kernel
theorem pn_Sh : plainName n_Sh = true := by decide +kernel
theorem pn_Hb : plainName n_Hb = true := by decide +kernel
theorem pn_Mo : plainName n_Mo = true := by decide +kernel
theorem cx_g {g : GC} {X : MX} {cc : ByteArray} {nL : Nat} {own : String} {lvl : Nat} (C : Cx g X cc nL own lvl) : gOk g := by
  obtain ⟨p, l, e, R, s, m, args, below, meth, c, Q, cells, slots⟩ := X
  exact C.2.2.2.2.2.2.1
theorem ko_cls {o : Nat} (h : 2 ≤ o ∧ o < 10) : ∃ Cn, vcls[o - 2]? = some (Cn, T_0, 0) := by
  have h3 : o = 2 ∨ o = 3 ∨ o = 4 ∨ o = 5 ∨ o = 6 ∨ o = 7 ∨ o = 8 ∨ o = 9 := by omega
  rcases h3 with rfl | rfl | rfl | rfl | rfl | rfl | rfl | rfl <;> exact ⟨_, rfl⟩
section BR
variable {g : GC} {X : MX} {cc : ByteArray} {nL : Nat} {own : String} {lvl : Nat} {pc : Nat} {loc lv' : List (Nat × Value)} {rest : List Value} {w : WD} {x xx : XD} {z : ZD} {m m1 : MD} {oo : Nat → Int64} {o n : Nat} {i : Int32}
theorem k_inc (C : Cx g X cc nL own lvl) {k : Nat} {n : Int} {v x1 : Int32} (hd : decode cc pc = .ok (.iinc k n, 3)) (i : Nat) (hi : loc[i]? = some (k, .int x1)) (hv : Int32.ofInt n = v) (hn : Nat.ble (k + 1) nL = true) (hl' : (k, Value.int (x1 + v)) :: loc.filter (fun q => !(q.1 == k) && !(q.1 + 1 == k && q.2.category == 2)) = lv') (h : Wk g X nL (pc + 3) lv' rest w) : Wk g X nL pc loc rest w := k_iinc C (x1 + v) hd i hi (by rw [hv]) hn hl' h
theorem k_nmI {e v : Int32} (q : v = e) (h : Wk g X nL pc loc (.int v :: rest) w) : Wk g X nL pc loc (.int e :: rest) w := q ▸ h
theorem k_nmJ {e v : Int64} (q : v = e) (h : Wk g X nL pc loc (.long v :: rest) w) : Wk g X nL pc loc (.long e :: rest) w := q ▸ h
theorem k_iushr (C : Cx g X cc nL own lvl) {x1 y : Int32} (hd : decode cc pc = .ok (.iushr, 1)) (h : Wk g X nL (pc + 1) loc (.int (x1.toUInt32 >>> (y.toUInt32 &&& Int32.toUInt32 31)).toInt32 :: rest) w) : Wk g X nL pc loc (.int y :: .int x1 :: rest) w := by
  obtain ⟨p, l, e, R, s, m, args, below, meth, c, Q, cells, slots⟩ := X
  obtain ⟨hx, hb, hml, hown, hts, hK, hg, hbs, hfr, hlo, hnw⟩ := C
  exact fun H locs ls hP hS hl => lv_iushr hx hb hd rfl (h H locs ls hP hS hl)
theorem k_aald_St (C : Cx g X cc nL own lvl) (ho : 10 ≤ o ∧ o < 16) (hi : vp_in i 7) (hd : decode cc pc = .ok (.aaload, 1)) (h : Wk g X nL (pc + 1) loc (.ref (g_a g (sid o i)) :: rest) (x, z)) : Wk g X nL pc loc (.int i :: .ref (g_a g (o + 6)) :: rest) (x, z) := k_aald C (f := fun i => g_a g (22 + 7 * (o + 6 - 16) + i)) 3 rfl (by omega) (sh_sa ho) hi hd (by rw [show 22 + 7 * (o + 6 - 16) + i.toNatClampNeg = sid o i from by unfold sid; omega]; exact h)
theorem k_aald_kd (C : Cx g X cc nL own lvl) (hi : vp_in i 8) (hd : decode cc pc = .ok (.aaload, 1)) (h : Wk g X nL (pc + 1) loc (.ref (g_a g (2 + i.toNatClampNeg)) :: rest) (x, z)) : Wk g X nL pc loc (.int i :: .ref (g_a g 1) :: rest) (x, z) := k_aald C (f := fun i => g_a g (2 + i)) 2 rfl (by decide) sh_ka hi hd h
theorem k_aald_La (C : Cx g X cc nL own lvl) (hi : vp_in i 4) (hd : decode cc pc = .ok (.aaload, 1)) (h : Wk g X nL (pc + 1) loc (.ref (g_a g (lid i)) :: rest) (x, z)) : Wk g X nL pc loc (.int i :: .ref (g_a g 65) :: rest) (x, z) := k_aald C (f := fun i => g_a g (12 + i)) 4 rfl (by decide) sh_mi hi hd h
theorem k_aald_L0 (C : Cx g X cc nL own lvl) (hd : decode cc pc = .ok (.aaload, 1)) (h : Wk g X nL (pc + 1) loc (.ref (g_a g 12) :: rest) (x, z)) : Wk g X nL pc loc (.int 0 :: .ref (g_a g 65) :: rest) (x, z) := k_aald C (f := fun i => g_a g (12 + i)) 4 rfl (by decide) sh_mi (by unfold vp_in; decide) hd h
theorem k_aald_Sh (C : Cx g X cc nL own lvl) (hi : vp_in i 8) (hd : decode cc pc = .ok (.aaload, 1)) (h : Wk g X nL (pc + 1) loc (.ref (g_a g (hid i)) :: rest) (x, z)) : Wk g X nL pc loc (.int i :: .ref (g_a g 66) :: rest) (x, z) := k_aald C (f := fun i => g_a g (67 + i)) 5 rfl (by decide) sh_sv hi hd h
theorem k_ialdE (C : Cx g X cc nL own lvl) (ho : 67 ≤ o ∧ o < 75) (hi : vp_in i 100) (hd : decode cc pc = .ok (.iaload, 1)) (h : Wk g X nL (pc + 1) loc (.int (x (o + 8) i.toNatClampNeg) :: rest) (x, z)) : Wk g X nL pc loc (.int i :: .ref (g_a g (o + 8)) :: rest) (x, z) := k_iald C (by omega) (sh_el ho) hi hd h
theorem k_iastE (C : Cx g X cc nL own lvl) {v : Int32} {x1 : XD} (ho : 67 ≤ o ∧ o < 75) (hi : vp_in i 100) (e : x1 = x_up x (o + 8) i.toNatClampNeg v) (hd : decode cc pc = .ok (.iastore, 1)) (h : Wk g X nL (pc + 1) loc rest (x1, z)) : Wk g X nL pc loc (.int v :: .int i :: .ref (g_a g (o + 8)) :: rest) (x, z) := by
  subst e
  refine k_iast C (by omega) (sh_el ho) hi ?_ oth_x hd h
  rw [sh_el ho, x_up_eq]
  rfl
theorem k_ialdM (C : Cx g X cc nL own lvl) (ho : 84 ≤ o ∧ o < 103) (h9 : ¬ o = 94) (hi : vp_in i (shN o)) (hd : decode cc pc = .ok (.iaload, 1)) (h : Wk g X nL (pc + 1) loc (.int (m.1 o i.toNatClampNeg) :: rest) (xx, m, oo)) : Wk g X nL pc loc (.int i :: .ref (g_a g o) :: rest) (xx, m, oo) := k_iald C (by omega) (sm_i ho h9) hi hd h
theorem k_iastM (C : Cx g X cc nL own lvl) {v : Int32} (ho : 84 ≤ o ∧ o < 103) (h9 : ¬ o = 94) (hi : vp_in i (shN o)) (e : m1 = (x_up m.1 o i.toNatClampNeg v, m.2)) (hd : decode cc pc = .ok (.iastore, 1)) (h : Wk g X nL (pc + 1) loc rest (xx, m1, oo)) : Wk g X nL pc loc (.int v :: .int i :: .ref (g_a g o) :: rest) (xx, m, oo) := by
  subst e
  refine k_iast C (by omega) (sm_i ho h9) hi ?_ oth_m hd h
  rw [sm_i ho h9]
  dsimp only
  rw [x_up_eq]
  rfl
theorem k_lald94 (C : Cx g X cc nL own lvl) (hi : vp_in i 800) (hd : decode cc pc = .ok (.laload, 1)) (h : Wk g X nL (pc + 1) loc (.long (m.2.1 94 i.toNatClampNeg) :: rest) (xx, m, oo)) : Wk g X nL pc loc (.int i :: .ref (g_a g 94) :: rest) (xx, m, oo) := k_lald C (by decide) sm_94 hi hd h
theorem k_lald103 (C : Cx g X cc nL own lvl) (hi : vp_in i 100) (hd : decode cc pc = .ok (.laload, 1)) (h : Wk g X nL (pc + 1) loc (.long (m.2.1 103 i.toNatClampNeg) :: rest) (xx, m, oo)) : Wk g X nL pc loc (.int i :: .ref (g_a g 103) :: rest) (xx, m, oo) := k_lald C (by decide) sm_103 hi hd h
theorem k_last94 (C : Cx g X cc nL own lvl) {v : Int64} (hi : vp_in i 800) (e : m1 = (m.1, x_up m.2.1 94 i.toNatClampNeg v, m.2.2)) (hd : decode cc pc = .ok (.lastore, 1)) (h : Wk g X nL (pc + 1) loc rest (xx, m1, oo)) : Wk g X nL pc loc (.long v :: .int i :: .ref (g_a g 94) :: rest) (xx, m, oo) := by
  subst e
  refine k_last C (by decide) sm_94 hi ?_ oth_l hd h
  rw [sm_94]
  dsimp only
  rw [x_up_eq]
  rfl
theorem k_last103 (C : Cx g X cc nL own lvl) {v : Int64} (hi : vp_in i 100) (e : m1 = (m.1, x_up m.2.1 103 i.toNatClampNeg v, m.2.2)) (hd : decode cc pc = .ok (.lastore, 1)) (h : Wk g X nL (pc + 1) loc rest (xx, m1, oo)) : Wk g X nL pc loc (.long v :: .int i :: .ref (g_a g 103) :: rest) (xx, m, oo) := by
  subst e
  refine k_last C (by decide) sm_103 hi ?_ oth_l hd h
  rw [sm_103]
  dsimp only
  rw [x_up_eq]
  rfl
/-- System.arraycopy between two shelves' rows -/
def x_cp (x : XD) (a b : Nat) (sp dp n : Nat) : XD := fun k => if k = b then va_cpy (x a) (x b) sp dp n else x k
def gC {α : Type} (i j n : Int32) (v : Option α) : Option α := if i < 0 ∨ j < 0 ∨ n < 0 ∨ 100 < i.toNatClampNeg + n.toNatClampNeg ∨ 100 < j.toNatClampNeg + n.toNatClampNeg then none else v
theorem gC_some {α : Type} {i j n : Int32} {v : Option α} {r : α} (h : gC i j n v = some r) : (¬ i < 0 ∧ ¬ j < 0 ∧ ¬ n < 0 ∧ i.toNatClampNeg + n.toNatClampNeg ≤ 100 ∧ j.toNatClampNeg + n.toNatClampNeg ≤ 100) ∧ v = some r := by
  unfold gC at h
  by_cases c : i < 0 ∨ j < 0 ∨ n < 0 ∨ 100 < i.toNatClampNeg + n.toNatClampNeg ∨ 100 < j.toNatClampNeg + n.toNatClampNeg
  · rw [if_pos c] at h; cases h
  · rw [if_neg c] at h
    simp only [not_or, Nat.not_lt] at c
    exact ⟨c, h⟩
theorem k_acopy (C : Cx g X cc nL own lvl) {idx a b : Nat} {sp dp n : Int32} {x1 : XD} (hlink : Cond.methodLink own idx arraycopyName ∈ TW) (hnat : Cond.native arraycopyName ∈ TW) (hstat : Cond.static arraycopyName ∈ TW) (hini : Cond.initialized "java/lang/System" ∈ TW) (ha : 67 ≤ a ∧ a < 75) (hb2 : 67 ≤ b ∧ b < 75) (hq : ¬ sp < 0 ∧ ¬ dp < 0 ∧ ¬ n < 0 ∧ sp.toNatClampNeg + n.toNatClampNeg ≤ 100 ∧ dp.toNatClampNeg + n.toNatClampNeg ≤ 100) (hlv : Nat.ble 1 lvl = true) (hcs : Nat.ble (rest.map fun v => v.category).sum 8 = true) (e : x1 = x_cp x (a + 8) (b + 8) sp.toNatClampNeg dp.toNatClampNeg n.toNatClampNeg) (hd : decode cc pc = .ok (.invokestatic idx, 3)) (h : Wk g X nL (pc + 3) loc rest (x1, z)) : Wk g X nL pc loc (.int n :: .int dp :: .ref (g_a g (b + 8)) :: .int sp :: .ref (g_a g (a + 8)) :: rest) (x, z) := by
  subst e
  obtain ⟨p, l, e, R, s, m, args, below, meth, c, Q, cells, slots⟩ := X
  obtain ⟨hx, hb, hml, hown, hts, hK, hg, hbs, hfr, hlo, hnw⟩ := C
  obtain ⟨q1, q2, q3, q4, q5⟩ := hq
  have h1 := Nat.le_of_ble_eq_true hlv
  have h2 := Nat.le_of_ble_eq_true hcs
  have h3 : nativeFrameWords "java/lang/System" "arraycopy" 5 ≤ 16 := by decide +kernel
  refine fun H locs ls hP hS hl => va_copyi hx hb (hml.trans hl.1.symm) hown (hts _ hlink) (hts _ hnat) (hts _ hstat) (hts _ hini) hK hP (hg.d _) hS (a + 8) (b + 8) 0 0 (ty := .int) (f := x (a + 8)) (g := x (b + 8)) (by rw [wl_at (by omega), sh_el ha]) (by rw [wl_at (by omega), sh_el hb2]) rfl rfl rfl q1 q2 q3 q4 q5 (fun _ _ => rfl) (Nat.le_trans h1 hfr) (by omega) hd (fun H1 locs1 hP1 hD1 hS1 => ?_)
  rw [wl_set (w' := (x_cp x (a + 8) (b + 8) sp.toNatClampNeg dp.toNatClampNeg n.toNatClampNeg, z)) (by omega) (by rw [sh_el hb2]; simp [x_cp]) (fun j hj => by unfold shW; dsimp only; rw [show x_cp x (a + 8) (b + 8) sp.toNatClampNeg dp.toNatClampNeg n.toNatClampNeg j = x j from by simp [x_cp, hj]])] at hP1
  exact h H1 locs1 ls hP1 hS1 hl
end BR

/-! super.m(..) where the class above inherits m -/
section QI
variable {g : GC} {X : MX} {cc cc2 : ByteArray} {nL nL2 n idx lv2 : Nat} {own owner : String} {lvl : Nat} {pc : Nat} {loc : List (Nat × Value)} {rest st As : List Value} {w w' : WD} {x y : MethodName} {ret2 : Option FieldType}
theorem k_callQi (C : Cx g X cc nL own lvl) {o ci N : Nat} {T : u_T} {fs : List Value} {r : Int32} {Cn : String} (h1 : Cond.methodLink own idx x ∈ TW) (h2 : Cond.sameMethod x.cls owner x.name x.desc ∈ TW) (h3 : Cond.superclass own x.cls ∈ TW) (h4 : Cond.superclass x.cls owner ∈ TW) (h5 : Cond.instanceMethod y ∈ TW) (h6 : Cond.initialized y.cls ∈ TW) (h7 : Cond.code y cc2 nL2 ret2 ∈ TW) (hyx : y = ⟨owner, x.name, x.desc⟩) (hdd : x.name ≠ "<init>" ∧ (parseMethodDescriptor x.desc).map (fun d => d.parameters.length) = some n) (hM : ∀ l, Mi g l y cc2 nL2 ret2 lv2 (.ref (g_a g o) :: As) w r w') (hlv : Nat.ble (lv2 + 1) lvl = true) (hnl : Nat.ble nL2 21 = true) (hcell : X.2.2.2.2.2.2.2.2.2.2.2.1 ≤ X.2.2.2.1.cells ∧ X.2.2.2.2.2.2.2.2.2.2.2.2 ≤ X.2.2.2.1.slots) (ho : o < 105) (he : shW g w o = .inr (ci, fs)) (hc : vcls[ci]? = some (Cn, T, N)) (hst : st = As.reverse ++ .ref (g_a g o) :: rest) (hn : As.length = n) (hcat : Nat.ble (rest.map fun v => v.category).sum 8 = true) (hd : decode cc pc = .ok (.invokespecial idx, 3)) (h : Wk g X nL (pc + 3) loc (.int r :: rest) w') : Wk g X nL pc loc st w := by
  obtain ⟨p, l, e, R, s, m, args, below, meth, c, Q, cells, slots⟩ := X
  obtain ⟨hx, hb, hml, hown, hts, hK, hg, hbs, hfr, hlo, hnw⟩ := C
  subst hst
  have hR := lv_need (lv2 := lv2) (nL2 := nL2) hlv hnl hfr hlo
  have hG : GoodIn TW (.code y cc2 nL2 ret2 :: TW) := tw_gi (ex := []) h7 (by simp)
  refine fun H locs ls hP hS hl => va_calli (rest := rest) (?_ : va_Run p l e R s m args below meth c H locs cells slots 0 0 (F0 m pc ls (As.reverse ++ .ref (g_a g o) :: rest)) rest (va_Qi (fun (r2 : Int32) (_ : Unit) => r2 = r) (fun _ t => Wat g w' t) (AB g) (Value.ref (g_a g o) :: As).toArray) (AB g)) hS (fun _ _ h => h) (fun _ h => h) (fun r1 _ t H1 locs1 ht hvm hw hB hz1 hk1 hS1 => ?_)
  · have hK2 : Back l R p e below s args y 3 8 (PreOf R 0 0 (va_Pc (.ref (g_a g o) :: As) (fun U => Wpr g w U))) (PostOf (va_Qi (fun (r2 : Int32) (_ : Unit) => r2 = r) (fun _ t => Wat g w' t) (AB g)) 0 0 (AB g)) := back_of (bytes := cc2) (maxL := nL2) (ret := ret2) (hM l) wat_blind rfl rfl hR.1 hR.2 (pay_in hts hG) List.mem_cons_self (fun a' U hW => word_at hW (Or.inl (by first | rfl | simp [Cond.onTables, Cond.keeps, Cond.steady])) (hts _ h6))
    obtain ⟨cellB, hcB, hoB, hclB⟩ := va_recv (q := (Cn, T, N)) hK hP hc (q0 := o) (by rw [wl_at ho, he])
    obtain ⟨-, hfc, kB, hkB, -⟩ := hK.1 ci _ hc
    have hce := Option.some.inj (hfc.symm.trans hclB)
    rw [hce] at hkB
    obtain ⟨mk, methM, hnamed, hmethM, hstM, habM⟩ := Cond.instanceMethod_spec (hts _ h5)
    obtain ⟨methM', cM, hmethM', -, -, -, -, -, -, hsigM⟩ := Cond.code_spec hnamed (hts _ h7)
    cases hmethM.symm.trans hmethM'
    obtain ⟨ps, dk, kp, hps, hdk, hkp, hsuper, -, -, hnid⟩ := Cond.superclass_spec hown (hts _ h3)
    obtain ⟨po, dk2, kp2, hpo, hdk2, hkp2, hsuper2, -, -, -⟩ := Cond.superclass_spec hps (hts _ h4)
    have hpm : po = mk.cls := Option.some.inj (hpo.symm.trans (by rw [hyx] at hnamed; exact findClass_of_methodNamed hnamed))
    have hsz : ps < s.vm.classes.size := (Array.getElem?_eq_some_iff.mp hdk2).1
    have hsub : s.vm.isSubclass ps mk.cls = true := by
      rw [← hpm]
      obtain ⟨k, hk⟩ : ∃ k, s.vm.classes.size = k + 1 := ⟨_, (Nat.succ_pred_eq_of_pos (Nat.lt_of_le_of_lt (Nat.zero_le _) hsz)).symm⟩
      simp only [Vm.isSubclass, Vm.isSubclassAux, hdk2, hsuper2, hk]
      simp
    have hn2 : s.methodNamed? ⟨owner, x.name, x.desc⟩ = some mk := by rw [← hyx]; exact hnamed
    have hsl : ∀ sig, parseMethodDescriptor y.desc = some sig → As.length = sig.parameters.length := by
      intro sig hsig
      have h9 := hdd.2
      rw [hyx] at hsig
      dsimp only at hsig
      rw [hsig] at h9
      exact hn.trans (Option.some.inj h9).symm
    intro T hT X
    obtain ⟨vm₁, X₁, hstep₁⟩ := X.invokespecialUp hx hown (hts _ h1) (hts _ h2) hn2 hmethM hstM habM hdd.1 hdk hnid hps hsuper hsub (a := g_a g o) (cell := cellB) (by rw [hT]; exact hcB)
      (fun z h => by rw [h] at hoB; cases hoB) hkB (g := F0 m pc ls (As.reverse ++ .ref (g_a g o) :: rest)) rfl (argsL := As) (rest := rest) (hsl _ hsigM) rfl (by rw [hb]; exact hd)
    obtain ⟨v, ⟨U', l2, c2, s2⟩, X', ⟨g', mk2, t, L, e1, e2, hq, q1, hL, q2, q3⟩, hsteps⟩ := hK2 m meth c ⟨T.setVm vm₁, locs, cells, slots⟩ { (F0 m pc ls (As.reverse ++ .ref (g_a g o) :: rest)) with stack := rest } (.invokespecial idx) mk (Value.ref (g_a g o) :: As).toArray X₁ rfl (hl.1.trans hml.symm) (by rw [hb]; exact hd) (lv_room (pc := pc) (ls := ls) (rest := rest) (Nat.le_of_ble_eq_true hcat)) (X₁.named hnamed) ⟨hcell.1, hcell.2, rfl, ⟨by show va_P g.1 vcls (wl g w) T.heap; rw [hT]; exact hP, va_K.moved (U := T.setVm vm₁) X₁.warmed.alike hK, by show g_b g ≤ T.heap.size; rw [hT]; exact Nat.le_trans hbs hS.1⟩, hnw.warm X₁.warmed⟩
    dsimp only [Pt.U, Pt.locs, Pt.cells, Pt.slots] at X' e1 e2 q1 q2 q3 hsteps
    subst q1; subst q2; subst q3
    exact ⟨v, (T.setVm vm₁).calling g' mk2 (Value.ref (g_a g o) :: As).toArray, t, U', L, hT, X', hL, e1, e2, hq, fun target h => hstep₁ _ (by rw [doInvoke_state]; exact hsteps.trans h)⟩
  · cases hw
    obtain ⟨hB1, -, -⟩ := hB
    rw [ht] at hB1
    exact h H1 locs1 ls hB1 hS1 hl
end QI
end
section
/-! NAMES of the methods, their code. -/
abbrev c_Bl_init : ByteArray := prog_2_method_1_code
def y_Bl_init : MethodName := ⟨n_Bl, "<init>", "()V"⟩
abbrev c_Bl_number : ByteArray := prog_2_method_2_code
def y_Bl_number : MethodName := ⟨n_Bl, "numbe\x72", "()I"⟩
abbrev c_Bl_goal : ByteArray := prog_2_method_3_code
def y_Bl_goal : MethodName := ⟨n_Bl, "goal", "(III)I"⟩
abbrev c_Bl_pines : ByteArray := prog_2_method_4_code
def y_Bl_pines : MethodName := ⟨n_Bl, "pines", "(II)I"⟩
abbrev c_Bl_pace : ByteArray := prog_2_method_5_code
def y_Bl_pace : MethodName := ⟨n_Bl, "pace", "(II)I"⟩
abbrev c_Bl_price : ByteArray := prog_2_method_6_code
def y_Bl_price : MethodName := ⟨n_Bl, "price", "(I)I"⟩
abbrev c_Co_init : ByteArray := prog_3_method_1_code
def y_Co_init : MethodName := ⟨n_Co, "<init>", "()V"⟩
abbrev c_Co_number : ByteArray := prog_3_method_2_code
def y_Co_number : MethodName := ⟨n_Co, "numbe\x72", "()I"⟩
abbrev c_Co_goal : ByteArray := prog_3_method_3_code
def y_Co_goal : MethodName := ⟨n_Co, "goal", "(III)I"⟩
abbrev c_Co_pines : ByteArray := prog_3_method_4_code
def y_Co_pines : MethodName := ⟨n_Co, "pines", "(II)I"⟩
abbrev c_Co_pace : ByteArray := prog_3_method_5_code
def y_Co_pace : MethodName := ⟨n_Co, "pace", "(II)I"⟩
abbrev c_Co_walk : ByteArray := prog_3_method_6_code
def y_Co_walk : MethodName := ⟨n_Co, "walk", "()I"⟩
abbrev c_Co_price : ByteArray := prog_3_method_7_code
def y_Co_price : MethodName := ⟨n_Co, "price", "(I)I"⟩
abbrev c_Co_fail : ByteArray := prog_3_method_8_code
def y_Co_fail : MethodName := ⟨n_Co, "fail", "(I)V"⟩
abbrev c_Dr_init : ByteArray := prog_4_method_1_code
def y_Dr_init : MethodName := ⟨n_Dr, "<init>", "()V"⟩
abbrev c_Dr_number : ByteArray := prog_4_method_2_code
def y_Dr_number : MethodName := ⟨n_Dr, "numbe\x72", "()I"⟩
abbrev c_Dr_pines : ByteArray := prog_4_method_3_code
def y_Dr_pines : MethodName := ⟨n_Dr, "pines", "(II)I"⟩
abbrev c_Dr_price : ByteArray := prog_4_method_4_code
def y_Dr_price : MethodName := ⟨n_Dr, "price", "(I)I"⟩
abbrev c_Fo_init : ByteArray := prog_5_method_1_code
def y_Fo_init : MethodName := ⟨n_Fo, "<init>", "()V"⟩
abbrev c_Fo_number : ByteArray := prog_5_method_2_code
def y_Fo_number : MethodName := ⟨n_Fo, "numbe\x72", "()I"⟩
abbrev c_Fo_goal : ByteArray := prog_5_method_3_code
def y_Fo_goal : MethodName := ⟨n_Fo, "goal", "(III)I"⟩
abbrev c_Fo_pines : ByteArray := prog_5_method_4_code
def y_Fo_pines : MethodName := ⟨n_Fo, "pines", "(II)I"⟩
abbrev c_Fo_pace : ByteArray := prog_5_method_5_code
def y_Fo_pace : MethodName := ⟨n_Fo, "pace", "(II)I"⟩
abbrev c_Fo_price : ByteArray := prog_5_method_6_code
def y_Fo_price : MethodName := ⟨n_Fo, "price", "(I)I"⟩
abbrev c_Ge_init : ByteArray := prog_6_method_1_code
def y_Ge_init : MethodName := ⟨n_Ge, "<init>", "()V"⟩
abbrev c_Ge_number : ByteArray := prog_6_method_2_code
def y_Ge_number : MethodName := ⟨n_Ge, "numbe\x72", "()I"⟩
abbrev c_Ge_pace : ByteArray := prog_6_method_3_code
def y_Ge_pace : MethodName := ⟨n_Ge, "pace", "(II)I"⟩
abbrev c_Ge_walk : ByteArray := prog_6_method_4_code
def y_Ge_walk : MethodName := ⟨n_Ge, "walk", "()I"⟩
abbrev c_Ge_price : ByteArray := prog_6_method_5_code
def y_Ge_price : MethodName := ⟨n_Ge, "price", "(I)I"⟩
abbrev c_Ho_init : ByteArray := prog_7_method_1_code
def y_Ho_init : MethodName := ⟨n_Ho, "<init>", "()V"⟩
abbrev c_Ho_number : ByteArray := prog_7_method_2_code
def y_Ho_number : MethodName := ⟨n_Ho, "numbe\x72", "()I"⟩
abbrev c_Ho_goal : ByteArray := prog_7_method_3_code
def y_Ho_goal : MethodName := ⟨n_Ho, "goal", "(III)I"⟩
abbrev c_Ho_pines : ByteArray := prog_7_method_4_code
def y_Ho_pines : MethodName := ⟨n_Ho, "pines", "(II)I"⟩
abbrev c_Ho_pace : ByteArray := prog_7_method_5_code
def y_Ho_pace : MethodName := ⟨n_Ho, "pace", "(II)I"⟩
abbrev c_Ho_walk : ByteArray := prog_7_method_6_code
def y_Ho_walk : MethodName := ⟨n_Ho, "walk", "()I"⟩
abbrev c_Ho_price : ByteArray := prog_7_method_7_code
def y_Ho_price : MethodName := ⟨n_Ho, "price", "(I)I"⟩
abbrev c_Ho_fail : ByteArray := prog_7_method_8_code
def y_Ho_fail : MethodName := ⟨n_Ho, "fail", "(I)V"⟩
abbrev c_La_init : ByteArray := prog_8_method_1_code
def y_La_init : MethodName := ⟨n_La, "<init>", "([LHiredByLonging$Horse;)V"⟩
abbrev c_La_become : ByteArray := prog_8_method_2_code
def y_La_become : MethodName := ⟨n_La, "become", "(LHiredByLonging$Land;)V"⟩
abbrev c_La_gets : ByteArray := prog_8_method_3_code
def y_La_gets : MethodName := ⟨n_La, "gets", "(LHiredByLonging$Horse;III)Z"⟩
abbrev c_La_hasDays : ByteArray := prog_8_method_4_code
def y_La_hasDays : MethodName := ⟨n_La, "hasDays", "(I)Z"⟩
abbrev c_La_pass : ByteArray := prog_8_method_5_code
def y_La_pass : MethodName := ⟨n_La, "pass", "(I)V"⟩
abbrev c_La_ride : ByteArray := prog_8_method_6_code
def y_La_ride : MethodName := ⟨n_La, "ride", "(II)I"⟩
abbrev c_La_allLonging : ByteArray := prog_8_method_7_code
def y_La_allLonging : MethodName := ⟨n_La, "allLonging", "()I"⟩
abbrev c_La_allPace : ByteArray := prog_8_method_8_code
def y_La_allPace : MethodName := ⟨n_La, "allPace", "()I"⟩
abbrev c_La_allResting : ByteArray := prog_8_method_9_code
def y_La_allResting : MethodName := ⟨n_La, "allResting", "()I"⟩
abbrev c_La_follow : ByteArray := prog_8_method_10_code
def y_La_follow : MethodName := ⟨n_La, "follow", "(LHiredByLonging$Shelf;I)Z"⟩
abbrev c_La_followHorse : ByteArray := prog_8_method_11_code
def y_La_followHorse : MethodName := ⟨n_La, "followHorse", "(LHiredByLonging$Shelf;I)Z"⟩
abbrev c_La_followOats : ByteArray := prog_8_method_12_code
def y_La_followOats : MethodName := ⟨n_La, "followOats", "(I)Z"⟩
abbrev c_La_followDays : ByteArray := prog_8_method_13_code
def y_La_followDays : MethodName := ⟨n_La, "followDays", "(I)Z"⟩
abbrev c_La_followLonging : ByteArray := prog_8_method_14_code
def y_La_followLonging : MethodName := ⟨n_La, "followLonging", "(II)Z"⟩
abbrev c_Ma_init : ByteArray := prog_9_method_1_code
def y_Ma_init : MethodName := ⟨n_Ma, "<init>", "()V"⟩
abbrev c_Ma_number : ByteArray := prog_9_method_2_code
def y_Ma_number : MethodName := ⟨n_Ma, "numbe\x72", "()I"⟩
abbrev c_Ma_goal : ByteArray := prog_9_method_3_code
def y_Ma_goal : MethodName := ⟨n_Ma, "goal", "(III)I"⟩
abbrev c_Ma_pines : ByteArray := prog_9_method_4_code
def y_Ma_pines : MethodName := ⟨n_Ma, "pines", "(II)I"⟩
abbrev c_Ma_pace : ByteArray := prog_9_method_5_code
def y_Ma_pace : MethodName := ⟨n_Ma, "pace", "(II)I"⟩
abbrev c_Ma_walk : ByteArray := prog_9_method_6_code
def y_Ma_walk : MethodName := ⟨n_Ma, "walk", "()I"⟩
abbrev c_Ma_price : ByteArray := prog_9_method_7_code
def y_Ma_price : MethodName := ⟨n_Ma, "price", "(I)I"⟩
abbrev c_Ma_fail : ByteArray := prog_9_method_8_code
def y_Ma_fail : MethodName := ⟨n_Ma, "fail", "(I)V"⟩
abbrev c_Sh_init : ByteArray := prog_10_method_1_code
def y_Sh_init : MethodName := ⟨n_Sh, "<init>", "(LHiredByLonging$Horse;)V"⟩
abbrev c_Sh_getRow : ByteArray := prog_10_method_2_code
def y_Sh_getRow : MethodName := ⟨n_Sh, "getRow", "(II)V"⟩
abbrev c_Sh_set : ByteArray := prog_10_method_3_code
def y_Sh_set : MethodName := ⟨n_Sh, "set", "(II)V"⟩
abbrev c_Sh_hasPlaces : ByteArray := prog_10_method_4_code
def y_Sh_hasPlaces : MethodName := ⟨n_Sh, "hasPlaces", "(II)Z"⟩
abbrev c_Sh_tells : ByteArray := prog_10_method_5_code
def y_Sh_tells : MethodName := ⟨n_Sh, "tells", "(II)Z"⟩
abbrev c_Sh_leastOfSort : ByteArray := prog_10_method_6_code
def y_Sh_leastOfSort : MethodName := ⟨n_Sh, "leastOfSort", "()I"⟩
abbrev c_Sh_digit : ByteArray := prog_10_method_7_code
def y_Sh_digit : MethodName := ⟨n_Sh, "digit", "(I)I"⟩
abbrev c_Sh_number : ByteArray := prog_10_method_8_code
def y_Sh_number : MethodName := ⟨n_Sh, "numbe\x72", "(I)I"⟩
abbrev c_St_init : ByteArray := prog_11_method_1_code
def y_St_init : MethodName := ⟨n_St, "<init>", "(LHiredByLonging$Horse;)V"⟩
abbrev c_St_become : ByteArray := prog_11_method_2_code
def y_St_become : MethodName := ⟨n_St, "become", "(LHiredByLonging$Steed;)V"⟩
abbrev c_St_goal : ByteArray := prog_11_method_3_code
def y_St_goal : MethodName := ⟨n_St, "goal", "(I)I"⟩
abbrev c_St_pace : ByteArray := prog_11_method_4_code
def y_St_pace : MethodName := ⟨n_St, "pace", "()I"⟩
abbrev c_St_rests : ByteArray := prog_11_method_5_code
def y_St_rests : MethodName := ⟨n_St, "rests", "(I)Z"⟩
abbrev c_St_pine : ByteArray := prog_11_method_6_code
def y_St_pine : MethodName := ⟨n_St, "pine", "(I)V"⟩
abbrev c_St_stay : ByteArray := prog_11_method_7_code
def y_St_stay : MethodName := ⟨n_St, "stay", "(II)V"⟩
abbrev c_St_move : ByteArray := prog_11_method_8_code
def y_St_move : MethodName := ⟨n_St, "move", "(II)V"⟩
abbrev c_St_ride : ByteArray := prog_11_method_9_code
def y_St_ride : MethodName := ⟨n_St, "ride", "(II)I"⟩
abbrev c_Tw_init : ByteArray := prog_12_method_1_code
def y_Tw_init : MethodName := ⟨n_Tw, "<init>", "()V"⟩
abbrev c_Tw_number : ByteArray := prog_12_method_2_code
def y_Tw_number : MethodName := ⟨n_Tw, "numbe\x72", "()I"⟩
abbrev c_Tw_goal : ByteArray := prog_12_method_3_code
def y_Tw_goal : MethodName := ⟨n_Tw, "goal", "(III)I"⟩
abbrev c_Tw_price : ByteArray := prog_12_method_4_code
def y_Tw_price : MethodName := ⟨n_Tw, "price", "(I)I"⟩
abbrev c_Tw_fail : ByteArray := prog_12_method_5_code
def y_Tw_fail : MethodName := ⟨n_Tw, "fail", "(I)V"⟩
abbrev c_Hb_init : ByteArray := prog_1_method_1_code
def y_Hb_init : MethodName := ⟨n_Hb, "<init>", "()V"⟩
abbrev c_Hb_land : ByteArray := prog_1_method_2_code
def y_Hb_land : MethodName := ⟨n_Hb, "land", "(I)I"⟩
abbrev c_Hb_horse : ByteArray := prog_1_method_3_code
def y_Hb_horse : MethodName := ⟨n_Hb, "horse", "(II)I"⟩
abbrev c_Hb_comes : ByteArray := prog_1_method_4_code
def y_Hb_comes : MethodName := ⟨n_Hb, "comes", "(III)I"⟩
abbrev c_Hb_rides : ByteArray := prog_1_method_5_code
def y_Hb_rides : MethodName := ⟨n_Hb, "rides", "(II)I"⟩
abbrev c_Hb_taken : ByteArray := prog_1_method_6_code
def y_Hb_taken : MethodName := ⟨n_Hb, "taken", "(II)I"⟩
abbrev c_Hb_longs : ByteArray := prog_1_method_7_code
def y_Hb_longs : MethodName := ⟨n_Hb, "longs", "(II)I"⟩
abbrev c_Hb_hangs : ByteArray := prog_1_method_8_code
def y_Hb_hangs : MethodName := ⟨n_Hb, "hangs", "(I)I"⟩
abbrev c_Hb_days : ByteArray := prog_1_method_9_code
def y_Hb_days : MethodName := ⟨n_Hb, "days", "(I)I"⟩
abbrev c_Hb_howLong : ByteArray := prog_1_method_10_code
def y_Hb_howLong : MethodName := ⟨n_Hb, "howLong", "(II)I"⟩
abbrev c_Hb_behind : ByteArray := prog_1_method_11_code
def y_Hb_behind : MethodName := ⟨n_Hb, "behind", "(III)I"⟩
abbrev c_Hb_chain : ByteArray := prog_1_method_12_code
def y_Hb_chain : MethodName := ⟨n_Hb, "chain", "(III)I"⟩
abbrev c_Hb_hurry : ByteArray := prog_1_method_13_code
def y_Hb_hurry : MethodName := ⟨n_Hb, "hurry", "(II)I"⟩
abbrev c_Hb_fastest : ByteArray := prog_1_method_14_code
def y_Hb_fastest : MethodName := ⟨n_Hb, "fastest", "(I)I"⟩
abbrev c_Hb_away : ByteArray := prog_1_method_15_code
def y_Hb_away : MethodName := ⟨n_Hb, "away", "()I"⟩
abbrev c_Hb_ripe : ByteArray := prog_1_method_16_code
def y_Hb_ripe : MethodName := ⟨n_Hb, "ripe", "(II)I"⟩
abbrev c_Hb_leastLonging : ByteArray := prog_1_method_17_code
def y_Hb_leastLonging : MethodName := ⟨n_Hb, "leastLonging", "(III)I"⟩
abbrev c_Hb_soonest : ByteArray := prog_1_method_18_code
def y_Hb_soonest : MethodName := ⟨n_Hb, "soonest", "(III)I"⟩
abbrev c_Hb_race : ByteArray := prog_1_method_19_code
def y_Hb_race : MethodName := ⟨n_Hb, "race", "(III)I"⟩
abbrev c_Hb_walkAhead : ByteArray := prog_1_method_20_code
def y_Hb_walkAhead : MethodName := ⟨n_Hb, "walkAhead", "(IIII)I"⟩
abbrev c_Hb_hang : ByteArray := prog_1_method_21_code
def y_Hb_hang : MethodName := ⟨n_Hb, "hang", "(II)I"⟩
abbrev c_Hb_meet : ByteArray := prog_1_method_22_code
def y_Hb_meet : MethodName := ⟨n_Hb, "meet", "(I)I"⟩
abbrev c_Hb_spread : ByteArray := prog_1_method_23_code
def y_Hb_spread : MethodName := ⟨n_Hb, "spread", "()I"⟩
abbrev c_Hb_fees : ByteArray := prog_1_method_24_code
def y_Hb_fees : MethodName := ⟨n_Hb, "fees", "(II)I"⟩
abbrev c_Hb_homes : ByteArray := prog_1_method_25_code
def y_Hb_homes : MethodName := ⟨n_Hb, "homes", "(IIII)I"⟩
abbrev c_Hb_whatIs : ByteArray := prog_1_method_26_code
def y_Hb_whatIs : MethodName := ⟨n_Hb, "whatIs", "(IIII)I"⟩
abbrev c_Hb_two : ByteArray := prog_1_method_27_code
def y_Hb_two : MethodName := ⟨n_Hb, "two", "(III)I"⟩
abbrev c_Hb_storm : ByteArray := prog_1_method_28_code
def y_Hb_storm : MethodName := ⟨n_Hb, "storm", "(IIIII)J"⟩
abbrev c_Hb_mean : ByteArray := prog_1_method_29_code
def y_Hb_mean : MethodName := ⟨n_Hb, "mean", "(I)J"⟩
abbrev c_Hb_forged : ByteArray := prog_1_method_30_code
def y_Hb_forged : MethodName := ⟨n_Hb, "forged", "(I)I"⟩
abbrev c_Hb_judge : ByteArray := prog_1_method_31_code
def y_Hb_judge : MethodName := ⟨n_Hb, "judge", "(I)I"⟩
abbrev c_Hb_lands : ByteArray := prog_1_method_32_code
def y_Hb_lands : MethodName := ⟨n_Hb, "lands", "(III)I"⟩
abbrev c_Hb_image : ByteArray := prog_1_method_33_code
def y_Hb_image : MethodName := ⟨n_Hb, "image", "()I"⟩
abbrev c_Hb_restore : ByteArray := prog_1_method_34_code
def y_Hb_restore : MethodName := ⟨n_Hb, "restore", "()I"⟩
abbrev c_Hb_count : ByteArray := prog_1_method_35_code
def y_Hb_count : MethodName := ⟨n_Hb, "count", "(I)I"⟩
abbrev c_Hb_keep : ByteArray := prog_1_method_36_code
def y_Hb_keep : MethodName := ⟨n_Hb, "keep", "(IIII)I"⟩
abbrev c_Hb_row : ByteArray := prog_1_method_37_code
def y_Hb_row : MethodName := ⟨n_Hb, "row", "(III)I"⟩
abbrev c_Hb_put : ByteArray := prog_1_method_38_code
def y_Hb_put : MethodName := ⟨n_Hb, "put", "(III)I"⟩
abbrev c_Hb_element : ByteArray := prog_1_method_39_code
def y_Hb_element : MethodName := ⟨n_Hb, "element", "(II)J"⟩
abbrev c_Hb_copy : ByteArray := prog_1_method_40_code
def y_Hb_copy : MethodName := ⟨n_Hb, "copy", "(IIIII)I"⟩
abbrev c_Hb_cost : ByteArray := prog_1_method_41_code
def y_Hb_cost : MethodName := ⟨n_Hb, "cost", "(I)I"⟩
abbrev c_Hb_toss : ByteArray := prog_1_method_42_code
def y_Hb_toss : MethodName := ⟨n_Hb, "toss", "(I)I"⟩
abbrev c_Hb_isWithin : ByteArray := prog_1_method_43_code
def y_Hb_isWithin : MethodName := ⟨n_Hb, "isWithin", "(III)Z"⟩
abbrev c_Hb_isEither : ByteArray := prog_1_method_44_code
def y_Hb_isEither : MethodName := ⟨n_Hb, "isEithe\x72", "(I)Z"⟩
abbrev c_Hb_isYard : ByteArray := prog_1_method_45_code
def y_Hb_isYard : MethodName := ⟨n_Hb, "isYard", "(I)Z"⟩
abbrev c_Hb_isKind : ByteArray := prog_1_method_46_code
def y_Hb_isKind : MethodName := ⟨n_Hb, "isKind", "(I)Z"⟩
abbrev c_Hb_isShelf : ByteArray := prog_1_method_47_code
def y_Hb_isShelf : MethodName := ⟨n_Hb, "isShelf", "(I)Z"⟩
abbrev c_Hb_isHorse : ByteArray := prog_1_method_48_code
def y_Hb_isHorse : MethodName := ⟨n_Hb, "isHorse", "(I)Z"⟩
abbrev c_Hb_refusalOfRow : ByteArray := prog_1_method_49_code
def y_Hb_refusalOfRow : MethodName := ⟨n_Hb, "refusalOfRow", "(I)I"⟩
abbrev c_Hb_refusalOfKind : ByteArray := prog_1_method_50_code
def y_Hb_refusalOfKind : MethodName := ⟨n_Hb, "refusalOfKind", "(I)I"⟩
abbrev c_Hb_refusalOf : ByteArray := prog_1_method_51_code
def y_Hb_refusalOf : MethodName := ⟨n_Hb, "refusalOf", "(II)I"⟩
abbrev c_Hb_placeOfLack : ByteArray := prog_1_method_52_code
def y_Hb_placeOfLack : MethodName := ⟨n_Hb, "placeOfLack", "(LHiredByLonging$Shelf;)I"⟩
abbrev c_Hb_digitsBehind : ByteArray := prog_1_method_53_code
def y_Hb_digitsBehind : MethodName := ⟨n_Hb, "digitsBehind", "(I)I"⟩
abbrev c_Hb_daysOfRide : ByteArray := prog_1_method_54_code
def y_Hb_daysOfRide : MethodName := ⟨n_Hb, "daysOfRide", "(LHiredByLonging$Steed;I)I"⟩
abbrev c_Hb_daysOfLaterRide : ByteArray := prog_1_method_55_code
def y_Hb_daysOfLaterRide : MethodName := ⟨n_Hb, "daysOfLaterRide", "(LHiredByLonging$Steed;II)I"⟩
abbrev c_Hb_chainWith : ByteArray := prog_1_method_56_code
def y_Hb_chainWith : MethodName := ⟨n_Hb, "chainWith", "([LHiredByLonging$Land;IIII)I"⟩
abbrev c_Hb_chainOn : ByteArray := prog_1_method_57_code
def y_Hb_chainOn : MethodName := ⟨n_Hb, "chainOn", "([LHiredByLonging$Land;IIII)I"⟩
abbrev c_Hb_feesOf : ByteArray := prog_1_method_58_code
def y_Hb_feesOf : MethodName := ⟨n_Hb, "feesOf", "(LHiredByLonging$Steed;I)I"⟩
abbrev c_Hb_isTold : ByteArray := prog_1_method_59_code
def y_Hb_isTold : MethodName := ⟨n_Hb, "isTold", "(LHiredByLonging$Steed;LHiredByLonging$Shelf;I)Z"⟩
abbrev c_Hb_kindsTold : ByteArray := prog_1_method_60_code
def y_Hb_kindsTold : MethodName := ⟨n_Hb, "kindsTold", "(LHiredByLonging$Shelf;II)I"⟩
abbrev c_Hb_figuresTold : ByteArray := prog_1_method_61_code
def y_Hb_figuresTold : MethodName := ⟨n_Hb, "figuresTold", "(LHiredByLonging$Shelf;II)I"⟩
abbrev c_Hb_isBest : ByteArray := prog_1_method_62_code
def y_Hb_isBest : MethodName := ⟨n_Hb, "isBest", "(IIIII)Z"⟩
abbrev c_Hb_gain : ByteArray := prog_1_method_63_code
def y_Hb_gain : MethodName := ⟨n_Hb, "gain", "(III)I"⟩
abbrev c_Hb_partOf : ByteArray := prog_1_method_64_code
def y_Hb_partOf : MethodName := ⟨n_Hb, "partOf", "(JJI)J"⟩
abbrev c_Mo_init : ByteArray := prog_14_method_1_code
def y_Mo_init : MethodName := ⟨n_Mo, "<init>", "()V"⟩
abbrev c_Mo_thrown : ByteArray := prog_14_method_2_code
def y_Mo_thrown : MethodName := ⟨n_Mo, "thrown", "()I"⟩
abbrev c_Mo_in : ByteArray := prog_14_method_3_code
def y_Mo_in : MethodName := ⟨n_Mo, "in", "(JJJ)Z"⟩
abbrev c_Mo_hasBit : ByteArray := prog_14_method_4_code
def y_Mo_hasBit : MethodName := ⟨n_Mo, "hasBit", "(II)Z"⟩
abbrev c_Mo_isYard : ByteArray := prog_14_method_5_code
def y_Mo_isYard : MethodName := ⟨n_Mo, "isYard", "(I)Z"⟩
abbrev c_Mo_isHorse : ByteArray := prog_14_method_6_code
def y_Mo_isHorse : MethodName := ⟨n_Mo, "isHorse", "(I)Z"⟩
abbrev c_Mo_least : ByteArray := prog_14_method_7_code
def y_Mo_least : MethodName := ⟨n_Mo, "least", "(II)I"⟩
abbrev c_Mo_apart : ByteArray := prog_14_method_8_code
def y_Mo_apart : MethodName := ⟨n_Mo, "apart", "(II)I"⟩
abbrev c_Mo_goalOf : ByteArray := prog_14_method_9_code
def y_Mo_goalOf : MethodName := ⟨n_Mo, "goalOf", "(I)I"⟩
abbrev c_Mo_pinesOf : ByteArray := prog_14_method_10_code
def y_Mo_pinesOf : MethodName := ⟨n_Mo, "pinesOf", "(I)I"⟩
abbrev c_Mo_paceOf : ByteArray := prog_14_method_11_code
def y_Mo_paceOf : MethodName := ⟨n_Mo, "paceOf", "(I)I"⟩
abbrev c_Mo_walkOf : ByteArray := prog_14_method_12_code
def y_Mo_walkOf : MethodName := ⟨n_Mo, "walkOf", "(I)I"⟩
abbrev c_Mo_dayBy : ByteArray := prog_14_method_13_code
def y_Mo_dayBy : MethodName := ⟨n_Mo, "dayBy", "(Z)V"⟩
abbrev c_Mo_goDays : ByteArray := prog_14_method_14_code
def y_Mo_goDays : MethodName := ⟨n_Mo, "goDays", "(I)V"⟩
abbrev c_Mo_rideOn : ByteArray := prog_14_method_15_code
def y_Mo_rideOn : MethodName := ⟨n_Mo, "rideOn", "(II)V"⟩
abbrev c_Mo_ride : ByteArray := prog_14_method_16_code
def y_Mo_ride : MethodName := ⟨n_Mo, "ride", "(II)I"⟩
abbrev c_Mo_allLonging : ByteArray := prog_14_method_17_code
def y_Mo_allLonging : MethodName := ⟨n_Mo, "allLonging", "()I"⟩
abbrev c_Mo_atGoals : ByteArray := prog_14_method_18_code
def y_Mo_atGoals : MethodName := ⟨n_Mo, "atGoals", "()I"⟩
abbrev c_Mo_here : ByteArray := prog_14_method_19_code
def y_Mo_here : MethodName := ⟨n_Mo, "here", "()I"⟩
abbrev c_Mo_readDigits : ByteArray := prog_14_method_20_code
def y_Mo_readDigits : MethodName := ⟨n_Mo, "readDigits", "(I)I"⟩
abbrev c_Mo_isLetter : ByteArray := prog_14_method_21_code
def y_Mo_isLetter : MethodName := ⟨n_Mo, "isLette\x72", "(I)Z"⟩
abbrev c_Mo_readNumbers : ByteArray := prog_14_method_22_code
def y_Mo_readNumbers : MethodName := ⟨n_Mo, "readNumbers", "(II)V"⟩
abbrev c_Mo_readStatement : ByteArray := prog_14_method_23_code
def y_Mo_readStatement : MethodName := ⟨n_Mo, "readStatement", "()V"⟩
abbrev c_Mo_horseComes : ByteArray := prog_14_method_24_code
def y_Mo_horseComes : MethodName := ⟨n_Mo, "horseComes", "(IIII)Z"⟩
abbrev c_Mo_daysCome : ByteArray := prog_14_method_25_code
def y_Mo_daysCome : MethodName := ⟨n_Mo, "daysCome", "(I)Z"⟩
abbrev c_Mo_comesTold : ByteArray := prog_14_method_26_code
def y_Mo_comesTold : MethodName := ⟨n_Mo, "comesTold", "(I)Z"⟩
abbrev c_Mo_land : ByteArray := prog_14_method_27_code
def y_Mo_land : MethodName := ⟨n_Mo, "land", "(I)I"⟩
abbrev c_Mo_carry : ByteArray := prog_14_method_28_code
def y_Mo_carry : MethodName := ⟨n_Mo, "carry", "(I)I"⟩
abbrev c_Mo_carryAll : ByteArray := prog_14_method_29_code
def y_Mo_carryAll : MethodName := ⟨n_Mo, "carryAll", "([IZ)V"⟩
abbrev c_Mo_open : ByteArray := prog_14_method_30_code
def y_Mo_open : MethodName := ⟨n_Mo, "open", "()V"⟩
abbrev c_Mo_close : ByteArray := prog_14_method_31_code
def y_Mo_close : MethodName := ⟨n_Mo, "close", "()V"⟩
abbrev c_Mo_image : ByteArray := prog_14_method_32_code
def y_Mo_image : MethodName := ⟨n_Mo, "image", "()I"⟩
abbrev c_Mo_restore : ByteArray := prog_14_method_33_code
def y_Mo_restore : MethodName := ⟨n_Mo, "restore", "()I"⟩
abbrev c_Mo_horse : ByteArray := prog_14_method_34_code
def y_Mo_horse : MethodName := ⟨n_Mo, "horse", "(II)I"⟩
abbrev c_Mo_wrongKept : ByteArray := prog_14_method_35_code
def y_Mo_wrongKept : MethodName := ⟨n_Mo, "wrongKept", "(I)I"⟩
abbrev c_Mo_comes : ByteArray := prog_14_method_36_code
def y_Mo_comes : MethodName := ⟨n_Mo, "comes", "(III)I"⟩
abbrev c_Mo_rides : ByteArray := prog_14_method_37_code
def y_Mo_rides : MethodName := ⟨n_Mo, "rides", "(II)I"⟩
abbrev c_Mo_taken : ByteArray := prog_14_method_38_code
def y_Mo_taken : MethodName := ⟨n_Mo, "taken", "(II)I"⟩
abbrev c_Mo_longs : ByteArray := prog_14_method_39_code
def y_Mo_longs : MethodName := ⟨n_Mo, "longs", "(II)I"⟩
abbrev c_Mo_hangs : ByteArray := prog_14_method_40_code
def y_Mo_hangs : MethodName := ⟨n_Mo, "hangs", "(I)I"⟩
abbrev c_Mo_days : ByteArray := prog_14_method_41_code
def y_Mo_days : MethodName := ⟨n_Mo, "days", "(I)I"⟩
abbrev c_Mo_ownRide : ByteArray := prog_14_method_42_code
def y_Mo_ownRide : MethodName := ⟨n_Mo, "ownRide", "(II)I"⟩
abbrev c_Mo_howLong : ByteArray := prog_14_method_43_code
def y_Mo_howLong : MethodName := ⟨n_Mo, "howLong", "(II)I"⟩
abbrev c_Mo_behind : ByteArray := prog_14_method_44_code
def y_Mo_behind : MethodName := ⟨n_Mo, "behind", "(III)I"⟩
abbrev c_Mo_takeChain : ByteArray := prog_14_method_45_code
def y_Mo_takeChain : MethodName := ⟨n_Mo, "takeChain", "(II)V"⟩
abbrev c_Mo_thirdRides : ByteArray := prog_14_method_46_code
def y_Mo_thirdRides : MethodName := ⟨n_Mo, "thirdRides", "(IIIII)V"⟩
abbrev c_Mo_secondRides : ByteArray := prog_14_method_47_code
def y_Mo_secondRides : MethodName := ⟨n_Mo, "secondRides", "(IIII)V"⟩
abbrev c_Mo_chain : ByteArray := prog_14_method_48_code
def y_Mo_chain : MethodName := ⟨n_Mo, "chain", "(III)I"⟩
abbrev c_Mo_hurry : ByteArray := prog_14_method_49_code
def y_Mo_hurry : MethodName := ⟨n_Mo, "hurry", "(II)I"⟩
abbrev c_Mo_fastest : ByteArray := prog_14_method_50_code
def y_Mo_fastest : MethodName := ⟨n_Mo, "fastest", "(I)I"⟩
abbrev c_Mo_away : ByteArray := prog_14_method_51_code
def y_Mo_away : MethodName := ⟨n_Mo, "away", "()I"⟩
abbrev c_Mo_ripe : ByteArray := prog_14_method_52_code
def y_Mo_ripe : MethodName := ⟨n_Mo, "ripe", "(II)I"⟩
abbrev c_Mo_leastLonging : ByteArray := prog_14_method_53_code
def y_Mo_leastLonging : MethodName := ⟨n_Mo, "leastLonging", "(III)I"⟩
abbrev c_Mo_soonest : ByteArray := prog_14_method_54_code
def y_Mo_soonest : MethodName := ⟨n_Mo, "soonest", "(III)I"⟩
abbrev c_Mo_race : ByteArray := prog_14_method_55_code
def y_Mo_race : MethodName := ⟨n_Mo, "race", "(III)I"⟩
abbrev c_Mo_walkAhead : ByteArray := prog_14_method_56_code
def y_Mo_walkAhead : MethodName := ⟨n_Mo, "walkAhead", "(IIII)I"⟩
abbrev c_Mo_hang : ByteArray := prog_14_method_57_code
def y_Mo_hang : MethodName := ⟨n_Mo, "hang", "(II)I"⟩
abbrev c_Mo_meet : ByteArray := prog_14_method_58_code
def y_Mo_meet : MethodName := ⟨n_Mo, "meet", "(I)I"⟩
abbrev c_Mo_spread : ByteArray := prog_14_method_59_code
def y_Mo_spread : MethodName := ⟨n_Mo, "spread", "()I"⟩
abbrev c_Mo_feesOf : ByteArray := prog_14_method_60_code
def y_Mo_feesOf : MethodName := ⟨n_Mo, "feesOf", "(II)I"⟩
abbrev c_Mo_fees : ByteArray := prog_14_method_61_code
def y_Mo_fees : MethodName := ⟨n_Mo, "fees", "(II)I"⟩
abbrev c_Mo_skipped : ByteArray := prog_14_method_62_code
def y_Mo_skipped : MethodName := ⟨n_Mo, "skipped", "(I)J"⟩
abbrev c_Mo_isRow : ByteArray := prog_14_method_63_code
def y_Mo_isRow : MethodName := ⟨n_Mo, "isRow", "(III)Z"⟩
abbrev c_Mo_homes : ByteArray := prog_14_method_64_code
def y_Mo_homes : MethodName := ⟨n_Mo, "homes", "(IIII)I"⟩
abbrev c_Mo_whatIs : ByteArray := prog_14_method_65_code
def y_Mo_whatIs : MethodName := ⟨n_Mo, "whatIs", "(IIII)I"⟩
abbrev c_Mo_waitedRide : ByteArray := prog_14_method_66_code
def y_Mo_waitedRide : MethodName := ⟨n_Mo, "waitedRide", "(III)I"⟩
abbrev c_Mo_two : ByteArray := prog_14_method_67_code
def y_Mo_two : MethodName := ⟨n_Mo, "two", "(III)I"⟩
abbrev c_Mo_hasBy : ByteArray := prog_14_method_68_code
def y_Mo_hasBy : MethodName := ⟨n_Mo, "hasBy", "(III)I"⟩
abbrev c_Mo_divisor : ByteArray := prog_14_method_69_code
def y_Mo_divisor : MethodName := ⟨n_Mo, "diviso\x72", "(JJ)J"⟩
abbrev c_Mo_partOf : ByteArray := prog_14_method_70_code
def y_Mo_partOf : MethodName := ⟨n_Mo, "partOf", "(JJI)J"⟩
abbrev c_Mo_storm : ByteArray := prog_14_method_71_code
def y_Mo_storm : MethodName := ⟨n_Mo, "storm", "(IIIII)J"⟩
abbrev c_Mo_mean : ByteArray := prog_14_method_72_code
def y_Mo_mean : MethodName := ⟨n_Mo, "mean", "(I)J"⟩
abbrev c_Mo_forged : ByteArray := prog_14_method_73_code
def y_Mo_forged : MethodName := ⟨n_Mo, "forged", "(I)I"⟩
abbrev c_Mo_judge : ByteArray := prog_14_method_74_code
def y_Mo_judge : MethodName := ⟨n_Mo, "judge", "(I)I"⟩
abbrev c_Mo_drawBelow : ByteArray := prog_14_method_75_code
def y_Mo_drawBelow : MethodName := ⟨n_Mo, "drawBelow", "(I)I"⟩
abbrev c_Mo_lands : ByteArray := prog_14_method_76_code
def y_Mo_lands : MethodName := ⟨n_Mo, "lands", "(III)I"⟩
abbrev c_Mo_count : ByteArray := prog_14_method_77_code
def y_Mo_count : MethodName := ⟨n_Mo, "count", "(I)I"⟩
abbrev c_Mo_keep : ByteArray := prog_14_method_78_code
def y_Mo_keep : MethodName := ⟨n_Mo, "keep", "(IIII)I"⟩
abbrev c_Mo_wrongRow : ByteArray := prog_14_method_79_code
def y_Mo_wrongRow : MethodName := ⟨n_Mo, "wrongRow", "(I)I"⟩
abbrev c_Mo_narrowed : ByteArray := prog_14_method_80_code
def y_Mo_narrowed : MethodName := ⟨n_Mo, "narrowed", "(II)J"⟩
abbrev c_Mo_row : ByteArray := prog_14_method_81_code
def y_Mo_row : MethodName := ⟨n_Mo, "row", "(III)I"⟩
abbrev c_Mo_put : ByteArray := prog_14_method_82_code
def y_Mo_put : MethodName := ⟨n_Mo, "put", "(III)I"⟩
abbrev c_Mo_element : ByteArray := prog_14_method_83_code
def y_Mo_element : MethodName := ⟨n_Mo, "element", "(II)J"⟩
abbrev c_Mo_copy : ByteArray := prog_14_method_84_code
def y_Mo_copy : MethodName := ⟨n_Mo, "copy", "(IIIII)I"⟩
abbrev c_Mo_costOf : ByteArray := prog_14_method_85_code
def y_Mo_costOf : MethodName := ⟨n_Mo, "costOf", "(II)I"⟩
abbrev c_Mo_cost : ByteArray := prog_14_method_86_code
def y_Mo_cost : MethodName := ⟨n_Mo, "cost", "(I)I"⟩
abbrev c_Mo_toss : ByteArray := prog_14_method_87_code
def y_Mo_toss : MethodName := ⟨n_Mo, "toss", "(I)I"⟩
abbrev c_In_compare : ByteArray := prog_18_method_40_code
def y_In_compare : MethodName := ⟨n_In, "compare", "(II)I"⟩
abbrev c_In_bitCount : ByteArray := prog_18_method_49_code
def y_In_bitCount : MethodName := ⟨n_In, "bitCount", "(I)I"⟩
theorem ic_m1 : Int32.ofInt (-1) = (-1) := by decide
theorem ic_0 : Int32.ofInt 0 = 0 := by decide
theorem ic_1 : Int32.ofInt 1 = 1 := by decide
theorem ic_2 : Int32.ofInt 2 = 2 := by decide
theorem ic_3 : Int32.ofInt 3 = 3 := by decide
theorem ic_4 : Int32.ofInt 4 = 4 := by decide
theorem ic_5 : Int32.ofInt 5 = 5 := by decide
theorem bp_m128 : (Int8.ofInt (-128)).toInt32 = (-128) := by decide
theorem bp_m15 : (Int8.ofInt (-15)).toInt32 = (-15) := by decide
theorem bp_m14 : (Int8.ofInt (-14)).toInt32 = (-14) := by decide
theorem bp_m13 : (Int8.ofInt (-13)).toInt32 = (-13) := by decide
theorem bp_m12 : (Int8.ofInt (-12)).toInt32 = (-12) := by decide
theorem bp_m11 : (Int8.ofInt (-11)).toInt32 = (-11) := by decide
theorem bp_m4 : (Int8.ofInt (-4)).toInt32 = (-4) := by decide
theorem bp_m3 : (Int8.ofInt (-3)).toInt32 = (-3) := by decide
theorem bp_m2 : (Int8.ofInt (-2)).toInt32 = (-2) := by decide
theorem bp_6 : (Int8.ofInt 6).toInt32 = 6 := by decide
theorem bp_7 : (Int8.ofInt 7).toInt32 = 7 := by decide
theorem bp_8 : (Int8.ofInt 8).toInt32 = 8 := by decide
theorem bp_9 : (Int8.ofInt 9).toInt32 = 9 := by decide
theorem bp_10 : (Int8.ofInt 10).toInt32 = 10 := by decide
theorem bp_16 : (Int8.ofInt 16).toInt32 = 16 := by decide
theorem bp_20 : (Int8.ofInt 20).toInt32 = 20 := by decide
theorem bp_21 : (Int8.ofInt 21).toInt32 = 21 := by decide
theorem bp_30 : (Int8.ofInt 30).toInt32 = 30 := by decide
theorem bp_48 : (Int8.ofInt 48).toInt32 = 48 := by decide
theorem bp_57 : (Int8.ofInt 57).toInt32 = 57 := by decide
theorem bp_59 : (Int8.ofInt 59).toInt32 = 59 := by decide
theorem bp_60 : (Int8.ofInt 60).toInt32 = 60 := by decide
theorem bp_63 : (Int8.ofInt 63).toInt32 = 63 := by decide
theorem bp_99 : (Int8.ofInt 99).toInt32 = 99 := by decide
theorem bp_100 : (Int8.ofInt 100).toInt32 = 100 := by decide
theorem bp_104 : (Int8.ofInt 104).toInt32 = 104 := by decide
theorem bp_108 : (Int8.ofInt 108).toInt32 = 108 := by decide
theorem bp_111 : (Int8.ofInt 111).toInt32 = 111 := by decide
theorem bp_114 : (Int8.ofInt 114).toInt32 = 114 := by decide
theorem sp_m32768 : (Int16.ofInt (-32768)).toInt32 = (-32768) := by decide
theorem sp_m2000 : (Int16.ofInt (-2000)).toInt32 = (-2000) := by decide
theorem sp_m1000 : (Int16.ofInt (-1000)).toInt32 = (-1000) := by decide
theorem sp_m999 : (Int16.ofInt (-999)).toInt32 = (-999) := by decide
theorem sp_130 : (Int16.ofInt 130).toInt32 = 130 := by decide
theorem sp_200 : (Int16.ofInt 200).toInt32 = 200 := by decide
theorem sp_999 : (Int16.ofInt 999).toInt32 = 999 := by decide
theorem sp_1000 : (Int16.ofInt 1000).toInt32 = 1000 := by decide
theorem sp_12345 : (Int16.ofInt 12345).toInt32 = 12345 := by decide
theorem nz_2 : ¬ (2 : Int32) = 0 := by decide
theorem nz_3 : ¬ (3 : Int32) = 0 := by decide
theorem nz_4 : ¬ (4 : Int32) = 0 := by decide
theorem nz_5 : ¬ (5 : Int32) = 0 := by decide
theorem nz_21 : ¬ (21 : Int32) = 0 := by decide
theorem nz_65536 : ¬ (65536 : Int32) = 0 := by decide
theorem l_0 : Cond.selects n_Hb y_Hb_refusalOfRow y_Hb_refusalOfRow ∈ TW := tw_of 0 (by decide +kernel) (by decide +kernel)
theorem l_1 : Cond.selects n_Hb y_Hb_refusalOf y_Hb_refusalOf ∈ TW := tw_of 1 (by decide +kernel) (by decide +kernel)
theorem l_2 : Cond.selects n_La y_La_followHorse y_La_followHorse ∈ TW := tw_of 2 (by decide +kernel) (by decide +kernel)
theorem l_3 : Cond.selects n_La y_La_followOats y_La_followOats ∈ TW := tw_of 3 (by decide +kernel) (by decide +kernel)
theorem l_4 : Cond.selects n_La y_La_followDays y_La_followDays ∈ TW := tw_of 4 (by decide +kernel) (by decide +kernel)
theorem l_5 : Cond.selects n_La y_La_followLonging y_La_followLonging ∈ TW := tw_of 5 (by decide +kernel) (by decide +kernel)
theorem l_6 : Cond.selects n_Hb y_Hb_isHorse y_Hb_isHorse ∈ TW := tw_of 6 (by decide +kernel) (by decide +kernel)
theorem l_7 : Cond.selects n_Hb y_Hb_refusalOfKind y_Hb_refusalOfKind ∈ TW := tw_of 7 (by decide +kernel) (by decide +kernel)
theorem l_8 : Cond.selects n_Hb y_Hb_daysOfRide y_Hb_daysOfRide ∈ TW := tw_of 8 (by decide +kernel) (by decide +kernel)
theorem l_9 : Cond.selects n_Hb y_Hb_daysOfLaterRide y_Hb_daysOfLaterRide ∈ TW := tw_of 9 (by decide +kernel) (by decide +kernel)
theorem l_10 : Cond.selects n_Hb y_Hb_feesOf y_Hb_feesOf ∈ TW := tw_of 10 (by decide +kernel) (by decide +kernel)
theorem l_11 : Cond.selects n_Hb y_Hb_isTold y_Hb_isTold ∈ TW := tw_of 11 (by decide +kernel) (by decide +kernel)
theorem l_12 : Cond.selects n_Sh y_Sh_leastOfSort y_Sh_leastOfSort ∈ TW := tw_of 12 (by decide +kernel) (by decide +kernel)
theorem l_13 : Cond.selects n_Hb y_Hb_kindsTold y_Hb_kindsTold ∈ TW := tw_of 13 (by decide +kernel) (by decide +kernel)
theorem l_14 : Cond.selects n_Hb y_Hb_figuresTold y_Hb_figuresTold ∈ TW := tw_of 14 (by decide +kernel) (by decide +kernel)
theorem l_15 : Cond.selects n_Hb y_Hb_isBest y_Hb_isBest ∈ TW := tw_of 15 (by decide +kernel) (by decide +kernel)
theorem l_17 : Cond.selects n_Mo y_Mo_wrongRow y_Mo_wrongRow ∈ TW := tw_of 17 (by decide +kernel) (by decide +kernel)
theorem l_18 : Cond.selects n_Mo y_Mo_readStatement y_Mo_readStatement ∈ TW := tw_of 18 (by decide +kernel) (by decide +kernel)
theorem l_19 : Cond.selects n_Mo y_Mo_here y_Mo_here ∈ TW := tw_of 19 (by decide +kernel) (by decide +kernel)
theorem l_20 : Cond.selects n_Mo y_Mo_readNumbers y_Mo_readNumbers ∈ TW := tw_of 20 (by decide +kernel) (by decide +kernel)
theorem l_21 : Cond.selects n_Mo y_Mo_readDigits y_Mo_readDigits ∈ TW := tw_of 21 (by decide +kernel) (by decide +kernel)
theorem l_22 : Cond.selects n_Mo y_Mo_open y_Mo_open ∈ TW := tw_of 22 (by decide +kernel) (by decide +kernel)
theorem l_23 : Cond.selects n_Mo y_Mo_carryAll y_Mo_carryAll ∈ TW := tw_of 23 (by decide +kernel) (by decide +kernel)
theorem l_24 : Cond.selects n_Mo y_Mo_carry y_Mo_carry ∈ TW := tw_of 24 (by decide +kernel) (by decide +kernel)
theorem l_25 : Cond.selects n_Mo y_Mo_comesTold y_Mo_comesTold ∈ TW := tw_of 25 (by decide +kernel) (by decide +kernel)
theorem l_26 : Cond.selects n_Mo y_Mo_horseComes y_Mo_horseComes ∈ TW := tw_of 26 (by decide +kernel) (by decide +kernel)
theorem l_27 : Cond.selects n_Mo y_Mo_isHorse y_Mo_isHorse ∈ TW := tw_of 27 (by decide +kernel) (by decide +kernel)
theorem l_28 : Cond.selects n_Mo y_Mo_ride y_Mo_ride ∈ TW := tw_of 28 (by decide +kernel) (by decide +kernel)
theorem l_29 : Cond.selects n_Mo y_Mo_rideOn y_Mo_rideOn ∈ TW := tw_of 29 (by decide +kernel) (by decide +kernel)
theorem l_30 : Cond.selects n_Mo y_Mo_goalOf y_Mo_goalOf ∈ TW := tw_of 30 (by decide +kernel) (by decide +kernel)
theorem l_31 : Cond.selects n_Mo y_Mo_paceOf y_Mo_paceOf ∈ TW := tw_of 31 (by decide +kernel) (by decide +kernel)
theorem l_32 : Cond.selects n_Mo y_Mo_walkOf y_Mo_walkOf ∈ TW := tw_of 32 (by decide +kernel) (by decide +kernel)
theorem l_33 : Cond.selects n_Mo y_Mo_dayBy y_Mo_dayBy ∈ TW := tw_of 33 (by decide +kernel) (by decide +kernel)
theorem l_34 : Cond.selects n_Mo y_Mo_pinesOf y_Mo_pinesOf ∈ TW := tw_of 34 (by decide +kernel) (by decide +kernel)
theorem l_35 : Cond.selects n_Mo y_Mo_daysCome y_Mo_daysCome ∈ TW := tw_of 35 (by decide +kernel) (by decide +kernel)
theorem l_36 : Cond.selects n_Mo y_Mo_goDays y_Mo_goDays ∈ TW := tw_of 36 (by decide +kernel) (by decide +kernel)
theorem l_37 : Cond.selects n_Mo y_Mo_close y_Mo_close ∈ TW := tw_of 37 (by decide +kernel) (by decide +kernel)
theorem l_38 : Cond.selects n_Mo y_Mo_wrongKept y_Mo_wrongKept ∈ TW := tw_of 38 (by decide +kernel) (by decide +kernel)
theorem l_39 : Cond.selects n_Mo y_Mo_allLonging y_Mo_allLonging ∈ TW := tw_of 39 (by decide +kernel) (by decide +kernel)
theorem l_40 : Cond.selects n_Mo y_Mo_ownRide y_Mo_ownRide ∈ TW := tw_of 40 (by decide +kernel) (by decide +kernel)
theorem l_41 : Cond.selects n_Mo y_Mo_takeChain y_Mo_takeChain ∈ TW := tw_of 41 (by decide +kernel) (by decide +kernel)
theorem l_42 : Cond.selects n_Mo y_Mo_secondRides y_Mo_secondRides ∈ TW := tw_of 42 (by decide +kernel) (by decide +kernel)
theorem l_43 : Cond.selects n_Mo y_Mo_thirdRides y_Mo_thirdRides ∈ TW := tw_of 43 (by decide +kernel) (by decide +kernel)
theorem l_44 : Cond.selects n_Mo y_Mo_feesOf y_Mo_feesOf ∈ TW := tw_of 44 (by decide +kernel) (by decide +kernel)
theorem l_45 : Cond.selects n_Mo y_Mo_isRow y_Mo_isRow ∈ TW := tw_of 45 (by decide +kernel) (by decide +kernel)
theorem l_46 : Cond.selects n_Mo y_Mo_skipped y_Mo_skipped ∈ TW := tw_of 46 (by decide +kernel) (by decide +kernel)
theorem l_47 : Cond.selects n_Mo y_Mo_waitedRide y_Mo_waitedRide ∈ TW := tw_of 47 (by decide +kernel) (by decide +kernel)
theorem l_48 : Cond.selects n_Mo y_Mo_hasBy y_Mo_hasBy ∈ TW := tw_of 48 (by decide +kernel) (by decide +kernel)
theorem l_49 : Cond.selects n_Mo y_Mo_drawBelow y_Mo_drawBelow ∈ TW := tw_of 49 (by decide +kernel) (by decide +kernel)
theorem l_50 : Cond.selects n_Mo y_Mo_atGoals y_Mo_atGoals ∈ TW := tw_of 50 (by decide +kernel) (by decide +kernel)
theorem l_52 : Cond.initialized n_Hb ∈ TW := tw_of 52 (by decide +kernel) (by decide +kernel)
theorem l_53 : Cond.initialized n_Ho ∈ TW := tw_of 53 (by decide +kernel) (by decide +kernel)
theorem l_54 : Cond.initialized n_Co ∈ TW := tw_of 54 (by decide +kernel) (by decide +kernel)
theorem l_55 : Cond.initialized n_Bl ∈ TW := tw_of 55 (by decide +kernel) (by decide +kernel)
theorem l_56 : Cond.initialized n_Tw ∈ TW := tw_of 56 (by decide +kernel) (by decide +kernel)
theorem l_57 : Cond.initialized n_Dr ∈ TW := tw_of 57 (by decide +kernel) (by decide +kernel)
theorem l_58 : Cond.initialized n_Fo ∈ TW := tw_of 58 (by decide +kernel) (by decide +kernel)
theorem l_59 : Cond.initialized n_Ma ∈ TW := tw_of 59 (by decide +kernel) (by decide +kernel)
theorem l_60 : Cond.initialized n_Ge ∈ TW := tw_of 60 (by decide +kernel) (by decide +kernel)
theorem l_61 : Cond.initialized n_La ∈ TW := tw_of 61 (by decide +kernel) (by decide +kernel)
theorem l_62 : Cond.initialized n_St ∈ TW := tw_of 62 (by decide +kernel) (by decide +kernel)
theorem l_63 : Cond.initialized n_Sh ∈ TW := tw_of 63 (by decide +kernel) (by decide +kernel)
theorem l_64 : Cond.initialized n_Mo ∈ TW := tw_of 64 (by decide +kernel) (by decide +kernel)
theorem l_65 : Cond.initialized "java/lang/Math" ∈ TW := tw_of 65 (by decide +kernel) (by decide +kernel)
theorem l_66 : Cond.initialized n_In ∈ TW := tw_of 66 (by decide +kernel) (by decide +kernel)
theorem l_72 : Cond.initialized "java/lang/System" ∈ TW := tw_of 72 (by decide +kernel) (by decide +kernel)
theorem l_103 : Cond.superclass n_Bl n_Ho ∈ TW := tw_of 103 (by decide +kernel) (by decide +kernel)
theorem l_110 : Cond.superclass n_Tw n_Ho ∈ TW := tw_of 110 (by decide +kernel) (by decide +kernel)
theorem l_117 : Cond.superclass n_Dr n_Ho ∈ TW := tw_of 117 (by decide +kernel) (by decide +kernel)
theorem l_124 : Cond.superclass n_Fo n_Ho ∈ TW := tw_of 124 (by decide +kernel) (by decide +kernel)
theorem l_131 : Cond.superclass n_Ma n_Tw ∈ TW := tw_of 131 (by decide +kernel) (by decide +kernel)
theorem l_138 : Cond.superclass n_Ge n_Co ∈ TW := tw_of 138 (by decide +kernel) (by decide +kernel)
theorem l_152 : Cond.fieldLink n_St 9 n_St "kind" "LHiredByLonging$Horse;" ∈ TW := tw_of 152 (by decide +kernel) (by decide +kernel)
theorem l_153 : Cond.fieldLinkNest n_La 38 n_St "kind" "LHiredByLonging$Horse;" n_Hb ∈ NW := nw_of 153 (by decide +kernel) (by decide +kernel)
theorem l_154 : Cond.fieldLinkNest n_Hb 111 n_St "kind" "LHiredByLonging$Horse;" n_Hb ∈ NW := nw_of 154 (by decide +kernel) (by decide +kernel)
theorem l_155 : Cond.fieldLink n_St 15 n_St "figure" "I" ∈ TW := tw_of 155 (by decide +kernel) (by decide +kernel)
theorem l_156 : Cond.fieldLinkNest n_La 42 n_St "figure" "I" n_Hb ∈ NW := nw_of 156 (by decide +kernel) (by decide +kernel)
theorem l_157 : Cond.fieldLinkNest n_Hb 119 n_St "figure" "I" n_Hb ∈ NW := nw_of 157 (by decide +kernel) (by decide +kernel)
theorem l_158 : Cond.fieldLink n_St 19 n_St "home" "I" ∈ TW := tw_of 158 (by decide +kernel) (by decide +kernel)
theorem l_159 : Cond.fieldLinkNest n_La 45 n_St "home" "I" n_Hb ∈ NW := nw_of 159 (by decide +kernel) (by decide +kernel)
theorem l_160 : Cond.fieldLinkNest n_Hb 122 n_St "home" "I" n_Hb ∈ NW := nw_of 160 (by decide +kernel) (by decide +kernel)
theorem l_161 : Cond.fieldLink n_St 22 n_St "at" "I" ∈ TW := tw_of 161 (by decide +kernel) (by decide +kernel)
theorem l_162 : Cond.fieldLinkNest n_La 48 n_St "at" "I" n_Hb ∈ NW := nw_of 162 (by decide +kernel) (by decide +kernel)
theorem l_163 : Cond.fieldLinkNest n_Hb 125 n_St "at" "I" n_Hb ∈ NW := nw_of 163 (by decide +kernel) (by decide +kernel)
theorem l_164 : Cond.fieldLink n_St 25 n_St "longing" "I" ∈ TW := tw_of 164 (by decide +kernel) (by decide +kernel)
theorem l_165 : Cond.fieldLinkNest n_La 51 n_St "longing" "I" n_Hb ∈ NW := nw_of 165 (by decide +kernel) (by decide +kernel)
theorem l_166 : Cond.fieldLinkNest n_Hb 128 n_St "longing" "I" n_Hb ∈ NW := nw_of 166 (by decide +kernel) (by decide +kernel)
theorem l_178 : Cond.fieldLink n_La 9 n_La "kinds" "[LHiredByLonging$Horse;" ∈ TW := tw_of 178 (by decide +kernel) (by decide +kernel)
theorem l_179 : Cond.fieldLink n_La 17 n_La "steeds" "[LHiredByLonging$Steed;" ∈ TW := tw_of 179 (by decide +kernel) (by decide +kernel)
theorem l_180 : Cond.fieldLinkNest n_Hb 107 n_La "steeds" "[LHiredByLonging$Steed;" n_Hb ∈ NW := nw_of 180 (by decide +kernel) (by decide +kernel)
theorem l_181 : Cond.fieldLink n_La 24 n_La "horses" "I" ∈ TW := tw_of 181 (by decide +kernel) (by decide +kernel)
theorem l_182 : Cond.fieldLinkNest n_Hb 149 n_La "horses" "I" n_Hb ∈ NW := nw_of 182 (by decide +kernel) (by decide +kernel)
theorem l_183 : Cond.fieldLink n_La 28 n_La "oats" "I" ∈ TW := tw_of 183 (by decide +kernel) (by decide +kernel)
theorem l_184 : Cond.fieldLinkNest n_Hb 131 n_La "oats" "I" n_Hb ∈ NW := nw_of 184 (by decide +kernel) (by decide +kernel)
theorem l_185 : Cond.fieldLink n_La 31 n_La "day" "I" ∈ TW := tw_of 185 (by decide +kernel) (by decide +kernel)
theorem l_186 : Cond.fieldLinkNest n_Hb 249 n_La "day" "I" n_Hb ∈ NW := nw_of 186 (by decide +kernel) (by decide +kernel)
theorem l_208 : Cond.fieldLink n_Sh 9 n_Sh "holds" "I" ∈ TW := tw_of 208 (by decide +kernel) (by decide +kernel)
theorem l_209 : Cond.fieldLinkNest n_Hb 258 n_Sh "holds" "I" n_Hb ∈ NW := nw_of 209 (by decide +kernel) (by decide +kernel)
theorem l_211 : Cond.fieldLinkNest n_Hb 152 n_Sh "kind" "LHiredByLonging$Horse;" n_Hb ∈ NW := nw_of 211 (by decide +kernel) (by decide +kernel)
theorem l_212 : Cond.fieldLinkNest n_Hb 153 n_Sh "figure" "I" n_Hb ∈ NW := nw_of 212 (by decide +kernel) (by decide +kernel)
theorem l_213 : Cond.fieldLink n_Sh 23 n_Sh "sort" "I" ∈ TW := tw_of 213 (by decide +kernel) (by decide +kernel)
theorem l_214 : Cond.fieldLinkNest n_Hb 77 n_Sh "sort" "I" n_Hb ∈ NW := nw_of 214 (by decide +kernel) (by decide +kernel)
theorem l_215 : Cond.fieldLink n_Sh 26 n_Sh "size" "I" ∈ TW := tw_of 215 (by decide +kernel) (by decide +kernel)
theorem l_216 : Cond.fieldLinkNest n_Hb 89 n_Sh "size" "I" n_Hb ∈ NW := nw_of 216 (by decide +kernel) (by decide +kernel)
theorem l_217 : Cond.fieldLink n_Sh 19 n_Sh "elements" "[I" ∈ TW := tw_of 217 (by decide +kernel) (by decide +kernel)
theorem l_218 : Cond.fieldLinkNest n_Hb 96 n_Sh "elements" "[I" n_Hb ∈ NW := nw_of 218 (by decide +kernel) (by decide +kernel)
theorem l_219 : Cond.fieldLinkNest n_La 79 n_Sh "elements" "[I" n_Hb ∈ NW := nw_of 219 (by decide +kernel) (by decide +kernel)
theorem l_234 : Cond.fieldLink n_Hb 31 n_Hb "kinds" "[LHiredByLonging$Horse;" ∈ TW := tw_of 234 (by decide +kernel) (by decide +kernel)
theorem l_235 : Cond.fieldLink n_Hb 42 n_Hb "now" "LHiredByLonging$Land;" ∈ TW := tw_of 235 (by decide +kernel) (by decide +kernel)
theorem l_236 : Cond.fieldLink n_Hb 46 n_Hb "image" "LHiredByLonging$Land;" ∈ TW := tw_of 236 (by decide +kernel) (by decide +kernel)
theorem l_237 : Cond.fieldLink n_Hb 49 n_Hb "minds" "[LHiredByLonging$Land;" ∈ TW := tw_of 237 (by decide +kernel) (by decide +kernel)
theorem l_238 : Cond.fieldLink n_Hb 58 n_Hb "one" "LHiredByLonging$Steed;" ∈ TW := tw_of 238 (by decide +kernel) (by decide +kernel)
theorem l_239 : Cond.fieldLink n_Hb 64 n_Hb "shelves" "[LHiredByLonging$Shelf;" ∈ TW := tw_of 239 (by decide +kernel) (by decide +kernel)
theorem l_240 : Cond.fieldLink n_Hb 69 n_Hb "imageTaken" "Z" ∈ TW := tw_of 240 (by decide +kernel) (by decide +kernel)
theorem l_260 : Cond.methodLink n_Hb 73 y_Hb_refusalOfRow ∈ TW := tw_of 260 (by decide +kernel) (by decide +kernel)
theorem l_262 : Cond.instanceMethod y_Hb_refusalOfRow ∈ TW := tw_of 262 (by decide +kernel) (by decide +kernel)
theorem l_263 : Cond.code y_Hb_refusalOfRow c_Hb_refusalOfRow 2 (some .int) ∈ TW := tw_of 263 (by decide +kernel) (by decide +kernel)
theorem l_264 : Cond.methodLink n_Hb 299 y_Hb_refusalOf ∈ TW := tw_of 264 (by decide +kernel) (by decide +kernel)
theorem l_266 : Cond.instanceMethod y_Hb_refusalOf ∈ TW := tw_of 266 (by decide +kernel) (by decide +kernel)
theorem l_267 : Cond.code y_Hb_refusalOf c_Hb_refusalOf 3 (some .int) ∈ TW := tw_of 267 (by decide +kernel) (by decide +kernel)
theorem l_268 : Cond.methodLink n_Hb 255 y_Hb_isShelf ∈ TW := tw_of 268 (by decide +kernel) (by decide +kernel)
theorem l_269 : Cond.static y_Hb_isShelf ∈ TW := tw_of 269 (by decide +kernel) (by decide +kernel)
theorem l_270 : Cond.code y_Hb_isShelf c_Hb_isShelf 1 (some .boolean) ∈ TW := tw_of 270 (by decide +kernel) (by decide +kernel)
theorem l_271 : Cond.methodLink n_Hb 169 y_Hb_isWithin ∈ TW := tw_of 271 (by decide +kernel) (by decide +kernel)
theorem l_272 : Cond.static y_Hb_isWithin ∈ TW := tw_of 272 (by decide +kernel) (by decide +kernel)
theorem l_273 : Cond.code y_Hb_isWithin c_Hb_isWithin 3 (some .boolean) ∈ TW := tw_of 273 (by decide +kernel) (by decide +kernel)
theorem l_274 : Cond.methodLink n_Hb 81 y_Hb_placeOfLack ∈ TW := tw_of 274 (by decide +kernel) (by decide +kernel)
theorem l_275 : Cond.static y_Hb_placeOfLack ∈ TW := tw_of 275 (by decide +kernel) (by decide +kernel)
theorem l_276 : Cond.code y_Hb_placeOfLack c_Hb_placeOfLack 4 (some .int) ∈ TW := tw_of 276 (by decide +kernel) (by decide +kernel)
theorem l_277 : Cond.methodLink n_Hb 282 y_Sh_hasPlaces ∈ TW := tw_of 277 (by decide +kernel) (by decide +kernel)
theorem l_278 : Cond.instanceMethod y_Sh_hasPlaces ∈ TW := tw_of 278 (by decide +kernel) (by decide +kernel)
theorem l_279 : Cond.selects n_Sh y_Sh_hasPlaces y_Sh_hasPlaces ∈ TW := tw_of 279 (by decide +kernel) (by decide +kernel)
theorem l_280 : Cond.code y_Sh_hasPlaces c_Sh_hasPlaces 3 (some .boolean) ∈ TW := tw_of 280 (by decide +kernel) (by decide +kernel)
theorem l_281 : Cond.methodLink n_Hb 100 y_Hb_digitsBehind ∈ TW := tw_of 281 (by decide +kernel) (by decide +kernel)
theorem l_282 : Cond.static y_Hb_digitsBehind ∈ TW := tw_of 282 (by decide +kernel) (by decide +kernel)
theorem l_283 : Cond.code y_Hb_digitsBehind c_Hb_digitsBehind 1 (some .int) ∈ TW := tw_of 283 (by decide +kernel) (by decide +kernel)
theorem l_284 : Cond.methodLink n_Hb 85 y_La_become ∈ TW := tw_of 284 (by decide +kernel) (by decide +kernel)
theorem l_285 : Cond.instanceMethod y_La_become ∈ TW := tw_of 285 (by decide +kernel) (by decide +kernel)
theorem l_286 : Cond.selects n_La y_La_become y_La_become ∈ TW := tw_of 286 (by decide +kernel) (by decide +kernel)
theorem l_287 : Cond.code y_La_become c_La_become 3 none ∈ TW := tw_of 287 (by decide +kernel) (by decide +kernel)
theorem l_288 : Cond.methodLink n_La 34 y_St_become ∈ TW := tw_of 288 (by decide +kernel) (by decide +kernel)
theorem l_289 : Cond.instanceMethod y_St_become ∈ TW := tw_of 289 (by decide +kernel) (by decide +kernel)
theorem l_290 : Cond.selects n_St y_St_become y_St_become ∈ TW := tw_of 290 (by decide +kernel) (by decide +kernel)
theorem l_291 : Cond.code y_St_become c_St_become 2 none ∈ TW := tw_of 291 (by decide +kernel) (by decide +kernel)
theorem l_292 : Cond.methodLink n_Hb 92 y_La_follow ∈ TW := tw_of 292 (by decide +kernel) (by decide +kernel)
theorem l_293 : Cond.instanceMethod y_La_follow ∈ TW := tw_of 293 (by decide +kernel) (by decide +kernel)
theorem l_294 : Cond.selects n_La y_La_follow y_La_follow ∈ TW := tw_of 294 (by decide +kernel) (by decide +kernel)
theorem l_295 : Cond.code y_La_follow c_La_follow 5 (some .boolean) ∈ TW := tw_of 295 (by decide +kernel) (by decide +kernel)
theorem l_296 : Cond.methodLink n_La 73 y_Sh_digit ∈ TW := tw_of 296 (by decide +kernel) (by decide +kernel)
theorem l_297 : Cond.instanceMethod y_Sh_digit ∈ TW := tw_of 297 (by decide +kernel) (by decide +kernel)
theorem l_298 : Cond.selects n_Sh y_Sh_digit y_Sh_digit ∈ TW := tw_of 298 (by decide +kernel) (by decide +kernel)
theorem l_299 : Cond.code y_Sh_digit c_Sh_digit 2 (some .int) ∈ TW := tw_of 299 (by decide +kernel) (by decide +kernel)
theorem l_300 : Cond.methodLink n_La 83 y_La_followHorse ∈ TW := tw_of 300 (by decide +kernel) (by decide +kernel)
theorem l_302 : Cond.instanceMethod y_La_followHorse ∈ TW := tw_of 302 (by decide +kernel) (by decide +kernel)
theorem l_303 : Cond.code y_La_followHorse c_La_followHorse 6 (some .boolean) ∈ TW := tw_of 303 (by decide +kernel) (by decide +kernel)
theorem l_304 : Cond.methodLink n_La 87 y_Sh_number ∈ TW := tw_of 304 (by decide +kernel) (by decide +kernel)
theorem l_305 : Cond.instanceMethod y_Sh_number ∈ TW := tw_of 305 (by decide +kernel) (by decide +kernel)
theorem l_306 : Cond.selects n_Sh y_Sh_number y_Sh_number ∈ TW := tw_of 306 (by decide +kernel) (by decide +kernel)
theorem l_307 : Cond.code y_Sh_number c_Sh_number 2 (some .int) ∈ TW := tw_of 307 (by decide +kernel) (by decide +kernel)
theorem l_308 : Cond.methodLink n_Sh 34 y_Sh_digit ∈ TW := tw_of 308 (by decide +kernel) (by decide +kernel)
theorem l_309 : Cond.methodLinkNest n_La 110 y_Hb_isKind n_Hb ∈ NW := nw_of 309 (by decide +kernel) (by decide +kernel)
theorem l_310 : Cond.static y_Hb_isKind ∈ TW := tw_of 310 (by decide +kernel) (by decide +kernel)
theorem l_311 : Cond.code y_Hb_isKind c_Hb_isKind 1 (some .boolean) ∈ TW := tw_of 311 (by decide +kernel) (by decide +kernel)
theorem l_312 : Cond.methodLinkNest n_La 100 y_Hb_isYard n_Hb ∈ NW := nw_of 312 (by decide +kernel) (by decide +kernel)
theorem l_313 : Cond.static y_Hb_isYard ∈ TW := tw_of 313 (by decide +kernel) (by decide +kernel)
theorem l_314 : Cond.code y_Hb_isYard c_Hb_isYard 1 (some .boolean) ∈ TW := tw_of 314 (by decide +kernel) (by decide +kernel)
theorem l_315 : Cond.methodLink n_La 113 y_La_gets ∈ TW := tw_of 315 (by decide +kernel) (by decide +kernel)
theorem l_316 : Cond.instanceMethod y_La_gets ∈ TW := tw_of 316 (by decide +kernel) (by decide +kernel)
theorem l_317 : Cond.selects n_La y_La_gets y_La_gets ∈ TW := tw_of 317 (by decide +kernel) (by decide +kernel)
theorem l_318 : Cond.code y_La_gets c_La_gets 6 (some .boolean) ∈ TW := tw_of 318 (by decide +kernel) (by decide +kernel)
theorem l_319 : Cond.methodLink n_La 90 y_La_followOats ∈ TW := tw_of 319 (by decide +kernel) (by decide +kernel)
theorem l_321 : Cond.instanceMethod y_La_followOats ∈ TW := tw_of 321 (by decide +kernel) (by decide +kernel)
theorem l_322 : Cond.code y_La_followOats c_La_followOats 2 (some .boolean) ∈ TW := tw_of 322 (by decide +kernel) (by decide +kernel)
theorem l_323 : Cond.methodLink n_La 93 y_La_followDays ∈ TW := tw_of 323 (by decide +kernel) (by decide +kernel)
theorem l_325 : Cond.instanceMethod y_La_followDays ∈ TW := tw_of 325 (by decide +kernel) (by decide +kernel)
theorem l_326 : Cond.code y_La_followDays c_La_followDays 2 (some .boolean) ∈ TW := tw_of 326 (by decide +kernel) (by decide +kernel)
theorem l_327 : Cond.methodLinkNest n_La 117 y_Hb_isWithin n_Hb ∈ NW := nw_of 327 (by decide +kernel) (by decide +kernel)
theorem l_328 : Cond.methodLink n_La 107 y_La_hasDays ∈ TW := tw_of 328 (by decide +kernel) (by decide +kernel)
theorem l_329 : Cond.instanceMethod y_La_hasDays ∈ TW := tw_of 329 (by decide +kernel) (by decide +kernel)
theorem l_330 : Cond.selects n_La y_La_hasDays y_La_hasDays ∈ TW := tw_of 330 (by decide +kernel) (by decide +kernel)
theorem l_331 : Cond.code y_La_hasDays c_La_hasDays 2 (some .boolean) ∈ TW := tw_of 331 (by decide +kernel) (by decide +kernel)
theorem l_332 : Cond.methodLink n_La 62 y_La_pass ∈ TW := tw_of 332 (by decide +kernel) (by decide +kernel)
theorem l_333 : Cond.instanceMethod y_La_pass ∈ TW := tw_of 333 (by decide +kernel) (by decide +kernel)
theorem l_334 : Cond.selects n_La y_La_pass y_La_pass ∈ TW := tw_of 334 (by decide +kernel) (by decide +kernel)
theorem l_335 : Cond.code y_La_pass c_La_pass 4 none ∈ TW := tw_of 335 (by decide +kernel) (by decide +kernel)
theorem l_336 : Cond.methodLink n_La 54 y_St_pine ∈ TW := tw_of 336 (by decide +kernel) (by decide +kernel)
theorem l_337 : Cond.instanceMethod y_St_pine ∈ TW := tw_of 337 (by decide +kernel) (by decide +kernel)
theorem l_338 : Cond.selects n_St y_St_pine y_St_pine ∈ TW := tw_of 338 (by decide +kernel) (by decide +kernel)
theorem l_339 : Cond.code y_St_pine c_St_pine 3 none ∈ TW := tw_of 339 (by decide +kernel) (by decide +kernel)
theorem l_340 : Cond.methodLink n_St 28 y_Ho_goal ∈ TW := tw_of 340 (by decide +kernel) (by decide +kernel)
theorem l_341 : Cond.instanceMethod y_Ho_goal ∈ TW := tw_of 341 (by decide +kernel) (by decide +kernel)
theorem l_342 : Cond.selects n_Ho y_Ho_goal y_Ho_goal ∈ TW := tw_of 342 (by decide +kernel) (by decide +kernel)
theorem l_343 : Cond.sameMethod n_Ho n_Ho "goal" "(III)I" ∈ TW := tw_of 343 (by decide +kernel) (by decide +kernel)
theorem l_344 : Cond.selects n_Bl y_Ho_goal y_Bl_goal ∈ TW := tw_of 344 (by decide +kernel) (by decide +kernel)
theorem l_345 : Cond.instanceMethod y_Bl_goal ∈ TW := tw_of 345 (by decide +kernel) (by decide +kernel)
theorem l_346 : Cond.code y_Bl_goal c_Bl_goal 4 (some .int) ∈ TW := tw_of 346 (by decide +kernel) (by decide +kernel)
theorem l_347 : Cond.selects n_Co y_Ho_goal y_Co_goal ∈ TW := tw_of 347 (by decide +kernel) (by decide +kernel)
theorem l_348 : Cond.instanceMethod y_Co_goal ∈ TW := tw_of 348 (by decide +kernel) (by decide +kernel)
theorem l_349 : Cond.code y_Co_goal c_Co_goal 4 (some .int) ∈ TW := tw_of 349 (by decide +kernel) (by decide +kernel)
theorem l_350 : Cond.selects n_Dr y_Ho_goal y_Ho_goal ∈ TW := tw_of 350 (by decide +kernel) (by decide +kernel)
theorem l_351 : Cond.selects n_Fo y_Ho_goal y_Fo_goal ∈ TW := tw_of 351 (by decide +kernel) (by decide +kernel)
theorem l_352 : Cond.instanceMethod y_Fo_goal ∈ TW := tw_of 352 (by decide +kernel) (by decide +kernel)
theorem l_353 : Cond.code y_Fo_goal c_Fo_goal 4 (some .int) ∈ TW := tw_of 353 (by decide +kernel) (by decide +kernel)
theorem l_354 : Cond.selects n_Ge y_Ho_goal y_Co_goal ∈ TW := tw_of 354 (by decide +kernel) (by decide +kernel)
theorem l_355 : Cond.selects n_Ma y_Ho_goal y_Ma_goal ∈ TW := tw_of 355 (by decide +kernel) (by decide +kernel)
theorem l_356 : Cond.instanceMethod y_Ma_goal ∈ TW := tw_of 356 (by decide +kernel) (by decide +kernel)
theorem l_357 : Cond.code y_Ma_goal c_Ma_goal 5 (some .int) ∈ TW := tw_of 357 (by decide +kernel) (by decide +kernel)
theorem l_358 : Cond.methodLink n_Ma 9 Lib.Math.abs.name ∈ TW := tw_of 358 (by decide +kernel) (by decide +kernel)
theorem l_359 : Cond.static Lib.Math.abs.name ∈ TW := tw_of 359 (by decide +kernel) (by decide +kernel)
theorem l_360 : Cond.code Lib.Math.abs.name Lib.Math.abs.code 1 (some .int) ∈ TW := tw_of 360 (by decide +kernel) (by decide +kernel)
theorem l_361 : Cond.selects n_Tw y_Ho_goal y_Tw_goal ∈ TW := tw_of 361 (by decide +kernel) (by decide +kernel)
theorem l_362 : Cond.instanceMethod y_Tw_goal ∈ TW := tw_of 362 (by decide +kernel) (by decide +kernel)
theorem l_363 : Cond.code y_Tw_goal c_Tw_goal 5 (some .int) ∈ TW := tw_of 363 (by decide +kernel) (by decide +kernel)
theorem l_364 : Cond.methodLink n_Tw 9 Lib.Math.abs.name ∈ TW := tw_of 364 (by decide +kernel) (by decide +kernel)
theorem l_365 : Cond.code y_Ho_goal c_Ho_goal 4 (some .int) ∈ TW := tw_of 365 (by decide +kernel) (by decide +kernel)
theorem l_366 : Cond.methodLink n_St 41 Lib.Math.abs.name ∈ TW := tw_of 366 (by decide +kernel) (by decide +kernel)
theorem l_367 : Cond.methodLink n_St 46 y_Ho_pines ∈ TW := tw_of 367 (by decide +kernel) (by decide +kernel)
theorem l_368 : Cond.instanceMethod y_Ho_pines ∈ TW := tw_of 368 (by decide +kernel) (by decide +kernel)
theorem l_369 : Cond.selects n_Ho y_Ho_pines y_Ho_pines ∈ TW := tw_of 369 (by decide +kernel) (by decide +kernel)
theorem l_370 : Cond.sameMethod n_Ho n_Ho "pines" "(II)I" ∈ TW := tw_of 370 (by decide +kernel) (by decide +kernel)
theorem l_371 : Cond.selects n_Bl y_Ho_pines y_Bl_pines ∈ TW := tw_of 371 (by decide +kernel) (by decide +kernel)
theorem l_372 : Cond.instanceMethod y_Bl_pines ∈ TW := tw_of 372 (by decide +kernel) (by decide +kernel)
theorem l_373 : Cond.code y_Bl_pines c_Bl_pines 3 (some .int) ∈ TW := tw_of 373 (by decide +kernel) (by decide +kernel)
theorem l_374 : Cond.methodLink n_Bl 9 y_Ho_pines ∈ TW := tw_of 374 (by decide +kernel) (by decide +kernel)
theorem l_375 : Cond.selects n_Co y_Ho_pines y_Co_pines ∈ TW := tw_of 375 (by decide +kernel) (by decide +kernel)
theorem l_376 : Cond.instanceMethod y_Co_pines ∈ TW := tw_of 376 (by decide +kernel) (by decide +kernel)
theorem l_377 : Cond.code y_Co_pines c_Co_pines 3 (some .int) ∈ TW := tw_of 377 (by decide +kernel) (by decide +kernel)
theorem l_378 : Cond.selects n_Dr y_Ho_pines y_Dr_pines ∈ TW := tw_of 378 (by decide +kernel) (by decide +kernel)
theorem l_379 : Cond.instanceMethod y_Dr_pines ∈ TW := tw_of 379 (by decide +kernel) (by decide +kernel)
theorem l_380 : Cond.code y_Dr_pines c_Dr_pines 3 (some .int) ∈ TW := tw_of 380 (by decide +kernel) (by decide +kernel)
theorem l_381 : Cond.methodLink n_Dr 7 y_Ho_pines ∈ TW := tw_of 381 (by decide +kernel) (by decide +kernel)
theorem l_382 : Cond.selects n_Fo y_Ho_pines y_Fo_pines ∈ TW := tw_of 382 (by decide +kernel) (by decide +kernel)
theorem l_383 : Cond.instanceMethod y_Fo_pines ∈ TW := tw_of 383 (by decide +kernel) (by decide +kernel)
theorem l_384 : Cond.code y_Fo_pines c_Fo_pines 3 (some .int) ∈ TW := tw_of 384 (by decide +kernel) (by decide +kernel)
theorem l_385 : Cond.methodLink n_Fo 7 y_Ho_pines ∈ TW := tw_of 385 (by decide +kernel) (by decide +kernel)
theorem l_386 : Cond.selects n_Ge y_Ho_pines y_Co_pines ∈ TW := tw_of 386 (by decide +kernel) (by decide +kernel)
theorem l_387 : Cond.selects n_Ma y_Ho_pines y_Ma_pines ∈ TW := tw_of 387 (by decide +kernel) (by decide +kernel)
theorem l_388 : Cond.instanceMethod y_Ma_pines ∈ TW := tw_of 388 (by decide +kernel) (by decide +kernel)
theorem l_389 : Cond.code y_Ma_pines c_Ma_pines 3 (some .int) ∈ TW := tw_of 389 (by decide +kernel) (by decide +kernel)
theorem l_390 : Cond.methodLink n_Ma 15 ⟨n_Tw, "pines", "(II)I"⟩ ∈ TW := tw_of 390 (by decide +kernel) (by decide +kernel)
theorem l_391 : Cond.sameMethod n_Tw n_Ho "pines" "(II)I" ∈ TW := tw_of 391 (by decide +kernel) (by decide +kernel)
theorem l_393 : Cond.selects n_Tw y_Ho_pines y_Ho_pines ∈ TW := tw_of 393 (by decide +kernel) (by decide +kernel)
theorem l_394 : Cond.code y_Ho_pines c_Ho_pines 3 (some .int) ∈ TW := tw_of 394 (by decide +kernel) (by decide +kernel)
theorem l_395 : Cond.methodLink n_St 49 Lib.Math.min.name ∈ TW := tw_of 395 (by decide +kernel) (by decide +kernel)
theorem l_396 : Cond.static Lib.Math.min.name ∈ TW := tw_of 396 (by decide +kernel) (by decide +kernel)
theorem l_397 : Cond.code Lib.Math.min.name Lib.Math.min.code 2 (some .int) ∈ TW := tw_of 397 (by decide +kernel) (by decide +kernel)
theorem l_398 : Cond.methodLink n_La 96 y_La_followLonging ∈ TW := tw_of 398 (by decide +kernel) (by decide +kernel)
theorem l_400 : Cond.instanceMethod y_La_followLonging ∈ TW := tw_of 400 (by decide +kernel) (by decide +kernel)
theorem l_401 : Cond.code y_La_followLonging c_La_followLonging 3 (some .boolean) ∈ TW := tw_of 401 (by decide +kernel) (by decide +kernel)
theorem l_402 : Cond.methodLink n_La 103 y_La_ride ∈ TW := tw_of 402 (by decide +kernel) (by decide +kernel)
theorem l_403 : Cond.instanceMethod y_La_ride ∈ TW := tw_of 403 (by decide +kernel) (by decide +kernel)
theorem l_404 : Cond.selects n_La y_La_ride y_La_ride ∈ TW := tw_of 404 (by decide +kernel) (by decide +kernel)
theorem l_405 : Cond.code y_La_ride c_La_ride 4 (some .int) ∈ TW := tw_of 405 (by decide +kernel) (by decide +kernel)
theorem l_406 : Cond.methodLink n_La 58 y_St_move ∈ TW := tw_of 406 (by decide +kernel) (by decide +kernel)
theorem l_407 : Cond.instanceMethod y_St_move ∈ TW := tw_of 407 (by decide +kernel) (by decide +kernel)
theorem l_408 : Cond.selects n_St y_St_move y_St_move ∈ TW := tw_of 408 (by decide +kernel) (by decide +kernel)
theorem l_409 : Cond.code y_St_move c_St_move 6 none ∈ TW := tw_of 409 (by decide +kernel) (by decide +kernel)
theorem l_410 : Cond.methodLink n_St 56 y_In_compare ∈ TW := tw_of 410 (by decide +kernel) (by decide +kernel)
theorem l_411 : Cond.static y_In_compare ∈ TW := tw_of 411 (by decide +kernel) (by decide +kernel)
theorem l_412 : Cond.code y_In_compare c_In_compare 2 (some .int) ∈ TW := tw_of 412 (by decide +kernel) (by decide +kernel)
theorem l_413 : Cond.methodLink n_St 34 y_Ho_pace ∈ TW := tw_of 413 (by decide +kernel) (by decide +kernel)
theorem l_414 : Cond.instanceMethod y_Ho_pace ∈ TW := tw_of 414 (by decide +kernel) (by decide +kernel)
theorem l_415 : Cond.selects n_Ho y_Ho_pace y_Ho_pace ∈ TW := tw_of 415 (by decide +kernel) (by decide +kernel)
theorem l_416 : Cond.sameMethod n_Ho n_Ho "pace" "(II)I" ∈ TW := tw_of 416 (by decide +kernel) (by decide +kernel)
theorem l_417 : Cond.selects n_Bl y_Ho_pace y_Bl_pace ∈ TW := tw_of 417 (by decide +kernel) (by decide +kernel)
theorem l_418 : Cond.instanceMethod y_Bl_pace ∈ TW := tw_of 418 (by decide +kernel) (by decide +kernel)
theorem l_419 : Cond.code y_Bl_pace c_Bl_pace 3 (some .int) ∈ TW := tw_of 419 (by decide +kernel) (by decide +kernel)
theorem l_420 : Cond.selects n_Co y_Ho_pace y_Co_pace ∈ TW := tw_of 420 (by decide +kernel) (by decide +kernel)
theorem l_421 : Cond.instanceMethod y_Co_pace ∈ TW := tw_of 421 (by decide +kernel) (by decide +kernel)
theorem l_422 : Cond.code y_Co_pace c_Co_pace 3 (some .int) ∈ TW := tw_of 422 (by decide +kernel) (by decide +kernel)
theorem l_423 : Cond.selects n_Dr y_Ho_pace y_Ho_pace ∈ TW := tw_of 423 (by decide +kernel) (by decide +kernel)
theorem l_424 : Cond.selects n_Fo y_Ho_pace y_Fo_pace ∈ TW := tw_of 424 (by decide +kernel) (by decide +kernel)
theorem l_425 : Cond.instanceMethod y_Fo_pace ∈ TW := tw_of 425 (by decide +kernel) (by decide +kernel)
theorem l_426 : Cond.code y_Fo_pace c_Fo_pace 3 (some .int) ∈ TW := tw_of 426 (by decide +kernel) (by decide +kernel)
theorem l_427 : Cond.methodLink n_Fo 11 y_Ho_pace ∈ TW := tw_of 427 (by decide +kernel) (by decide +kernel)
theorem l_428 : Cond.selects n_Ge y_Ho_pace y_Ge_pace ∈ TW := tw_of 428 (by decide +kernel) (by decide +kernel)
theorem l_429 : Cond.instanceMethod y_Ge_pace ∈ TW := tw_of 429 (by decide +kernel) (by decide +kernel)
theorem l_430 : Cond.code y_Ge_pace c_Ge_pace 3 (some .int) ∈ TW := tw_of 430 (by decide +kernel) (by decide +kernel)
theorem l_431 : Cond.methodLink n_Ge 7 y_Co_pace ∈ TW := tw_of 431 (by decide +kernel) (by decide +kernel)
theorem l_432 : Cond.selects n_Ma y_Ho_pace y_Ma_pace ∈ TW := tw_of 432 (by decide +kernel) (by decide +kernel)
theorem l_433 : Cond.instanceMethod y_Ma_pace ∈ TW := tw_of 433 (by decide +kernel) (by decide +kernel)
theorem l_434 : Cond.code y_Ma_pace c_Ma_pace 3 (some .int) ∈ TW := tw_of 434 (by decide +kernel) (by decide +kernel)
theorem l_435 : Cond.methodLink n_Ma 19 ⟨n_Tw, "pace", "(II)I"⟩ ∈ TW := tw_of 435 (by decide +kernel) (by decide +kernel)
theorem l_436 : Cond.sameMethod n_Tw n_Ho "pace" "(II)I" ∈ TW := tw_of 436 (by decide +kernel) (by decide +kernel)
theorem l_438 : Cond.selects n_Tw y_Ho_pace y_Ho_pace ∈ TW := tw_of 438 (by decide +kernel) (by decide +kernel)
theorem l_439 : Cond.code y_Ho_pace c_Ho_pace 3 (some .int) ∈ TW := tw_of 439 (by decide +kernel) (by decide +kernel)
theorem l_440 : Cond.methodLink n_St 61 y_Ho_walk ∈ TW := tw_of 440 (by decide +kernel) (by decide +kernel)
theorem l_441 : Cond.instanceMethod y_Ho_walk ∈ TW := tw_of 441 (by decide +kernel) (by decide +kernel)
theorem l_442 : Cond.selects n_Ho y_Ho_walk y_Ho_walk ∈ TW := tw_of 442 (by decide +kernel) (by decide +kernel)
theorem l_443 : Cond.sameMethod n_Ho n_Ho "walk" "()I" ∈ TW := tw_of 443 (by decide +kernel) (by decide +kernel)
theorem l_444 : Cond.selects n_Bl y_Ho_walk y_Ho_walk ∈ TW := tw_of 444 (by decide +kernel) (by decide +kernel)
theorem l_445 : Cond.selects n_Co y_Ho_walk y_Co_walk ∈ TW := tw_of 445 (by decide +kernel) (by decide +kernel)
theorem l_446 : Cond.instanceMethod y_Co_walk ∈ TW := tw_of 446 (by decide +kernel) (by decide +kernel)
theorem l_447 : Cond.code y_Co_walk c_Co_walk 1 (some .int) ∈ TW := tw_of 447 (by decide +kernel) (by decide +kernel)
theorem l_448 : Cond.selects n_Dr y_Ho_walk y_Ho_walk ∈ TW := tw_of 448 (by decide +kernel) (by decide +kernel)
theorem l_449 : Cond.selects n_Fo y_Ho_walk y_Ho_walk ∈ TW := tw_of 449 (by decide +kernel) (by decide +kernel)
theorem l_450 : Cond.selects n_Ge y_Ho_walk y_Ge_walk ∈ TW := tw_of 450 (by decide +kernel) (by decide +kernel)
theorem l_451 : Cond.instanceMethod y_Ge_walk ∈ TW := tw_of 451 (by decide +kernel) (by decide +kernel)
theorem l_452 : Cond.code y_Ge_walk c_Ge_walk 1 (some .int) ∈ TW := tw_of 452 (by decide +kernel) (by decide +kernel)
theorem l_453 : Cond.selects n_Ma y_Ho_walk y_Ma_walk ∈ TW := tw_of 453 (by decide +kernel) (by decide +kernel)
theorem l_454 : Cond.instanceMethod y_Ma_walk ∈ TW := tw_of 454 (by decide +kernel) (by decide +kernel)
theorem l_455 : Cond.code y_Ma_walk c_Ma_walk 1 (some .int) ∈ TW := tw_of 455 (by decide +kernel) (by decide +kernel)
theorem l_456 : Cond.selects n_Tw y_Ho_walk y_Ho_walk ∈ TW := tw_of 456 (by decide +kernel) (by decide +kernel)
theorem l_457 : Cond.code y_Ho_walk c_Ho_walk 1 (some .int) ∈ TW := tw_of 457 (by decide +kernel) (by decide +kernel)
theorem l_462 : Cond.methodLink n_Hb 103 y_Hb_isHorse ∈ TW := tw_of 462 (by decide +kernel) (by decide +kernel)
theorem l_464 : Cond.instanceMethod y_Hb_isHorse ∈ TW := tw_of 464 (by decide +kernel) (by decide +kernel)
theorem l_465 : Cond.code y_Hb_isHorse c_Hb_isHorse 2 (some .boolean) ∈ TW := tw_of 465 (by decide +kernel) (by decide +kernel)
theorem l_466 : Cond.methodLink n_Hb 115 y_Ho_number ∈ TW := tw_of 466 (by decide +kernel) (by decide +kernel)
theorem l_467 : Cond.instanceMethod y_Ho_number ∈ TW := tw_of 467 (by decide +kernel) (by decide +kernel)
theorem l_468 : Cond.selects n_Ho y_Ho_number y_Ho_number ∈ TW := tw_of 468 (by decide +kernel) (by decide +kernel)
theorem l_469 : Cond.sameMethod n_Ho n_Ho "numbe\x72" "()I" ∈ TW := tw_of 469 (by decide +kernel) (by decide +kernel)
theorem l_470 : Cond.selects n_Bl y_Ho_number y_Bl_number ∈ TW := tw_of 470 (by decide +kernel) (by decide +kernel)
theorem l_471 : Cond.instanceMethod y_Bl_number ∈ TW := tw_of 471 (by decide +kernel) (by decide +kernel)
theorem l_472 : Cond.code y_Bl_number c_Bl_number 1 (some .int) ∈ TW := tw_of 472 (by decide +kernel) (by decide +kernel)
theorem l_473 : Cond.selects n_Co y_Ho_number y_Co_number ∈ TW := tw_of 473 (by decide +kernel) (by decide +kernel)
theorem l_474 : Cond.instanceMethod y_Co_number ∈ TW := tw_of 474 (by decide +kernel) (by decide +kernel)
theorem l_475 : Cond.code y_Co_number c_Co_number 1 (some .int) ∈ TW := tw_of 475 (by decide +kernel) (by decide +kernel)
theorem l_476 : Cond.selects n_Dr y_Ho_number y_Dr_number ∈ TW := tw_of 476 (by decide +kernel) (by decide +kernel)
theorem l_477 : Cond.instanceMethod y_Dr_number ∈ TW := tw_of 477 (by decide +kernel) (by decide +kernel)
theorem l_478 : Cond.code y_Dr_number c_Dr_number 1 (some .int) ∈ TW := tw_of 478 (by decide +kernel) (by decide +kernel)
theorem l_479 : Cond.selects n_Fo y_Ho_number y_Fo_number ∈ TW := tw_of 479 (by decide +kernel) (by decide +kernel)
theorem l_480 : Cond.instanceMethod y_Fo_number ∈ TW := tw_of 480 (by decide +kernel) (by decide +kernel)
theorem l_481 : Cond.code y_Fo_number c_Fo_number 1 (some .int) ∈ TW := tw_of 481 (by decide +kernel) (by decide +kernel)
theorem l_482 : Cond.selects n_Ge y_Ho_number y_Ge_number ∈ TW := tw_of 482 (by decide +kernel) (by decide +kernel)
theorem l_483 : Cond.instanceMethod y_Ge_number ∈ TW := tw_of 483 (by decide +kernel) (by decide +kernel)
theorem l_484 : Cond.code y_Ge_number c_Ge_number 1 (some .int) ∈ TW := tw_of 484 (by decide +kernel) (by decide +kernel)
theorem l_485 : Cond.selects n_Ma y_Ho_number y_Ma_number ∈ TW := tw_of 485 (by decide +kernel) (by decide +kernel)
theorem l_486 : Cond.instanceMethod y_Ma_number ∈ TW := tw_of 486 (by decide +kernel) (by decide +kernel)
theorem l_487 : Cond.code y_Ma_number c_Ma_number 1 (some .int) ∈ TW := tw_of 487 (by decide +kernel) (by decide +kernel)
theorem l_488 : Cond.selects n_Tw y_Ho_number y_Tw_number ∈ TW := tw_of 488 (by decide +kernel) (by decide +kernel)
theorem l_489 : Cond.instanceMethod y_Tw_number ∈ TW := tw_of 489 (by decide +kernel) (by decide +kernel)
theorem l_490 : Cond.code y_Tw_number c_Tw_number 1 (some .int) ∈ TW := tw_of 490 (by decide +kernel) (by decide +kernel)
theorem l_491 : Cond.code y_Ho_number c_Ho_number 1 (some .int) ∈ TW := tw_of 491 (by decide +kernel) (by decide +kernel)
theorem l_492 : Cond.methodLink n_Hb 134 y_St_goal ∈ TW := tw_of 492 (by decide +kernel) (by decide +kernel)
theorem l_493 : Cond.instanceMethod y_St_goal ∈ TW := tw_of 493 (by decide +kernel) (by decide +kernel)
theorem l_494 : Cond.selects n_St y_St_goal y_St_goal ∈ TW := tw_of 494 (by decide +kernel) (by decide +kernel)
theorem l_495 : Cond.code y_St_goal c_St_goal 2 (some .int) ∈ TW := tw_of 495 (by decide +kernel) (by decide +kernel)
theorem l_496 : Cond.methodLink n_Hb 137 y_St_pace ∈ TW := tw_of 496 (by decide +kernel) (by decide +kernel)
theorem l_497 : Cond.instanceMethod y_St_pace ∈ TW := tw_of 497 (by decide +kernel) (by decide +kernel)
theorem l_498 : Cond.selects n_St y_St_pace y_St_pace ∈ TW := tw_of 498 (by decide +kernel) (by decide +kernel)
theorem l_499 : Cond.code y_St_pace c_St_pace 1 (some .int) ∈ TW := tw_of 499 (by decide +kernel) (by decide +kernel)
theorem l_500 : Cond.methodLink n_Hb 140 y_Ho_walk ∈ TW := tw_of 500 (by decide +kernel) (by decide +kernel)
theorem l_505 : Cond.methodLink n_Hb 143 y_Hb_isYard ∈ TW := tw_of 505 (by decide +kernel) (by decide +kernel)
theorem l_506 : Cond.methodLink n_Hb 146 y_Hb_refusalOfKind ∈ TW := tw_of 506 (by decide +kernel) (by decide +kernel)
theorem l_508 : Cond.instanceMethod y_Hb_refusalOfKind ∈ TW := tw_of 508 (by decide +kernel) (by decide +kernel)
theorem l_509 : Cond.code y_Hb_refusalOfKind c_Hb_refusalOfKind 2 (some .int) ∈ TW := tw_of 509 (by decide +kernel) (by decide +kernel)
theorem l_510 : Cond.methodLink n_Hb 154 y_La_gets ∈ TW := tw_of 510 (by decide +kernel) (by decide +kernel)
theorem l_515 : Cond.methodLink n_Hb 158 y_Hb_daysOfRide ∈ TW := tw_of 515 (by decide +kernel) (by decide +kernel)
theorem l_517 : Cond.instanceMethod y_Hb_daysOfRide ∈ TW := tw_of 517 (by decide +kernel) (by decide +kernel)
theorem l_518 : Cond.code y_Hb_daysOfRide c_Hb_daysOfRide 3 (some .int) ∈ TW := tw_of 518 (by decide +kernel) (by decide +kernel)
theorem l_519 : Cond.methodLink n_Hb 183 y_St_become ∈ TW := tw_of 519 (by decide +kernel) (by decide +kernel)
theorem l_520 : Cond.methodLink n_Hb 197 y_St_ride ∈ TW := tw_of 520 (by decide +kernel) (by decide +kernel)
theorem l_521 : Cond.instanceMethod y_St_ride ∈ TW := tw_of 521 (by decide +kernel) (by decide +kernel)
theorem l_522 : Cond.selects n_St y_St_ride y_St_ride ∈ TW := tw_of 522 (by decide +kernel) (by decide +kernel)
theorem l_523 : Cond.code y_St_ride c_St_ride 4 (some .int) ∈ TW := tw_of 523 (by decide +kernel) (by decide +kernel)
theorem l_524 : Cond.methodLink n_St 65 y_St_move ∈ TW := tw_of 524 (by decide +kernel) (by decide +kernel)
theorem l_525 : Cond.methodLink n_St 52 y_St_pine ∈ TW := tw_of 525 (by decide +kernel) (by decide +kernel)
theorem l_526 : Cond.methodLink n_Hb 162 y_La_hasDays ∈ TW := tw_of 526 (by decide +kernel) (by decide +kernel)
theorem l_527 : Cond.methodLink n_Hb 165 y_La_ride ∈ TW := tw_of 527 (by decide +kernel) (by decide +kernel)
theorem l_544 : Cond.methodLink n_Hb 173 y_La_pass ∈ TW := tw_of 544 (by decide +kernel) (by decide +kernel)
theorem l_545 : Cond.methodLink n_Hb 177 y_La_allLonging ∈ TW := tw_of 545 (by decide +kernel) (by decide +kernel)
theorem l_546 : Cond.instanceMethod y_La_allLonging ∈ TW := tw_of 546 (by decide +kernel) (by decide +kernel)
theorem l_547 : Cond.selects n_La y_La_allLonging y_La_allLonging ∈ TW := tw_of 547 (by decide +kernel) (by decide +kernel)
theorem l_548 : Cond.code y_La_allLonging c_La_allLonging 3 (some .int) ∈ TW := tw_of 548 (by decide +kernel) (by decide +kernel)
theorem l_557 : Cond.methodLink n_Hb 180 y_Hb_isEither ∈ TW := tw_of 557 (by decide +kernel) (by decide +kernel)
theorem l_558 : Cond.static y_Hb_isEither ∈ TW := tw_of 558 (by decide +kernel) (by decide +kernel)
theorem l_559 : Cond.code y_Hb_isEither c_Hb_isEither 1 (some .boolean) ∈ TW := tw_of 559 (by decide +kernel) (by decide +kernel)
theorem l_560 : Cond.methodLink n_Hb 186 y_St_stay ∈ TW := tw_of 560 (by decide +kernel) (by decide +kernel)
theorem l_561 : Cond.instanceMethod y_St_stay ∈ TW := tw_of 561 (by decide +kernel) (by decide +kernel)
theorem l_562 : Cond.selects n_St y_St_stay y_St_stay ∈ TW := tw_of 562 (by decide +kernel) (by decide +kernel)
theorem l_563 : Cond.code y_St_stay c_St_stay 4 none ∈ TW := tw_of 563 (by decide +kernel) (by decide +kernel)
theorem l_568 : Cond.methodLink n_Hb 190 y_Hb_chainWith ∈ TW := tw_of 568 (by decide +kernel) (by decide +kernel)
theorem l_569 : Cond.static y_Hb_chainWith ∈ TW := tw_of 569 (by decide +kernel) (by decide +kernel)
theorem l_570 : Cond.code y_Hb_chainWith c_Hb_chainWith 10 (some .int) ∈ TW := tw_of 570 (by decide +kernel) (by decide +kernel)
theorem l_571 : Cond.methodLink n_Hb 302 y_Hb_chainOn ∈ TW := tw_of 571 (by decide +kernel) (by decide +kernel)
theorem l_572 : Cond.static y_Hb_chainOn ∈ TW := tw_of 572 (by decide +kernel) (by decide +kernel)
theorem l_573 : Cond.code y_Hb_chainOn c_Hb_chainOn 8 (some .int) ∈ TW := tw_of 573 (by decide +kernel) (by decide +kernel)
theorem l_574 : Cond.methodLink n_Hb 305 Lib.Math.min.name ∈ TW := tw_of 574 (by decide +kernel) (by decide +kernel)
theorem l_587 : Cond.methodLink n_Hb 194 y_St_rests ∈ TW := tw_of 587 (by decide +kernel) (by decide +kernel)
theorem l_588 : Cond.instanceMethod y_St_rests ∈ TW := tw_of 588 (by decide +kernel) (by decide +kernel)
theorem l_589 : Cond.selects n_St y_St_rests y_St_rests ∈ TW := tw_of 589 (by decide +kernel) (by decide +kernel)
theorem l_590 : Cond.code y_St_rests c_St_rests 2 (some .boolean) ∈ TW := tw_of 590 (by decide +kernel) (by decide +kernel)
theorem l_591 : Cond.methodLink n_St 38 y_St_goal ∈ TW := tw_of 591 (by decide +kernel) (by decide +kernel)
theorem l_604 : Cond.methodLink n_Hb 198 y_Hb_daysOfLaterRide ∈ TW := tw_of 604 (by decide +kernel) (by decide +kernel)
theorem l_606 : Cond.instanceMethod y_Hb_daysOfLaterRide ∈ TW := tw_of 606 (by decide +kernel) (by decide +kernel)
theorem l_607 : Cond.code y_Hb_daysOfLaterRide c_Hb_daysOfLaterRide 4 (some .int) ∈ TW := tw_of 607 (by decide +kernel) (by decide +kernel)
theorem l_628 : Cond.methodLink n_Hb 202 Lib.Math.abs.name ∈ TW := tw_of 628 (by decide +kernel) (by decide +kernel)
theorem l_633 : Cond.methodLink n_Hb 207 y_Hb_feesOf ∈ TW := tw_of 633 (by decide +kernel) (by decide +kernel)
theorem l_635 : Cond.instanceMethod y_Hb_feesOf ∈ TW := tw_of 635 (by decide +kernel) (by decide +kernel)
theorem l_636 : Cond.code y_Hb_feesOf c_Hb_feesOf 3 (some .int) ∈ TW := tw_of 636 (by decide +kernel) (by decide +kernel)
theorem l_637 : Cond.methodLink n_Hb 291 y_Ho_price ∈ TW := tw_of 637 (by decide +kernel) (by decide +kernel)
theorem l_638 : Cond.instanceMethod y_Ho_price ∈ TW := tw_of 638 (by decide +kernel) (by decide +kernel)
theorem l_639 : Cond.selects n_Ho y_Ho_price y_Ho_price ∈ TW := tw_of 639 (by decide +kernel) (by decide +kernel)
theorem l_640 : Cond.sameMethod n_Ho n_Ho "price" "(I)I" ∈ TW := tw_of 640 (by decide +kernel) (by decide +kernel)
theorem l_641 : Cond.selects n_Bl y_Ho_price y_Bl_price ∈ TW := tw_of 641 (by decide +kernel) (by decide +kernel)
theorem l_642 : Cond.instanceMethod y_Bl_price ∈ TW := tw_of 642 (by decide +kernel) (by decide +kernel)
theorem l_643 : Cond.code y_Bl_price c_Bl_price 2 (some .int) ∈ TW := tw_of 643 (by decide +kernel) (by decide +kernel)
theorem l_644 : Cond.methodLink n_Bl 13 y_Ho_price ∈ TW := tw_of 644 (by decide +kernel) (by decide +kernel)
theorem l_645 : Cond.selects n_Co y_Ho_price y_Co_price ∈ TW := tw_of 645 (by decide +kernel) (by decide +kernel)
theorem l_646 : Cond.instanceMethod y_Co_price ∈ TW := tw_of 646 (by decide +kernel) (by decide +kernel)
theorem l_647 : Cond.code y_Co_price c_Co_price 2 (some .int) ∈ TW := tw_of 647 (by decide +kernel) (by decide +kernel)
theorem l_648 : Cond.selects n_Dr y_Ho_price y_Dr_price ∈ TW := tw_of 648 (by decide +kernel) (by decide +kernel)
theorem l_649 : Cond.instanceMethod y_Dr_price ∈ TW := tw_of 649 (by decide +kernel) (by decide +kernel)
theorem l_650 : Cond.code y_Dr_price c_Dr_price 2 (some .int) ∈ TW := tw_of 650 (by decide +kernel) (by decide +kernel)
theorem l_651 : Cond.selects n_Fo y_Ho_price y_Fo_price ∈ TW := tw_of 651 (by decide +kernel) (by decide +kernel)
theorem l_652 : Cond.instanceMethod y_Fo_price ∈ TW := tw_of 652 (by decide +kernel) (by decide +kernel)
theorem l_653 : Cond.code y_Fo_price c_Fo_price 2 (some .int) ∈ TW := tw_of 653 (by decide +kernel) (by decide +kernel)
theorem l_654 : Cond.methodLink n_Fo 14 y_Ho_price ∈ TW := tw_of 654 (by decide +kernel) (by decide +kernel)
theorem l_655 : Cond.selects n_Ge y_Ho_price y_Ge_price ∈ TW := tw_of 655 (by decide +kernel) (by decide +kernel)
theorem l_656 : Cond.instanceMethod y_Ge_price ∈ TW := tw_of 656 (by decide +kernel) (by decide +kernel)
theorem l_657 : Cond.code y_Ge_price c_Ge_price 2 (some .int) ∈ TW := tw_of 657 (by decide +kernel) (by decide +kernel)
theorem l_658 : Cond.methodLink n_Ge 11 y_Co_price ∈ TW := tw_of 658 (by decide +kernel) (by decide +kernel)
theorem l_659 : Cond.selects n_Ma y_Ho_price y_Ma_price ∈ TW := tw_of 659 (by decide +kernel) (by decide +kernel)
theorem l_660 : Cond.instanceMethod y_Ma_price ∈ TW := tw_of 660 (by decide +kernel) (by decide +kernel)
theorem l_661 : Cond.code y_Ma_price c_Ma_price 2 (some .int) ∈ TW := tw_of 661 (by decide +kernel) (by decide +kernel)
theorem l_662 : Cond.methodLink n_Ma 22 y_Tw_price ∈ TW := tw_of 662 (by decide +kernel) (by decide +kernel)
theorem l_663 : Cond.instanceMethod y_Tw_price ∈ TW := tw_of 663 (by decide +kernel) (by decide +kernel)
theorem l_664 : Cond.code y_Tw_price c_Tw_price 2 (some .int) ∈ TW := tw_of 664 (by decide +kernel) (by decide +kernel)
theorem l_665 : Cond.methodLink n_Tw 15 y_Ho_price ∈ TW := tw_of 665 (by decide +kernel) (by decide +kernel)
theorem l_666 : Cond.selects n_Tw y_Ho_price y_Tw_price ∈ TW := tw_of 666 (by decide +kernel) (by decide +kernel)
theorem l_667 : Cond.code y_Ho_price c_Ho_price 2 (some .int) ∈ TW := tw_of 667 (by decide +kernel) (by decide +kernel)
theorem l_672 : Cond.methodLink n_Hb 210 y_Hb_isTold ∈ TW := tw_of 672 (by decide +kernel) (by decide +kernel)
theorem l_674 : Cond.instanceMethod y_Hb_isTold ∈ TW := tw_of 674 (by decide +kernel) (by decide +kernel)
theorem l_675 : Cond.code y_Hb_isTold c_Hb_isTold 5 (some .boolean) ∈ TW := tw_of 675 (by decide +kernel) (by decide +kernel)
theorem l_676 : Cond.methodLink n_Hb 239 y_Sh_tells ∈ TW := tw_of 676 (by decide +kernel) (by decide +kernel)
theorem l_677 : Cond.instanceMethod y_Sh_tells ∈ TW := tw_of 677 (by decide +kernel) (by decide +kernel)
theorem l_678 : Cond.selects n_Sh y_Sh_tells y_Sh_tells ∈ TW := tw_of 678 (by decide +kernel) (by decide +kernel)
theorem l_679 : Cond.code y_Sh_tells c_Sh_tells 3 (some .boolean) ∈ TW := tw_of 679 (by decide +kernel) (by decide +kernel)
theorem l_680 : Cond.methodLink n_Sh 29 y_Sh_leastOfSort ∈ TW := tw_of 680 (by decide +kernel) (by decide +kernel)
theorem l_682 : Cond.instanceMethod y_Sh_leastOfSort ∈ TW := tw_of 682 (by decide +kernel) (by decide +kernel)
theorem l_683 : Cond.code y_Sh_leastOfSort c_Sh_leastOfSort 1 (some .int) ∈ TW := tw_of 683 (by decide +kernel) (by decide +kernel)
theorem l_684 : Cond.constant n_Sh 33 (-2147483648) ∈ TW := tw_of 684 (by decide +kernel) (by decide +kernel)
theorem l_685 : Cond.methodLink n_Hb 308 y_St_move ∈ TW := tw_of 685 (by decide +kernel) (by decide +kernel)
theorem l_686 : Cond.methodLink n_Hb 311 y_St_pine ∈ TW := tw_of 686 (by decide +kernel) (by decide +kernel)
theorem l_687 : Cond.methodLink n_Hb 214 y_In_bitCount ∈ TW := tw_of 687 (by decide +kernel) (by decide +kernel)
theorem l_688 : Cond.static y_In_bitCount ∈ TW := tw_of 688 (by decide +kernel) (by decide +kernel)
theorem l_689 : Cond.code y_In_bitCount c_In_bitCount 1 (some .int) ∈ TW := tw_of 689 (by decide +kernel) (by decide +kernel)
theorem l_690 : Cond.constant n_In 265 (1431655765) ∈ TW := tw_of 690 (by decide +kernel) (by decide +kernel)
theorem l_691 : Cond.constant n_In 266 (858993459) ∈ TW := tw_of 691 (by decide +kernel) (by decide +kernel)
theorem l_692 : Cond.constant n_In 267 (252645135) ∈ TW := tw_of 692 (by decide +kernel) (by decide +kernel)
theorem l_697 : Cond.methodLink n_Hb 219 y_Hb_kindsTold ∈ TW := tw_of 697 (by decide +kernel) (by decide +kernel)
theorem l_699 : Cond.instanceMethod y_Hb_kindsTold ∈ TW := tw_of 699 (by decide +kernel) (by decide +kernel)
theorem l_700 : Cond.code y_Hb_kindsTold c_Hb_kindsTold 6 (some .int) ∈ TW := tw_of 700 (by decide +kernel) (by decide +kernel)
theorem l_701 : Cond.methodLink n_Hb 223 y_Hb_figuresTold ∈ TW := tw_of 701 (by decide +kernel) (by decide +kernel)
theorem l_703 : Cond.instanceMethod y_Hb_figuresTold ∈ TW := tw_of 703 (by decide +kernel) (by decide +kernel)
theorem l_704 : Cond.code y_Hb_figuresTold c_Hb_figuresTold 6 (some .int) ∈ TW := tw_of 704 (by decide +kernel) (by decide +kernel)
theorem l_709 : Cond.methodLink n_Hb 226 y_Hb_isBest ∈ TW := tw_of 709 (by decide +kernel) (by decide +kernel)
theorem l_711 : Cond.instanceMethod y_Hb_isBest ∈ TW := tw_of 711 (by decide +kernel) (by decide +kernel)
theorem l_712 : Cond.code y_Hb_isBest c_Hb_isBest 10 (some .boolean) ∈ TW := tw_of 712 (by decide +kernel) (by decide +kernel)
theorem l_713 : Cond.methodLink n_Hb 314 y_Hb_gain ∈ TW := tw_of 713 (by decide +kernel) (by decide +kernel)
theorem l_714 : Cond.static y_Hb_gain ∈ TW := tw_of 714 (by decide +kernel) (by decide +kernel)
theorem l_715 : Cond.code y_Hb_gain c_Hb_gain 3 (some .int) ∈ TW := tw_of 715 (by decide +kernel) (by decide +kernel)
theorem l_720 : Cond.constantLong n_Hb 230 (1000000001) ∈ TW := tw_of 720 (by decide +kernel) (by decide +kernel)
theorem l_721 : Cond.methodLink n_Hb 232 y_Hb_partOf ∈ TW := tw_of 721 (by decide +kernel) (by decide +kernel)
theorem l_722 : Cond.static y_Hb_partOf ∈ TW := tw_of 722 (by decide +kernel) (by decide +kernel)
theorem l_723 : Cond.code y_Hb_partOf c_Hb_partOf 12 (some .long) ∈ TW := tw_of 723 (by decide +kernel) (by decide +kernel)
theorem l_728 : Cond.methodLink n_Hb 236 Lib.Math.max.name ∈ TW := tw_of 728 (by decide +kernel) (by decide +kernel)
theorem l_729 : Cond.static Lib.Math.max.name ∈ TW := tw_of 729 (by decide +kernel) (by decide +kernel)
theorem l_730 : Cond.code Lib.Math.max.name Lib.Math.max.code 2 (some .int) ∈ TW := tw_of 730 (by decide +kernel) (by decide +kernel)
theorem l_743 : Cond.constant n_Hb 243 (1103515245) ∈ TW := tw_of 743 (by decide +kernel) (by decide +kernel)
theorem l_744 : Cond.constant n_Hb 244 (2147483647) ∈ TW := tw_of 744 (by decide +kernel) (by decide +kernel)
theorem l_745 : Cond.constant n_Hb 245 (65536) ∈ TW := tw_of 745 (by decide +kernel) (by decide +kernel)
theorem l_746 : Cond.methodLink n_Hb 246 y_La_allResting ∈ TW := tw_of 746 (by decide +kernel) (by decide +kernel)
theorem l_747 : Cond.instanceMethod y_La_allResting ∈ TW := tw_of 747 (by decide +kernel) (by decide +kernel)
theorem l_748 : Cond.selects n_La y_La_allResting y_La_allResting ∈ TW := tw_of 748 (by decide +kernel) (by decide +kernel)
theorem l_749 : Cond.code y_La_allResting c_La_allResting 3 (some .int) ∈ TW := tw_of 749 (by decide +kernel) (by decide +kernel)
theorem l_750 : Cond.methodLink n_La 69 y_St_rests ∈ TW := tw_of 750 (by decide +kernel) (by decide +kernel)
theorem l_763 : Cond.methodLink n_Hb 252 y_La_allPace ∈ TW := tw_of 763 (by decide +kernel) (by decide +kernel)
theorem l_764 : Cond.instanceMethod y_La_allPace ∈ TW := tw_of 764 (by decide +kernel) (by decide +kernel)
theorem l_765 : Cond.selects n_La y_La_allPace y_La_allPace ∈ TW := tw_of 765 (by decide +kernel) (by decide +kernel)
theorem l_766 : Cond.code y_La_allPace c_La_allPace 3 (some .int) ∈ TW := tw_of 766 (by decide +kernel) (by decide +kernel)
theorem l_767 : Cond.methodLink n_La 65 y_St_pace ∈ TW := tw_of 767 (by decide +kernel) (by decide +kernel)
theorem l_772 : Cond.methodLink n_Hb 261 y_Hb_isKind ∈ TW := tw_of 772 (by decide +kernel) (by decide +kernel)
theorem l_777 : Cond.methodLink n_Hb 264 y_Sh_getRow ∈ TW := tw_of 777 (by decide +kernel) (by decide +kernel)
theorem l_778 : Cond.instanceMethod y_Sh_getRow ∈ TW := tw_of 778 (by decide +kernel) (by decide +kernel)
theorem l_779 : Cond.selects n_Sh y_Sh_getRow y_Sh_getRow ∈ TW := tw_of 779 (by decide +kernel) (by decide +kernel)
theorem l_780 : Cond.code y_Sh_getRow c_Sh_getRow 4 none ∈ TW := tw_of 780 (by decide +kernel) (by decide +kernel)
theorem l_785 : Cond.methodLink n_Hb 267 y_Sh_set ∈ TW := tw_of 785 (by decide +kernel) (by decide +kernel)
theorem l_786 : Cond.instanceMethod y_Sh_set ∈ TW := tw_of 786 (by decide +kernel) (by decide +kernel)
theorem l_787 : Cond.selects n_Sh y_Sh_set y_Sh_set ∈ TW := tw_of 787 (by decide +kernel) (by decide +kernel)
theorem l_788 : Cond.code y_Sh_set c_Sh_set 3 none ∈ TW := tw_of 788 (by decide +kernel) (by decide +kernel)
theorem l_793 : Cond.methodLink n_Hb 285 arraycopyName ∈ TW := tw_of 793 (by decide +kernel) (by decide +kernel)
theorem l_794 : Cond.static arraycopyName ∈ TW := tw_of 794 (by decide +kernel) (by decide +kernel)
theorem l_795 : Cond.native arraycopyName ∈ TW := tw_of 795 (by decide +kernel) (by decide +kernel)
theorem l_944 : Cond.fieldLink n_Mo 81 n_Mo "horses" "I" ∈ TW := tw_of 944 (by decide +kernel) (by decide +kernel)
theorem l_945 : Cond.fieldLink n_Mo 7 n_Mo "kinds" "[I" ∈ TW := tw_of 945 (by decide +kernel) (by decide +kernel)
theorem l_946 : Cond.fieldLink n_Mo 13 n_Mo "figures" "[I" ∈ TW := tw_of 946 (by decide +kernel) (by decide +kernel)
theorem l_947 : Cond.fieldLink n_Mo 16 n_Mo "homes0" "[I" ∈ TW := tw_of 947 (by decide +kernel) (by decide +kernel)
theorem l_948 : Cond.fieldLink n_Mo 19 n_Mo "at0" "[I" ∈ TW := tw_of 948 (by decide +kernel) (by decide +kernel)
theorem l_949 : Cond.fieldLink n_Mo 22 n_Mo "longing" "[I" ∈ TW := tw_of 949 (by decide +kernel) (by decide +kernel)
theorem l_950 : Cond.fieldLink n_Mo 88 n_Mo "oats" "I" ∈ TW := tw_of 950 (by decide +kernel) (by decide +kernel)
theorem l_951 : Cond.fieldLink n_Mo 95 n_Mo "today" "I" ∈ TW := tw_of 951 (by decide +kernel) (by decide +kernel)
theorem l_952 : Cond.fieldLink n_Mo 25 n_Mo "holdsWhat" "[I" ∈ TW := tw_of 952 (by decide +kernel) (by decide +kernel)
theorem l_953 : Cond.fieldLink n_Mo 28 n_Mo "keptKind" "[I" ∈ TW := tw_of 953 (by decide +kernel) (by decide +kernel)
theorem l_954 : Cond.fieldLink n_Mo 31 n_Mo "keptFigure" "[I" ∈ TW := tw_of 954 (by decide +kernel) (by decide +kernel)
theorem l_955 : Cond.fieldLink n_Mo 34 n_Mo "rowSort" "[I" ∈ TW := tw_of 955 (by decide +kernel) (by decide +kernel)
theorem l_956 : Cond.fieldLink n_Mo 37 n_Mo "rowMany" "[I" ∈ TW := tw_of 956 (by decide +kernel) (by decide +kernel)
theorem l_957 : Cond.fieldLink n_Mo 40 n_Mo "rows" "[J" ∈ TW := tw_of 957 (by decide +kernel) (by decide +kernel)
theorem l_958 : Cond.fieldLink n_Mo 71 n_Mo "thrown" "I" ∈ TW := tw_of 958 (by decide +kernel) (by decide +kernel)
theorem l_959 : Cond.fieldLink n_Mo 121 n_Mo "reading" "I" ∈ TW := tw_of 959 (by decide +kernel) (by decide +kernel)
theorem l_960 : Cond.fieldLink n_Mo 118 n_Mo "place" "I" ∈ TW := tw_of 960 (by decide +kernel) (by decide +kernel)
theorem l_961 : Cond.fieldLink n_Mo 124 n_Mo "isBad" "Z" ∈ TW := tw_of 961 (by decide +kernel) (by decide +kernel)
theorem l_962 : Cond.fieldLink n_Mo 139 n_Mo "statements" "I" ∈ TW := tw_of 962 (by decide +kernel) (by decide +kernel)
theorem l_963 : Cond.fieldLink n_Mo 44 n_Mo "placeIn" "[I" ∈ TW := tw_of 963 (by decide +kernel) (by decide +kernel)
theorem l_964 : Cond.fieldLink n_Mo 47 n_Mo "letterOf" "[I" ∈ TW := tw_of 964 (by decide +kernel) (by decide +kernel)
theorem l_965 : Cond.fieldLink n_Mo 50 n_Mo "told" "[I" ∈ TW := tw_of 965 (by decide +kernel) (by decide +kernel)
theorem l_966 : Cond.fieldLink n_Mo 53 n_Mo "kept" "[I" ∈ TW := tw_of 966 (by decide +kernel) (by decide +kernel)
theorem l_967 : Cond.fieldLink n_Mo 56 n_Mo "kept1" "[I" ∈ TW := tw_of 967 (by decide +kernel) (by decide +kernel)
theorem l_968 : Cond.fieldLink n_Mo 59 n_Mo "kept2" "[I" ∈ TW := tw_of 968 (by decide +kernel) (by decide +kernel)
theorem l_969 : Cond.fieldLink n_Mo 62 n_Mo "imaged" "[I" ∈ TW := tw_of 969 (by decide +kernel) (by decide +kernel)
theorem l_970 : Cond.fieldLink n_Mo 202 n_Mo "hasImage" "Z" ∈ TW := tw_of 970 (by decide +kernel) (by decide +kernel)
theorem l_971 : Cond.fieldLink n_Mo 192 n_Mo "place0" "I" ∈ TW := tw_of 971 (by decide +kernel) (by decide +kernel)
theorem l_972 : Cond.fieldLink n_Mo 186 n_Mo "isTaking" "Z" ∈ TW := tw_of 972 (by decide +kernel) (by decide +kernel)
theorem l_973 : Cond.fieldLink n_Mo 189 n_Mo "keptIn" "[I" ∈ TW := tw_of 973 (by decide +kernel) (by decide +kernel)
theorem l_974 : Cond.fieldLink n_Mo 218 n_Mo "chainDays" "I" ∈ TW := tw_of 974 (by decide +kernel) (by decide +kernel)
theorem l_975 : Cond.fieldLink n_Mo 221 n_Mo "chainFirst" "I" ∈ TW := tw_of 975 (by decide +kernel) (by decide +kernel)
theorem l_976 : Cond.fieldLink n_Mo 65 n_Mo "thereBy" "[I" ∈ TW := tw_of 976 (by decide +kernel) (by decide +kernel)
theorem l_977 : Cond.fieldLink n_Mo 282 n_Mo "seed" "I" ∈ TW := tw_of 977 (by decide +kernel) (by decide +kernel)
theorem l_978 : Cond.fieldLink n_Mo 68 n_Mo "between" "[J" ∈ TW := tw_of 978 (by decide +kernel) (by decide +kernel)
theorem l_1059 : Cond.methodLink n_Mo 171 y_Mo_wrongRow ∈ TW := tw_of 1059 (by decide +kernel) (by decide +kernel)
theorem l_1061 : Cond.instanceMethod y_Mo_wrongRow ∈ TW := tw_of 1061 (by decide +kernel) (by decide +kernel)
theorem l_1062 : Cond.code y_Mo_wrongRow c_Mo_wrongRow 2 (some .int) ∈ TW := tw_of 1062 (by decide +kernel) (by decide +kernel)
theorem l_1063 : Cond.constantLong n_Mo 205 (7) ∈ TW := tw_of 1063 (by decide +kernel) (by decide +kernel)
theorem l_1064 : Cond.methodLink n_Mo 77 y_Mo_in ∈ TW := tw_of 1064 (by decide +kernel) (by decide +kernel)
theorem l_1065 : Cond.static y_Mo_in ∈ TW := tw_of 1065 (by decide +kernel) (by decide +kernel)
theorem l_1066 : Cond.code y_Mo_in c_Mo_in 6 (some .boolean) ∈ TW := tw_of 1066 (by decide +kernel) (by decide +kernel)
theorem l_1067 : Cond.methodLink n_Mo 174 y_Mo_readStatement ∈ TW := tw_of 1067 (by decide +kernel) (by decide +kernel)
theorem l_1069 : Cond.instanceMethod y_Mo_readStatement ∈ TW := tw_of 1069 (by decide +kernel) (by decide +kernel)
theorem l_1070 : Cond.code y_Mo_readStatement c_Mo_readStatement 3 none ∈ TW := tw_of 1070 (by decide +kernel) (by decide +kernel)
theorem l_1071 : Cond.methodLink n_Mo 128 y_Mo_here ∈ TW := tw_of 1071 (by decide +kernel) (by decide +kernel)
theorem l_1073 : Cond.instanceMethod y_Mo_here ∈ TW := tw_of 1073 (by decide +kernel) (by decide +kernel)
theorem l_1074 : Cond.code y_Mo_here c_Mo_here 1 (some .int) ∈ TW := tw_of 1074 (by decide +kernel) (by decide +kernel)
theorem l_1075 : Cond.methodLink n_Mo 142 y_Mo_isLetter ∈ TW := tw_of 1075 (by decide +kernel) (by decide +kernel)
theorem l_1076 : Cond.static y_Mo_isLetter ∈ TW := tw_of 1076 (by decide +kernel) (by decide +kernel)
theorem l_1077 : Cond.code y_Mo_isLetter c_Mo_isLetter 1 (some .boolean) ∈ TW := tw_of 1077 (by decide +kernel) (by decide +kernel)
theorem l_1078 : Cond.methodLink n_Mo 146 y_Mo_readNumbers ∈ TW := tw_of 1078 (by decide +kernel) (by decide +kernel)
theorem l_1080 : Cond.instanceMethod y_Mo_readNumbers ∈ TW := tw_of 1080 (by decide +kernel) (by decide +kernel)
theorem l_1081 : Cond.code y_Mo_readNumbers c_Mo_readNumbers 3 none ∈ TW := tw_of 1081 (by decide +kernel) (by decide +kernel)
theorem l_1082 : Cond.methodLink n_Mo 136 y_Mo_readDigits ∈ TW := tw_of 1082 (by decide +kernel) (by decide +kernel)
theorem l_1084 : Cond.instanceMethod y_Mo_readDigits ∈ TW := tw_of 1084 (by decide +kernel) (by decide +kernel)
theorem l_1085 : Cond.code y_Mo_readDigits c_Mo_readDigits 4 (some .int) ∈ TW := tw_of 1085 (by decide +kernel) (by decide +kernel)
theorem l_1086 : Cond.constantLong n_Mo 132 (48) ∈ TW := tw_of 1086 (by decide +kernel) (by decide +kernel)
theorem l_1087 : Cond.constantLong n_Mo 134 (57) ∈ TW := tw_of 1087 (by decide +kernel) (by decide +kernel)
theorem l_1088 : Cond.methodLink n_Mo 177 y_Mo_open ∈ TW := tw_of 1088 (by decide +kernel) (by decide +kernel)
theorem l_1090 : Cond.instanceMethod y_Mo_open ∈ TW := tw_of 1090 (by decide +kernel) (by decide +kernel)
theorem l_1091 : Cond.code y_Mo_open c_Mo_open 1 none ∈ TW := tw_of 1091 (by decide +kernel) (by decide +kernel)
theorem l_1092 : Cond.methodLink n_Mo 198 y_Mo_carryAll ∈ TW := tw_of 1092 (by decide +kernel) (by decide +kernel)
theorem l_1094 : Cond.instanceMethod y_Mo_carryAll ∈ TW := tw_of 1094 (by decide +kernel) (by decide +kernel)
theorem l_1095 : Cond.code y_Mo_carryAll c_Mo_carryAll 4 none ∈ TW := tw_of 1095 (by decide +kernel) (by decide +kernel)
theorem l_1096 : Cond.methodLink n_Mo 195 y_Mo_carry ∈ TW := tw_of 1096 (by decide +kernel) (by decide +kernel)
theorem l_1098 : Cond.instanceMethod y_Mo_carry ∈ TW := tw_of 1098 (by decide +kernel) (by decide +kernel)
theorem l_1099 : Cond.code y_Mo_carry c_Mo_carry 2 (some .int) ∈ TW := tw_of 1099 (by decide +kernel) (by decide +kernel)
theorem l_1100 : Cond.methodLink n_Mo 180 y_Mo_comesTold ∈ TW := tw_of 1100 (by decide +kernel) (by decide +kernel)
theorem l_1102 : Cond.instanceMethod y_Mo_comesTold ∈ TW := tw_of 1102 (by decide +kernel) (by decide +kernel)
theorem l_1103 : Cond.code y_Mo_comesTold c_Mo_comesTold 5 (some .boolean) ∈ TW := tw_of 1103 (by decide +kernel) (by decide +kernel)
theorem l_1104 : Cond.methodLink n_Mo 158 y_Mo_horseComes ∈ TW := tw_of 1104 (by decide +kernel) (by decide +kernel)
theorem l_1106 : Cond.instanceMethod y_Mo_horseComes ∈ TW := tw_of 1106 (by decide +kernel) (by decide +kernel)
theorem l_1107 : Cond.code y_Mo_horseComes c_Mo_horseComes 6 (some .boolean) ∈ TW := tw_of 1107 (by decide +kernel) (by decide +kernel)
theorem l_1108 : Cond.methodLink n_Mo 149 y_Mo_isYard ∈ TW := tw_of 1108 (by decide +kernel) (by decide +kernel)
theorem l_1109 : Cond.static y_Mo_isYard ∈ TW := tw_of 1109 (by decide +kernel) (by decide +kernel)
theorem l_1110 : Cond.code y_Mo_isYard c_Mo_isYard 1 (some .boolean) ∈ TW := tw_of 1110 (by decide +kernel) (by decide +kernel)
theorem l_1111 : Cond.constantLong n_Mo 75 (20) ∈ TW := tw_of 1111 (by decide +kernel) (by decide +kernel)
theorem l_1112 : Cond.methodLink n_Mo 162 y_Mo_isHorse ∈ TW := tw_of 1112 (by decide +kernel) (by decide +kernel)
theorem l_1114 : Cond.instanceMethod y_Mo_isHorse ∈ TW := tw_of 1114 (by decide +kernel) (by decide +kernel)
theorem l_1115 : Cond.code y_Mo_isHorse c_Mo_isHorse 2 (some .boolean) ∈ TW := tw_of 1115 (by decide +kernel) (by decide +kernel)
theorem l_1116 : Cond.methodLink n_Mo 165 y_Mo_ride ∈ TW := tw_of 1116 (by decide +kernel) (by decide +kernel)
theorem l_1118 : Cond.instanceMethod y_Mo_ride ∈ TW := tw_of 1118 (by decide +kernel) (by decide +kernel)
theorem l_1119 : Cond.code y_Mo_ride c_Mo_ride 4 (some .int) ∈ TW := tw_of 1119 (by decide +kernel) (by decide +kernel)
theorem l_1120 : Cond.methodLink n_Mo 114 y_Mo_rideOn ∈ TW := tw_of 1120 (by decide +kernel) (by decide +kernel)
theorem l_1122 : Cond.instanceMethod y_Mo_rideOn ∈ TW := tw_of 1122 (by decide +kernel) (by decide +kernel)
theorem l_1123 : Cond.code y_Mo_rideOn c_Mo_rideOn 8 none ∈ TW := tw_of 1123 (by decide +kernel) (by decide +kernel)
theorem l_1124 : Cond.methodLink n_Mo 91 y_Mo_goalOf ∈ TW := tw_of 1124 (by decide +kernel) (by decide +kernel)
theorem l_1126 : Cond.instanceMethod y_Mo_goalOf ∈ TW := tw_of 1126 (by decide +kernel) (by decide +kernel)
theorem l_1127 : Cond.code y_Mo_goalOf c_Mo_goalOf 6 (some .int) ∈ TW := tw_of 1127 (by decide +kernel) (by decide +kernel)
theorem l_1128 : Cond.methodLink n_Mo 84 y_Mo_apart ∈ TW := tw_of 1128 (by decide +kernel) (by decide +kernel)
theorem l_1129 : Cond.static y_Mo_apart ∈ TW := tw_of 1129 (by decide +kernel) (by decide +kernel)
theorem l_1130 : Cond.code y_Mo_apart c_Mo_apart 2 (some .int) ∈ TW := tw_of 1130 (by decide +kernel) (by decide +kernel)
theorem l_1131 : Cond.methodLink n_Mo 108 y_Mo_paceOf ∈ TW := tw_of 1131 (by decide +kernel) (by decide +kernel)
theorem l_1133 : Cond.instanceMethod y_Mo_paceOf ∈ TW := tw_of 1133 (by decide +kernel) (by decide +kernel)
theorem l_1134 : Cond.code y_Mo_paceOf c_Mo_paceOf 3 (some .int) ∈ TW := tw_of 1134 (by decide +kernel) (by decide +kernel)
theorem l_1135 : Cond.methodLink n_Mo 101 y_Mo_least ∈ TW := tw_of 1135 (by decide +kernel) (by decide +kernel)
theorem l_1136 : Cond.static y_Mo_least ∈ TW := tw_of 1136 (by decide +kernel) (by decide +kernel)
theorem l_1137 : Cond.code y_Mo_least c_Mo_least 2 (some .int) ∈ TW := tw_of 1137 (by decide +kernel) (by decide +kernel)
theorem l_1138 : Cond.methodLink n_Mo 111 y_Mo_walkOf ∈ TW := tw_of 1138 (by decide +kernel) (by decide +kernel)
theorem l_1140 : Cond.instanceMethod y_Mo_walkOf ∈ TW := tw_of 1140 (by decide +kernel) (by decide +kernel)
theorem l_1141 : Cond.code y_Mo_walkOf c_Mo_walkOf 2 (some .int) ∈ TW := tw_of 1141 (by decide +kernel) (by decide +kernel)
theorem l_1142 : Cond.methodLink n_Mo 104 y_Mo_dayBy ∈ TW := tw_of 1142 (by decide +kernel) (by decide +kernel)
theorem l_1144 : Cond.instanceMethod y_Mo_dayBy ∈ TW := tw_of 1144 (by decide +kernel) (by decide +kernel)
theorem l_1145 : Cond.code y_Mo_dayBy c_Mo_dayBy 4 none ∈ TW := tw_of 1145 (by decide +kernel) (by decide +kernel)
theorem l_1146 : Cond.methodLink n_Mo 98 y_Mo_pinesOf ∈ TW := tw_of 1146 (by decide +kernel) (by decide +kernel)
theorem l_1148 : Cond.instanceMethod y_Mo_pinesOf ∈ TW := tw_of 1148 (by decide +kernel) (by decide +kernel)
theorem l_1149 : Cond.code y_Mo_pinesOf c_Mo_pinesOf 3 (some .int) ∈ TW := tw_of 1149 (by decide +kernel) (by decide +kernel)
theorem l_1150 : Cond.methodLink n_Mo 168 y_Mo_daysCome ∈ TW := tw_of 1150 (by decide +kernel) (by decide +kernel)
theorem l_1152 : Cond.instanceMethod y_Mo_daysCome ∈ TW := tw_of 1152 (by decide +kernel) (by decide +kernel)
theorem l_1153 : Cond.code y_Mo_daysCome c_Mo_daysCome 3 (some .boolean) ∈ TW := tw_of 1153 (by decide +kernel) (by decide +kernel)
theorem l_1154 : Cond.constantLong n_Mo 152 (60) ∈ TW := tw_of 1154 (by decide +kernel) (by decide +kernel)
theorem l_1155 : Cond.methodLink n_Mo 154 y_Mo_goDays ∈ TW := tw_of 1155 (by decide +kernel) (by decide +kernel)
theorem l_1157 : Cond.instanceMethod y_Mo_goDays ∈ TW := tw_of 1157 (by decide +kernel) (by decide +kernel)
theorem l_1158 : Cond.code y_Mo_goDays c_Mo_goDays 3 none ∈ TW := tw_of 1158 (by decide +kernel) (by decide +kernel)
theorem l_1159 : Cond.methodLink n_Mo 183 y_Mo_close ∈ TW := tw_of 1159 (by decide +kernel) (by decide +kernel)
theorem l_1161 : Cond.instanceMethod y_Mo_close ∈ TW := tw_of 1161 (by decide +kernel) (by decide +kernel)
theorem l_1162 : Cond.code y_Mo_close c_Mo_close 1 none ∈ TW := tw_of 1162 (by decide +kernel) (by decide +kernel)
theorem l_1179 : Cond.methodLink n_Mo 207 y_Mo_wrongKept ∈ TW := tw_of 1179 (by decide +kernel) (by decide +kernel)
theorem l_1181 : Cond.instanceMethod y_Mo_wrongKept ∈ TW := tw_of 1181 (by decide +kernel) (by decide +kernel)
theorem l_1182 : Cond.code y_Mo_wrongKept c_Mo_wrongKept 2 (some .int) ∈ TW := tw_of 1182 (by decide +kernel) (by decide +kernel)
theorem l_1195 : Cond.constantLong n_Mo 210 (99) ∈ TW := tw_of 1195 (by decide +kernel) (by decide +kernel)
theorem l_1204 : Cond.methodLink n_Mo 212 y_Mo_allLonging ∈ TW := tw_of 1204 (by decide +kernel) (by decide +kernel)
theorem l_1206 : Cond.instanceMethod y_Mo_allLonging ∈ TW := tw_of 1206 (by decide +kernel) (by decide +kernel)
theorem l_1207 : Cond.code y_Mo_allLonging c_Mo_allLonging 3 (some .int) ∈ TW := tw_of 1207 (by decide +kernel) (by decide +kernel)
theorem l_1212 : Cond.methodLink n_Mo 215 y_Mo_ownRide ∈ TW := tw_of 1212 (by decide +kernel) (by decide +kernel)
theorem l_1214 : Cond.instanceMethod y_Mo_ownRide ∈ TW := tw_of 1214 (by decide +kernel) (by decide +kernel)
theorem l_1215 : Cond.code y_Mo_ownRide c_Mo_ownRide 4 (some .int) ∈ TW := tw_of 1215 (by decide +kernel) (by decide +kernel)
theorem l_1224 : Cond.methodLink n_Mo 224 y_Mo_takeChain ∈ TW := tw_of 1224 (by decide +kernel) (by decide +kernel)
theorem l_1226 : Cond.instanceMethod y_Mo_takeChain ∈ TW := tw_of 1226 (by decide +kernel) (by decide +kernel)
theorem l_1227 : Cond.code y_Mo_takeChain c_Mo_takeChain 3 none ∈ TW := tw_of 1227 (by decide +kernel) (by decide +kernel)
theorem l_1228 : Cond.methodLink n_Mo 231 y_Mo_secondRides ∈ TW := tw_of 1228 (by decide +kernel) (by decide +kernel)
theorem l_1230 : Cond.instanceMethod y_Mo_secondRides ∈ TW := tw_of 1230 (by decide +kernel) (by decide +kernel)
theorem l_1231 : Cond.code y_Mo_secondRides c_Mo_secondRides 9 none ∈ TW := tw_of 1231 (by decide +kernel) (by decide +kernel)
theorem l_1232 : Cond.methodLink n_Mo 227 y_Mo_thirdRides ∈ TW := tw_of 1232 (by decide +kernel) (by decide +kernel)
theorem l_1234 : Cond.instanceMethod y_Mo_thirdRides ∈ TW := tw_of 1234 (by decide +kernel) (by decide +kernel)
theorem l_1235 : Cond.code y_Mo_thirdRides c_Mo_thirdRides 7 none ∈ TW := tw_of 1235 (by decide +kernel) (by decide +kernel)
theorem l_1268 : Cond.constantLong n_Mo 235 (30) ∈ TW := tw_of 1268 (by decide +kernel) (by decide +kernel)
theorem l_1285 : Cond.constantLong n_Mo 240 (-1) ∈ TW := tw_of 1285 (by decide +kernel) (by decide +kernel)
theorem l_1286 : Cond.methodLink n_Mo 242 y_Mo_feesOf ∈ TW := tw_of 1286 (by decide +kernel) (by decide +kernel)
theorem l_1288 : Cond.instanceMethod y_Mo_feesOf ∈ TW := tw_of 1288 (by decide +kernel) (by decide +kernel)
theorem l_1289 : Cond.code y_Mo_feesOf c_Mo_feesOf 3 (some .int) ∈ TW := tw_of 1289 (by decide +kernel) (by decide +kernel)
theorem l_1290 : Cond.methodLink n_Mo 237 y_Mo_costOf ∈ TW := tw_of 1290 (by decide +kernel) (by decide +kernel)
theorem l_1291 : Cond.static y_Mo_costOf ∈ TW := tw_of 1291 (by decide +kernel) (by decide +kernel)
theorem l_1292 : Cond.code y_Mo_costOf c_Mo_costOf 2 (some .int) ∈ TW := tw_of 1292 (by decide +kernel) (by decide +kernel)
theorem l_1297 : Cond.methodLink n_Mo 255 y_Mo_isRow ∈ TW := tw_of 1297 (by decide +kernel) (by decide +kernel)
theorem l_1299 : Cond.instanceMethod y_Mo_isRow ∈ TW := tw_of 1299 (by decide +kernel) (by decide +kernel)
theorem l_1300 : Cond.code y_Mo_isRow c_Mo_isRow 8 (some .boolean) ∈ TW := tw_of 1300 (by decide +kernel) (by decide +kernel)
theorem l_1301 : Cond.methodLink n_Mo 251 y_Mo_skipped ∈ TW := tw_of 1301 (by decide +kernel) (by decide +kernel)
theorem l_1303 : Cond.instanceMethod y_Mo_skipped ∈ TW := tw_of 1303 (by decide +kernel) (by decide +kernel)
theorem l_1304 : Cond.code y_Mo_skipped c_Mo_skipped 2 (some .long) ∈ TW := tw_of 1304 (by decide +kernel) (by decide +kernel)
theorem l_1305 : Cond.constantLong n_Mo 245 (-128) ∈ TW := tw_of 1305 (by decide +kernel) (by decide +kernel)
theorem l_1306 : Cond.constantLong n_Mo 247 (-32768) ∈ TW := tw_of 1306 (by decide +kernel) (by decide +kernel)
theorem l_1307 : Cond.constantLong n_Mo 249 (-2147483648) ∈ TW := tw_of 1307 (by decide +kernel) (by decide +kernel)
theorem l_1316 : Cond.methodLink n_Mo 259 y_Mo_waitedRide ∈ TW := tw_of 1316 (by decide +kernel) (by decide +kernel)
theorem l_1318 : Cond.instanceMethod y_Mo_waitedRide ∈ TW := tw_of 1318 (by decide +kernel) (by decide +kernel)
theorem l_1319 : Cond.code y_Mo_waitedRide c_Mo_waitedRide 5 (some .int) ∈ TW := tw_of 1319 (by decide +kernel) (by decide +kernel)
theorem l_1320 : Cond.methodLink n_Mo 263 y_Mo_hasBy ∈ TW := tw_of 1320 (by decide +kernel) (by decide +kernel)
theorem l_1322 : Cond.instanceMethod y_Mo_hasBy ∈ TW := tw_of 1322 (by decide +kernel) (by decide +kernel)
theorem l_1323 : Cond.code y_Mo_hasBy c_Mo_hasBy 4 (some .int) ∈ TW := tw_of 1323 (by decide +kernel) (by decide +kernel)
theorem l_1328 : Cond.constantLong n_Mo 270 (2) ∈ TW := tw_of 1328 (by decide +kernel) (by decide +kernel)
theorem l_1329 : Cond.constantLong n_Mo 272 (1000000001) ∈ TW := tw_of 1329 (by decide +kernel) (by decide +kernel)
theorem l_1330 : Cond.methodLink n_Mo 274 y_Mo_hasBit ∈ TW := tw_of 1330 (by decide +kernel) (by decide +kernel)
theorem l_1331 : Cond.static y_Mo_hasBit ∈ TW := tw_of 1331 (by decide +kernel) (by decide +kernel)
theorem l_1332 : Cond.code y_Mo_hasBit c_Mo_hasBit 2 (some .boolean) ∈ TW := tw_of 1332 (by decide +kernel) (by decide +kernel)
theorem l_1333 : Cond.methodLink n_Mo 278 y_Mo_partOf ∈ TW := tw_of 1333 (by decide +kernel) (by decide +kernel)
theorem l_1334 : Cond.static y_Mo_partOf ∈ TW := tw_of 1334 (by decide +kernel) (by decide +kernel)
theorem l_1335 : Cond.code y_Mo_partOf c_Mo_partOf 7 (some .long) ∈ TW := tw_of 1335 (by decide +kernel) (by decide +kernel)
theorem l_1336 : Cond.methodLink n_Mo 266 y_Mo_divisor ∈ TW := tw_of 1336 (by decide +kernel) (by decide +kernel)
theorem l_1337 : Cond.static y_Mo_divisor ∈ TW := tw_of 1337 (by decide +kernel) (by decide +kernel)
theorem l_1338 : Cond.code y_Mo_divisor c_Mo_divisor 10 (some .long) ∈ TW := tw_of 1338 (by decide +kernel) (by decide +kernel)
theorem l_1355 : Cond.methodLink n_Mo 288 y_Mo_drawBelow ∈ TW := tw_of 1355 (by decide +kernel) (by decide +kernel)
theorem l_1357 : Cond.instanceMethod y_Mo_drawBelow ∈ TW := tw_of 1357 (by decide +kernel) (by decide +kernel)
theorem l_1358 : Cond.code y_Mo_drawBelow c_Mo_drawBelow 2 (some .int) ∈ TW := tw_of 1358 (by decide +kernel) (by decide +kernel)
theorem l_1359 : Cond.constant n_Mo 285 (1103515245) ∈ TW := tw_of 1359 (by decide +kernel) (by decide +kernel)
theorem l_1360 : Cond.constant n_Mo 286 (2147483647) ∈ TW := tw_of 1360 (by decide +kernel) (by decide +kernel)
theorem l_1361 : Cond.constant n_Mo 287 (65536) ∈ TW := tw_of 1361 (by decide +kernel) (by decide +kernel)
theorem l_1362 : Cond.methodLink n_Mo 291 y_Mo_atGoals ∈ TW := tw_of 1362 (by decide +kernel) (by decide +kernel)
theorem l_1364 : Cond.instanceMethod y_Mo_atGoals ∈ TW := tw_of 1364 (by decide +kernel) (by decide +kernel)
theorem l_1365 : Cond.code y_Mo_atGoals c_Mo_atGoals 3 (some .int) ∈ TW := tw_of 1365 (by decide +kernel) (by decide +kernel)
theorem l_1374 : Cond.constantLong n_Mo 294 (9) ∈ TW := tw_of 1374 (by decide +kernel) (by decide +kernel)
theorem l_1383 : Cond.methodLink n_Mo 296 y_Mo_narrowed ∈ TW := tw_of 1383 (by decide +kernel) (by decide +kernel)
theorem l_1384 : Cond.static y_Mo_narrowed ∈ TW := tw_of 1384 (by decide +kernel) (by decide +kernel)
theorem l_1385 : Cond.code y_Mo_narrowed c_Mo_narrowed 2 (some .long) ∈ TW := tw_of 1385 (by decide +kernel) (by decide +kernel)
theorem l_1402 : Cond.sameMethod n_Co n_Co "pace" "(II)I" ∈ TW := tw_of 1402 (by decide +kernel) (by decide +kernel)
theorem l_1403 : Cond.sameMethod n_Co n_Co "price" "(I)I" ∈ TW := tw_of 1403 (by decide +kernel) (by decide +kernel)
theorem l_1404 : Cond.sameMethod n_Tw n_Tw "price" "(I)I" ∈ TW := tw_of 1404 (by decide +kernel) (by decide +kernel)
end
section
def gK {α : Type} (i : Nat) (v : Option α) : Option α := if 98 ≤ i ∧ i < 102 then v else none
theorem gK_some {α : Type} {i : Nat} {v : Option α} {r : α} (h : gK i v = some r) : (98 ≤ i ∧ i < 102) ∧ v = some r := by
  unfold gK at h
  by_cases c : 98 ≤ i ∧ i < 102
  · rw [if_pos c] at h; exact ⟨c, h⟩
  · rw [if_neg c] at h; cases h
theorem shN_k {o : Nat} (h : 98 ≤ o ∧ o < 102) : shN o = 38 := by
  unfold shN
  rw [if_neg (by omega), if_neg (by omega), if_neg (by omega), if_neg (by omega), if_pos (by omega)]
theorem k_ialdK {g : GC} {X : MX} {cc : ByteArray} {nL lvl pc : Nat} {own : String} {loc : List (Nat × Value)} {rest : List Value} {xx : XD} {m : MD} {oo : Nat → Int64} {o : Nat} {i : Int32} (C : Cx g X cc nL own lvl) (ho : 98 ≤ o ∧ o < 102) (hi : vp_in i 38) (hd : decode cc pc = .ok (.iaload, 1)) (h : Wk g X nL (pc + 1) loc (.int (m.1 o i.toNatClampNeg) :: rest) (xx, m, oo)) : Wk g X nL pc loc (.int i :: .ref (g_a g o) :: rest) (xx, m, oo) := k_ialdM C (by omega) (by omega) (by rw [shN_k ho]; exact hi) hd h
theorem k_iastK {g : GC} {X : MX} {cc : ByteArray} {nL lvl pc : Nat} {own : String} {loc : List (Nat × Value)} {rest : List Value} {xx : XD} {m m1 : MD} {oo : Nat → Int64} {o : Nat} {i : Int32} (C : Cx g X cc nL own lvl) {v : Int32} (ho : 98 ≤ o ∧ o < 102) (hi : vp_in i 38) (e : m1 = (x_up m.1 o i.toNatClampNeg v, m.2)) (hd : decode cc pc = .ok (.iastore, 1)) (h : Wk g X nL (pc + 1) loc rest (xx, m1, oo)) : Wk g X nL pc loc (.int v :: .int i :: .ref (g_a g o) :: rest) (xx, m, oo) := k_iastM C (by omega) (by omega) (by rw [shN_k ho]; exact hi) e hd h
theorem q_Bl_9 : LkP n_Bl 9 y_Ho_pines c_Ho_pines 3 (some .int) 2 := lkP 2 l_374 l_370 l_103 l_368 l_53 l_394 (by decide +kernel)
theorem q_Bl_13 : LkP n_Bl 13 y_Ho_price c_Ho_price 2 (some .int) 1 := lkP 1 l_644 l_640 l_103 l_638 l_53 l_667 (by decide +kernel)
theorem q_Dr_7 : LkP n_Dr 7 y_Ho_pines c_Ho_pines 3 (some .int) 2 := lkP 2 l_381 l_370 l_117 l_368 l_53 l_394 (by decide +kernel)
theorem q_Fo_7 : LkP n_Fo 7 y_Ho_pines c_Ho_pines 3 (some .int) 2 := lkP 2 l_385 l_370 l_124 l_368 l_53 l_394 (by decide +kernel)
theorem q_Fo_11 : LkP n_Fo 11 y_Ho_pace c_Ho_pace 3 (some .int) 2 := lkP 2 l_427 l_416 l_124 l_414 l_53 l_439 (by decide +kernel)
theorem q_Fo_14 : LkP n_Fo 14 y_Ho_price c_Ho_price 2 (some .int) 1 := lkP 1 l_654 l_640 l_124 l_638 l_53 l_667 (by decide +kernel)
theorem q_Ge_7 : LkP n_Ge 7 y_Co_pace c_Co_pace 3 (some .int) 2 := lkP 2 l_431 l_1402 l_138 l_421 l_54 l_422 (by decide +kernel)
theorem q_Ge_11 : LkP n_Ge 11 y_Co_price c_Co_price 2 (some .int) 1 := lkP 1 l_658 l_1403 l_138 l_646 l_54 l_647 (by decide +kernel)
theorem q_Hb_73 : LkV n_Hb n_Hb 73 y_Hb_refusalOfRow c_Hb_refusalOfRow 2 (some .int) 1 := lkV 1 l_260 l_262 l_0 l_52 l_263 (by decide +kernel)
theorem q_Hb_81 : LkS n_Hb 81 y_Hb_placeOfLack c_Hb_placeOfLack 4 (some .int) 1 := lkS 1 l_274 l_275 l_52 l_276 (by decide +kernel)
theorem q_Hb_85 : LkV n_Hb n_La 85 y_La_become c_La_become 3 none 1 := lkV 1 l_284 l_285 l_286 l_61 l_287 (by decide +kernel)
theorem q_Hb_92 : LkV n_Hb n_La 92 y_La_follow c_La_follow 5 (some .boolean) 2 := lkV 2 l_292 l_293 l_294 l_61 l_295 (by decide +kernel)
theorem q_Hb_100 : LkS n_Hb 100 y_Hb_digitsBehind c_Hb_digitsBehind 1 (some .int) 1 := lkS 1 l_281 l_282 l_52 l_283 (by decide +kernel)
theorem q_Hb_103 : LkV n_Hb n_Hb 103 y_Hb_isHorse c_Hb_isHorse 2 (some .boolean) 1 := lkV 1 l_462 l_464 l_6 l_52 l_465 (by decide +kernel)
theorem q_Hb_134 : LkV n_Hb n_St 134 y_St_goal c_St_goal 2 (some .int) 1 := lkV 1 l_492 l_493 l_494 l_62 l_495 (by decide +kernel)
theorem q_Hb_137 : LkV n_Hb n_St 137 y_St_pace c_St_pace 1 (some .int) 0 := lkV 0 l_496 l_497 l_498 l_62 l_499 (by decide +kernel)
theorem q_Hb_143 : LkS n_Hb 143 y_Hb_isYard c_Hb_isYard 1 (some .boolean) 1 := lkS 1 l_505 l_313 l_52 l_314 (by decide +kernel)
theorem q_Hb_146 : LkV n_Hb n_Hb 146 y_Hb_refusalOfKind c_Hb_refusalOfKind 2 (some .int) 1 := lkV 1 l_506 l_508 l_7 l_52 l_509 (by decide +kernel)
theorem q_Hb_154 : LkV n_Hb n_La 154 y_La_gets c_La_gets 6 (some .boolean) 4 := lkV 4 l_510 l_316 l_317 l_61 l_318 (by decide +kernel)
theorem q_Hb_158 : LkV n_Hb n_Hb 158 y_Hb_daysOfRide c_Hb_daysOfRide 3 (some .int) 2 := lkV 2 l_515 l_517 l_8 l_52 l_518 (by decide +kernel)
theorem q_Hb_162 : LkV n_Hb n_La 162 y_La_hasDays c_La_hasDays 2 (some .boolean) 1 := lkV 1 l_526 l_329 l_330 l_61 l_331 (by decide +kernel)
theorem q_Hb_165 : LkV n_Hb n_La 165 y_La_ride c_La_ride 4 (some .int) 2 := lkV 2 l_527 l_403 l_404 l_61 l_405 (by decide +kernel)
theorem q_Hb_169 : LkS n_Hb 169 y_Hb_isWithin c_Hb_isWithin 3 (some .boolean) 3 := lkS 3 l_271 l_272 l_52 l_273 (by decide +kernel)
theorem q_Hb_173 : LkV n_Hb n_La 173 y_La_pass c_La_pass 4 none 1 := lkV 1 l_544 l_333 l_334 l_61 l_335 (by decide +kernel)
theorem q_Hb_177 : LkV n_Hb n_La 177 y_La_allLonging c_La_allLonging 3 (some .int) 0 := lkV 0 l_545 l_546 l_547 l_61 l_548 (by decide +kernel)
theorem q_Hb_180 : LkS n_Hb 180 y_Hb_isEither c_Hb_isEither 1 (some .boolean) 1 := lkS 1 l_557 l_558 l_52 l_559 (by decide +kernel)
theorem q_Hb_183 : LkV n_Hb n_St 183 y_St_become c_St_become 2 none 1 := lkV 1 l_519 l_289 l_290 l_62 l_291 (by decide +kernel)
theorem q_Hb_186 : LkV n_Hb n_St 186 y_St_stay c_St_stay 4 none 2 := lkV 2 l_560 l_561 l_562 l_62 l_563 (by decide +kernel)
theorem q_Hb_190 : LkS n_Hb 190 y_Hb_chainWith c_Hb_chainWith 10 (some .int) 5 := lkS 5 l_568 l_569 l_52 l_570 (by decide +kernel)
theorem q_Hb_194 : LkV n_Hb n_St 194 y_St_rests c_St_rests 2 (some .boolean) 1 := lkV 1 l_587 l_588 l_589 l_62 l_590 (by decide +kernel)
theorem q_Hb_197 : LkV n_Hb n_St 197 y_St_ride c_St_ride 4 (some .int) 2 := lkV 2 l_520 l_521 l_522 l_62 l_523 (by decide +kernel)
theorem q_Hb_198 : LkV n_Hb n_Hb 198 y_Hb_daysOfLaterRide c_Hb_daysOfLaterRide 4 (some .int) 3 := lkV 3 l_604 l_606 l_9 l_52 l_607 (by decide +kernel)
theorem q_Hb_207 : LkV n_Hb n_Hb 207 y_Hb_feesOf c_Hb_feesOf 3 (some .int) 2 := lkV 2 l_633 l_635 l_10 l_52 l_636 (by decide +kernel)
theorem q_Hb_210 : LkV n_Hb n_Hb 210 y_Hb_isTold c_Hb_isTold 5 (some .boolean) 3 := lkV 3 l_672 l_674 l_11 l_52 l_675 (by decide +kernel)
theorem q_Hb_214 : LkS n_Hb 214 y_In_bitCount c_In_bitCount 1 (some .int) 1 := lkS 1 l_687 l_688 l_66 l_689 (by decide +kernel)
theorem q_Hb_219 : LkV n_Hb n_Hb 219 y_Hb_kindsTold c_Hb_kindsTold 6 (some .int) 3 := lkV 3 l_697 l_699 l_13 l_52 l_700 (by decide +kernel)
theorem q_Hb_223 : LkV n_Hb n_Hb 223 y_Hb_figuresTold c_Hb_figuresTold 6 (some .int) 3 := lkV 3 l_701 l_703 l_14 l_52 l_704 (by decide +kernel)
theorem q_Hb_226 : LkV n_Hb n_Hb 226 y_Hb_isBest c_Hb_isBest 10 (some .boolean) 5 := lkV 5 l_709 l_711 l_15 l_52 l_712 (by decide +kernel)
theorem q_Hb_232 : LkS n_Hb 232 y_Hb_partOf c_Hb_partOf 12 (some .long) 3 := lkS 3 l_721 l_722 l_52 l_723 (by decide +kernel)
theorem q_Hb_239 : LkV n_Hb n_Sh 239 y_Sh_tells c_Sh_tells 3 (some .boolean) 2 := lkV 2 l_676 l_677 l_678 l_63 l_679 (by decide +kernel)
theorem q_Hb_246 : LkV n_Hb n_La 246 y_La_allResting c_La_allResting 3 (some .int) 0 := lkV 0 l_746 l_747 l_748 l_61 l_749 (by decide +kernel)
theorem q_Hb_252 : LkV n_Hb n_La 252 y_La_allPace c_La_allPace 3 (some .int) 0 := lkV 0 l_763 l_764 l_765 l_61 l_766 (by decide +kernel)
theorem q_Hb_255 : LkS n_Hb 255 y_Hb_isShelf c_Hb_isShelf 1 (some .boolean) 1 := lkS 1 l_268 l_269 l_52 l_270 (by decide +kernel)
theorem q_Hb_261 : LkS n_Hb 261 y_Hb_isKind c_Hb_isKind 1 (some .boolean) 1 := lkS 1 l_772 l_310 l_52 l_311 (by decide +kernel)
theorem q_Hb_264 : LkV n_Hb n_Sh 264 y_Sh_getRow c_Sh_getRow 4 none 2 := lkV 2 l_777 l_778 l_779 l_63 l_780 (by decide +kernel)
theorem q_Hb_267 : LkV n_Hb n_Sh 267 y_Sh_set c_Sh_set 3 none 2 := lkV 2 l_785 l_786 l_787 l_63 l_788 (by decide +kernel)
theorem q_Hb_282 : LkV n_Hb n_Sh 282 y_Sh_hasPlaces c_Sh_hasPlaces 3 (some .boolean) 2 := lkV 2 l_277 l_278 l_279 l_63 l_280 (by decide +kernel)
theorem q_Hb_299 : LkV n_Hb n_Hb 299 y_Hb_refusalOf c_Hb_refusalOf 3 (some .int) 2 := lkV 2 l_264 l_266 l_1 l_52 l_267 (by decide +kernel)
theorem q_Hb_302 : LkS n_Hb 302 y_Hb_chainOn c_Hb_chainOn 8 (some .int) 5 := lkS 5 l_571 l_572 l_52 l_573 (by decide +kernel)
theorem q_Hb_308 : LkV n_Hb n_St 308 y_St_move c_St_move 6 none 2 := lkV 2 l_685 l_407 l_408 l_62 l_409 (by decide +kernel)
theorem q_Hb_311 : LkV n_Hb n_St 311 y_St_pine c_St_pine 3 none 1 := lkV 1 l_686 l_337 l_338 l_62 l_339 (by decide +kernel)
theorem q_Hb_314 : LkS n_Hb 314 y_Hb_gain c_Hb_gain 3 (some .int) 3 := lkS 3 l_713 l_714 l_52 l_715 (by decide +kernel)
theorem q_La_34 : LkV n_La n_St 34 y_St_become c_St_become 2 none 1 := lkV 1 l_288 l_289 l_290 l_62 l_291 (by decide +kernel)
theorem q_La_54 : LkV n_La n_St 54 y_St_pine c_St_pine 3 none 1 := lkV 1 l_336 l_337 l_338 l_62 l_339 (by decide +kernel)
theorem q_La_58 : LkV n_La n_St 58 y_St_move c_St_move 6 none 2 := lkV 2 l_406 l_407 l_408 l_62 l_409 (by decide +kernel)
theorem q_La_62 : LkV n_La n_La 62 y_La_pass c_La_pass 4 none 1 := lkV 1 l_332 l_333 l_334 l_61 l_335 (by decide +kernel)
theorem q_La_65 : LkV n_La n_St 65 y_St_pace c_St_pace 1 (some .int) 0 := lkV 0 l_767 l_497 l_498 l_62 l_499 (by decide +kernel)
theorem q_La_69 : LkV n_La n_St 69 y_St_rests c_St_rests 2 (some .boolean) 1 := lkV 1 l_750 l_588 l_589 l_62 l_590 (by decide +kernel)
theorem q_La_73 : LkV n_La n_Sh 73 y_Sh_digit c_Sh_digit 2 (some .int) 1 := lkV 1 l_296 l_297 l_298 l_63 l_299 (by decide +kernel)
theorem q_La_83 : LkV n_La n_La 83 y_La_followHorse c_La_followHorse 6 (some .boolean) 2 := lkV 2 l_300 l_302 l_2 l_61 l_303 (by decide +kernel)
theorem q_La_87 : LkV n_La n_Sh 87 y_Sh_number c_Sh_number 2 (some .int) 1 := lkV 1 l_304 l_305 l_306 l_63 l_307 (by decide +kernel)
theorem q_La_90 : LkV n_La n_La 90 y_La_followOats c_La_followOats 2 (some .boolean) 1 := lkV 1 l_319 l_321 l_3 l_61 l_322 (by decide +kernel)
theorem q_La_93 : LkV n_La n_La 93 y_La_followDays c_La_followDays 2 (some .boolean) 1 := lkV 1 l_323 l_325 l_4 l_61 l_326 (by decide +kernel)
theorem q_La_96 : LkV n_La n_La 96 y_La_followLonging c_La_followLonging 3 (some .boolean) 2 := lkV 2 l_398 l_400 l_5 l_61 l_401 (by decide +kernel)
theorem q_La_100 : LkT n_La 100 y_Hb_isYard n_Hb c_Hb_isYard 1 (some .boolean) 1 := lkT 1 l_312 l_313 l_52 l_314 (by decide +kernel)
theorem q_La_103 : LkV n_La n_La 103 y_La_ride c_La_ride 4 (some .int) 2 := lkV 2 l_402 l_403 l_404 l_61 l_405 (by decide +kernel)
theorem q_La_107 : LkV n_La n_La 107 y_La_hasDays c_La_hasDays 2 (some .boolean) 1 := lkV 1 l_328 l_329 l_330 l_61 l_331 (by decide +kernel)
theorem q_La_110 : LkT n_La 110 y_Hb_isKind n_Hb c_Hb_isKind 1 (some .boolean) 1 := lkT 1 l_309 l_310 l_52 l_311 (by decide +kernel)
theorem q_La_113 : LkV n_La n_La 113 y_La_gets c_La_gets 6 (some .boolean) 4 := lkV 4 l_315 l_316 l_317 l_61 l_318 (by decide +kernel)
theorem q_La_117 : LkT n_La 117 y_Hb_isWithin n_Hb c_Hb_isWithin 3 (some .boolean) 3 := lkT 3 l_327 l_272 l_52 l_273 (by decide +kernel)
theorem q_Ma_22 : LkP n_Ma 22 y_Tw_price c_Tw_price 2 (some .int) 1 := lkP 1 l_662 l_1404 l_131 l_663 l_56 l_664 (by decide +kernel)
theorem q_Mo_77 : LkS n_Mo 77 y_Mo_in c_Mo_in 6 (some .boolean) 3 := lkS 3 l_1064 l_1065 l_64 l_1066 (by decide +kernel)
theorem q_Mo_84 : LkS n_Mo 84 y_Mo_apart c_Mo_apart 2 (some .int) 2 := lkS 2 l_1128 l_1129 l_64 l_1130 (by decide +kernel)
theorem q_Mo_91 : LkV n_Mo n_Mo 91 y_Mo_goalOf c_Mo_goalOf 6 (some .int) 1 := lkV 1 l_1124 l_1126 l_30 l_64 l_1127 (by decide +kernel)
theorem q_Mo_98 : LkV n_Mo n_Mo 98 y_Mo_pinesOf c_Mo_pinesOf 3 (some .int) 1 := lkV 1 l_1146 l_1148 l_34 l_64 l_1149 (by decide +kernel)
theorem q_Mo_101 : LkS n_Mo 101 y_Mo_least c_Mo_least 2 (some .int) 2 := lkS 2 l_1135 l_1136 l_64 l_1137 (by decide +kernel)
theorem q_Mo_104 : LkV n_Mo n_Mo 104 y_Mo_dayBy c_Mo_dayBy 4 none 1 := lkV 1 l_1142 l_1144 l_33 l_64 l_1145 (by decide +kernel)
theorem q_Mo_108 : LkV n_Mo n_Mo 108 y_Mo_paceOf c_Mo_paceOf 3 (some .int) 1 := lkV 1 l_1131 l_1133 l_31 l_64 l_1134 (by decide +kernel)
theorem q_Mo_111 : LkV n_Mo n_Mo 111 y_Mo_walkOf c_Mo_walkOf 2 (some .int) 1 := lkV 1 l_1138 l_1140 l_32 l_64 l_1141 (by decide +kernel)
theorem q_Mo_114 : LkV n_Mo n_Mo 114 y_Mo_rideOn c_Mo_rideOn 8 none 2 := lkV 2 l_1120 l_1122 l_29 l_64 l_1123 (by decide +kernel)
theorem q_Mo_128 : LkV n_Mo n_Mo 128 y_Mo_here c_Mo_here 1 (some .int) 0 := lkV 0 l_1071 l_1073 l_19 l_64 l_1074 (by decide +kernel)
theorem q_Mo_136 : LkV n_Mo n_Mo 136 y_Mo_readDigits c_Mo_readDigits 4 (some .int) 1 := lkV 1 l_1082 l_1084 l_21 l_64 l_1085 (by decide +kernel)
theorem q_Mo_142 : LkS n_Mo 142 y_Mo_isLetter c_Mo_isLetter 1 (some .boolean) 1 := lkS 1 l_1075 l_1076 l_64 l_1077 (by decide +kernel)
theorem q_Mo_146 : LkV n_Mo n_Mo 146 y_Mo_readNumbers c_Mo_readNumbers 3 none 2 := lkV 2 l_1078 l_1080 l_20 l_64 l_1081 (by decide +kernel)
theorem q_Mo_149 : LkS n_Mo 149 y_Mo_isYard c_Mo_isYard 1 (some .boolean) 1 := lkS 1 l_1108 l_1109 l_64 l_1110 (by decide +kernel)
theorem q_Mo_154 : LkV n_Mo n_Mo 154 y_Mo_goDays c_Mo_goDays 3 none 1 := lkV 1 l_1155 l_1157 l_36 l_64 l_1158 (by decide +kernel)
theorem q_Mo_158 : LkV n_Mo n_Mo 158 y_Mo_horseComes c_Mo_horseComes 6 (some .boolean) 4 := lkV 4 l_1104 l_1106 l_26 l_64 l_1107 (by decide +kernel)
theorem q_Mo_162 : LkV n_Mo n_Mo 162 y_Mo_isHorse c_Mo_isHorse 2 (some .boolean) 1 := lkV 1 l_1112 l_1114 l_27 l_64 l_1115 (by decide +kernel)
theorem q_Mo_165 : LkV n_Mo n_Mo 165 y_Mo_ride c_Mo_ride 4 (some .int) 2 := lkV 2 l_1116 l_1118 l_28 l_64 l_1119 (by decide +kernel)
theorem q_Mo_168 : LkV n_Mo n_Mo 168 y_Mo_daysCome c_Mo_daysCome 3 (some .boolean) 1 := lkV 1 l_1150 l_1152 l_35 l_64 l_1153 (by decide +kernel)
theorem q_Mo_171 : LkV n_Mo n_Mo 171 y_Mo_wrongRow c_Mo_wrongRow 2 (some .int) 1 := lkV 1 l_1059 l_1061 l_17 l_64 l_1062 (by decide +kernel)
theorem q_Mo_174 : LkV n_Mo n_Mo 174 y_Mo_readStatement c_Mo_readStatement 3 none 0 := lkV 0 l_1067 l_1069 l_18 l_64 l_1070 (by decide +kernel)
theorem q_Mo_177 : LkV n_Mo n_Mo 177 y_Mo_open c_Mo_open 1 none 0 := lkV 0 l_1088 l_1090 l_22 l_64 l_1091 (by decide +kernel)
theorem q_Mo_180 : LkV n_Mo n_Mo 180 y_Mo_comesTold c_Mo_comesTold 5 (some .boolean) 1 := lkV 1 l_1100 l_1102 l_25 l_64 l_1103 (by decide +kernel)
theorem q_Mo_183 : LkV n_Mo n_Mo 183 y_Mo_close c_Mo_close 1 none 0 := lkV 0 l_1159 l_1161 l_37 l_64 l_1162 (by decide +kernel)
theorem q_Mo_195 : LkV n_Mo n_Mo 195 y_Mo_carry c_Mo_carry 2 (some .int) 1 := lkV 1 l_1096 l_1098 l_24 l_64 l_1099 (by decide +kernel)
theorem q_Mo_198 : LkV n_Mo n_Mo 198 y_Mo_carryAll c_Mo_carryAll 4 none 2 := lkV 2 l_1092 l_1094 l_23 l_64 l_1095 (by decide +kernel)
theorem q_Mo_207 : LkV n_Mo n_Mo 207 y_Mo_wrongKept c_Mo_wrongKept 2 (some .int) 1 := lkV 1 l_1179 l_1181 l_38 l_64 l_1182 (by decide +kernel)
theorem q_Mo_212 : LkV n_Mo n_Mo 212 y_Mo_allLonging c_Mo_allLonging 3 (some .int) 0 := lkV 0 l_1204 l_1206 l_39 l_64 l_1207 (by decide +kernel)
theorem q_Mo_215 : LkV n_Mo n_Mo 215 y_Mo_ownRide c_Mo_ownRide 4 (some .int) 2 := lkV 2 l_1212 l_1214 l_40 l_64 l_1215 (by decide +kernel)
theorem q_Mo_224 : LkV n_Mo n_Mo 224 y_Mo_takeChain c_Mo_takeChain 3 none 2 := lkV 2 l_1224 l_1226 l_41 l_64 l_1227 (by decide +kernel)
theorem q_Mo_227 : LkV n_Mo n_Mo 227 y_Mo_thirdRides c_Mo_thirdRides 7 none 5 := lkV 5 l_1232 l_1234 l_43 l_64 l_1235 (by decide +kernel)
theorem q_Mo_231 : LkV n_Mo n_Mo 231 y_Mo_secondRides c_Mo_secondRides 9 none 4 := lkV 4 l_1228 l_1230 l_42 l_64 l_1231 (by decide +kernel)
theorem q_Mo_237 : LkS n_Mo 237 y_Mo_costOf c_Mo_costOf 2 (some .int) 2 := lkS 2 l_1290 l_1291 l_64 l_1292 (by decide +kernel)
theorem q_Mo_242 : LkV n_Mo n_Mo 242 y_Mo_feesOf c_Mo_feesOf 3 (some .int) 2 := lkV 2 l_1286 l_1288 l_44 l_64 l_1289 (by decide +kernel)
theorem q_Mo_251 : LkV n_Mo n_Mo 251 y_Mo_skipped c_Mo_skipped 2 (some .long) 1 := lkV 1 l_1301 l_1303 l_46 l_64 l_1304 (by decide +kernel)
theorem q_Mo_255 : LkV n_Mo n_Mo 255 y_Mo_isRow c_Mo_isRow 8 (some .boolean) 3 := lkV 3 l_1297 l_1299 l_45 l_64 l_1300 (by decide +kernel)
theorem q_Mo_259 : LkV n_Mo n_Mo 259 y_Mo_waitedRide c_Mo_waitedRide 5 (some .int) 3 := lkV 3 l_1316 l_1318 l_47 l_64 l_1319 (by decide +kernel)
theorem q_Mo_263 : LkV n_Mo n_Mo 263 y_Mo_hasBy c_Mo_hasBy 4 (some .int) 3 := lkV 3 l_1320 l_1322 l_48 l_64 l_1323 (by decide +kernel)
theorem q_Mo_266 : LkS n_Mo 266 y_Mo_divisor c_Mo_divisor 10 (some .long) 2 := lkS 2 l_1336 l_1337 l_64 l_1338 (by decide +kernel)
theorem q_Mo_274 : LkS n_Mo 274 y_Mo_hasBit c_Mo_hasBit 2 (some .boolean) 2 := lkS 2 l_1330 l_1331 l_64 l_1332 (by decide +kernel)
theorem q_Mo_278 : LkS n_Mo 278 y_Mo_partOf c_Mo_partOf 7 (some .long) 3 := lkS 3 l_1333 l_1334 l_64 l_1335 (by decide +kernel)
theorem q_Mo_288 : LkV n_Mo n_Mo 288 y_Mo_drawBelow c_Mo_drawBelow 2 (some .int) 1 := lkV 1 l_1355 l_1357 l_49 l_64 l_1358 (by decide +kernel)
theorem q_Mo_291 : LkV n_Mo n_Mo 291 y_Mo_atGoals c_Mo_atGoals 3 (some .int) 0 := lkV 0 l_1362 l_1364 l_50 l_64 l_1365 (by decide +kernel)
theorem q_Mo_296 : LkS n_Mo 296 y_Mo_narrowed c_Mo_narrowed 2 (some .long) 2 := lkS 2 l_1383 l_1384 l_64 l_1385 (by decide +kernel)
theorem q_Sh_29 : LkV n_Sh n_Sh 29 y_Sh_leastOfSort c_Sh_leastOfSort 1 (some .int) 0 := lkV 0 l_680 l_682 l_12 l_63 l_683 (by decide +kernel)
theorem q_Sh_34 : LkV n_Sh n_Sh 34 y_Sh_digit c_Sh_digit 2 (some .int) 1 := lkV 1 l_308 l_297 l_298 l_63 l_299 (by decide +kernel)
theorem q_St_38 : LkV n_St n_St 38 y_St_goal c_St_goal 2 (some .int) 1 := lkV 1 l_591 l_493 l_494 l_62 l_495 (by decide +kernel)
theorem q_St_52 : LkV n_St n_St 52 y_St_pine c_St_pine 3 none 1 := lkV 1 l_525 l_337 l_338 l_62 l_339 (by decide +kernel)
theorem q_St_56 : LkS n_St 56 y_In_compare c_In_compare 2 (some .int) 2 := lkS 2 l_410 l_411 l_66 l_412 (by decide +kernel)
theorem q_St_65 : LkV n_St n_St 65 y_St_move c_St_move 6 none 2 := lkV 2 l_524 l_407 l_408 l_62 l_409 (by decide +kernel)
theorem q_Tw_15 : LkP n_Tw 15 y_Ho_price c_Ho_price 2 (some .int) 1 := lkP 1 l_665 l_640 l_110 l_638 l_53 l_667 (by decide +kernel)
theorem q_Hb_115_0 : LkV n_Hb n_Ho 115 y_Ho_number c_Ho_number 1 (some .int) 0 := lkV 0 l_466 l_467 l_468 l_53 l_491 (by decide +kernel)
theorem q_Hb_115_1 : LkU n_Hb n_Co n_Ho 115 y_Ho_number y_Co_number c_Co_number 1 (some .int) 0 := lkO 0 l_466 l_469 l_467 l_473 l_474 l_54 l_475 l_491 (by decide +kernel)
theorem q_Hb_115_2 : LkU n_Hb n_Bl n_Ho 115 y_Ho_number y_Bl_number c_Bl_number 1 (some .int) 0 := lkO 0 l_466 l_469 l_467 l_470 l_471 l_55 l_472 l_491 (by decide +kernel)
theorem q_Hb_115_3 : LkU n_Hb n_Tw n_Ho 115 y_Ho_number y_Tw_number c_Tw_number 1 (some .int) 0 := lkO 0 l_466 l_469 l_467 l_488 l_489 l_56 l_490 l_491 (by decide +kernel)
theorem q_Hb_115_4 : LkU n_Hb n_Dr n_Ho 115 y_Ho_number y_Dr_number c_Dr_number 1 (some .int) 0 := lkO 0 l_466 l_469 l_467 l_476 l_477 l_57 l_478 l_491 (by decide +kernel)
theorem q_Hb_115_5 : LkU n_Hb n_Fo n_Ho 115 y_Ho_number y_Fo_number c_Fo_number 1 (some .int) 0 := lkO 0 l_466 l_469 l_467 l_479 l_480 l_58 l_481 l_491 (by decide +kernel)
theorem q_Hb_115_6 : LkU n_Hb n_Ma n_Ho 115 y_Ho_number y_Ma_number c_Ma_number 1 (some .int) 0 := lkO 0 l_466 l_469 l_467 l_485 l_486 l_59 l_487 l_491 (by decide +kernel)
theorem q_Hb_115_7 : LkU n_Hb n_Ge n_Ho 115 y_Ho_number y_Ge_number c_Ge_number 1 (some .int) 0 := lkO 0 l_466 l_469 l_467 l_482 l_483 l_60 l_484 l_491 (by decide +kernel)
theorem q_Hb_140_0 : LkV n_Hb n_Ho 140 y_Ho_walk c_Ho_walk 1 (some .int) 0 := lkV 0 l_500 l_441 l_442 l_53 l_457 (by decide +kernel)
theorem q_Hb_140_1 : LkU n_Hb n_Co n_Ho 140 y_Ho_walk y_Co_walk c_Co_walk 1 (some .int) 0 := lkO 0 l_500 l_443 l_441 l_445 l_446 l_54 l_447 l_457 (by decide +kernel)
theorem q_Hb_140_2 : LkU n_Hb n_Bl n_Ho 140 y_Ho_walk y_Ho_walk c_Ho_walk 1 (some .int) 0 := lkU 0 l_500 l_443 l_444 l_441 l_53 l_457 rfl (by decide +kernel)
theorem q_Hb_140_3 : LkU n_Hb n_Tw n_Ho 140 y_Ho_walk y_Ho_walk c_Ho_walk 1 (some .int) 0 := lkU 0 l_500 l_443 l_456 l_441 l_53 l_457 rfl (by decide +kernel)
theorem q_Hb_140_4 : LkU n_Hb n_Dr n_Ho 140 y_Ho_walk y_Ho_walk c_Ho_walk 1 (some .int) 0 := lkU 0 l_500 l_443 l_448 l_441 l_53 l_457 rfl (by decide +kernel)
theorem q_Hb_140_5 : LkU n_Hb n_Fo n_Ho 140 y_Ho_walk y_Ho_walk c_Ho_walk 1 (some .int) 0 := lkU 0 l_500 l_443 l_449 l_441 l_53 l_457 rfl (by decide +kernel)
theorem q_Hb_140_6 : LkU n_Hb n_Ma n_Ho 140 y_Ho_walk y_Ma_walk c_Ma_walk 1 (some .int) 0 := lkO 0 l_500 l_443 l_441 l_453 l_454 l_59 l_455 l_457 (by decide +kernel)
theorem q_Hb_140_7 : LkU n_Hb n_Ge n_Ho 140 y_Ho_walk y_Ge_walk c_Ge_walk 1 (some .int) 0 := lkO 0 l_500 l_443 l_441 l_450 l_451 l_60 l_452 l_457 (by decide +kernel)
theorem q_Hb_291_0 : LkV n_Hb n_Ho 291 y_Ho_price c_Ho_price 2 (some .int) 1 := lkV 1 l_637 l_638 l_639 l_53 l_667 (by decide +kernel)
theorem q_Hb_291_1 : LkU n_Hb n_Co n_Ho 291 y_Ho_price y_Co_price c_Co_price 2 (some .int) 1 := lkO 1 l_637 l_640 l_638 l_645 l_646 l_54 l_647 l_667 (by decide +kernel)
theorem q_Hb_291_2 : LkU n_Hb n_Bl n_Ho 291 y_Ho_price y_Bl_price c_Bl_price 2 (some .int) 1 := lkO 1 l_637 l_640 l_638 l_641 l_642 l_55 l_643 l_667 (by decide +kernel)
theorem q_Hb_291_3 : LkU n_Hb n_Tw n_Ho 291 y_Ho_price y_Tw_price c_Tw_price 2 (some .int) 1 := lkO 1 l_637 l_640 l_638 l_666 l_663 l_56 l_664 l_667 (by decide +kernel)
theorem q_Hb_291_4 : LkU n_Hb n_Dr n_Ho 291 y_Ho_price y_Dr_price c_Dr_price 2 (some .int) 1 := lkO 1 l_637 l_640 l_638 l_648 l_649 l_57 l_650 l_667 (by decide +kernel)
theorem q_Hb_291_5 : LkU n_Hb n_Fo n_Ho 291 y_Ho_price y_Fo_price c_Fo_price 2 (some .int) 1 := lkO 1 l_637 l_640 l_638 l_651 l_652 l_58 l_653 l_667 (by decide +kernel)
theorem q_Hb_291_6 : LkU n_Hb n_Ma n_Ho 291 y_Ho_price y_Ma_price c_Ma_price 2 (some .int) 1 := lkO 1 l_637 l_640 l_638 l_659 l_660 l_59 l_661 l_667 (by decide +kernel)
theorem q_Hb_291_7 : LkU n_Hb n_Ge n_Ho 291 y_Ho_price y_Ge_price c_Ge_price 2 (some .int) 1 := lkO 1 l_637 l_640 l_638 l_655 l_656 l_60 l_657 l_667 (by decide +kernel)
theorem q_St_28_0 : LkV n_St n_Ho 28 y_Ho_goal c_Ho_goal 4 (some .int) 3 := lkV 3 l_340 l_341 l_342 l_53 l_365 (by decide +kernel)
theorem q_St_28_1 : LkU n_St n_Co n_Ho 28 y_Ho_goal y_Co_goal c_Co_goal 4 (some .int) 3 := lkO 3 l_340 l_343 l_341 l_347 l_348 l_54 l_349 l_365 (by decide +kernel)
theorem q_St_28_2 : LkU n_St n_Bl n_Ho 28 y_Ho_goal y_Bl_goal c_Bl_goal 4 (some .int) 3 := lkO 3 l_340 l_343 l_341 l_344 l_345 l_55 l_346 l_365 (by decide +kernel)
theorem q_St_28_3 : LkU n_St n_Tw n_Ho 28 y_Ho_goal y_Tw_goal c_Tw_goal 5 (some .int) 3 := lkO 3 l_340 l_343 l_341 l_361 l_362 l_56 l_363 l_365 (by decide +kernel)
theorem q_St_28_4 : LkU n_St n_Dr n_Ho 28 y_Ho_goal y_Ho_goal c_Ho_goal 4 (some .int) 3 := lkU 3 l_340 l_343 l_350 l_341 l_53 l_365 rfl (by decide +kernel)
theorem q_St_28_5 : LkU n_St n_Fo n_Ho 28 y_Ho_goal y_Fo_goal c_Fo_goal 4 (some .int) 3 := lkO 3 l_340 l_343 l_341 l_351 l_352 l_58 l_353 l_365 (by decide +kernel)
theorem q_St_28_6 : LkU n_St n_Ma n_Ho 28 y_Ho_goal y_Ma_goal c_Ma_goal 5 (some .int) 3 := lkO 3 l_340 l_343 l_341 l_355 l_356 l_59 l_357 l_365 (by decide +kernel)
theorem q_St_28_7 : LkU n_St n_Ge n_Ho 28 y_Ho_goal y_Co_goal c_Co_goal 4 (some .int) 3 := lkO 3 l_340 l_343 l_341 l_354 l_348 l_54 l_349 l_365 (by decide +kernel)
theorem q_St_34_0 : LkV n_St n_Ho 34 y_Ho_pace c_Ho_pace 3 (some .int) 2 := lkV 2 l_413 l_414 l_415 l_53 l_439 (by decide +kernel)
theorem q_St_34_1 : LkU n_St n_Co n_Ho 34 y_Ho_pace y_Co_pace c_Co_pace 3 (some .int) 2 := lkO 2 l_413 l_416 l_414 l_420 l_421 l_54 l_422 l_439 (by decide +kernel)
theorem q_St_34_2 : LkU n_St n_Bl n_Ho 34 y_Ho_pace y_Bl_pace c_Bl_pace 3 (some .int) 2 := lkO 2 l_413 l_416 l_414 l_417 l_418 l_55 l_419 l_439 (by decide +kernel)
theorem q_St_34_3 : LkU n_St n_Tw n_Ho 34 y_Ho_pace y_Ho_pace c_Ho_pace 3 (some .int) 2 := lkU 2 l_413 l_416 l_438 l_414 l_53 l_439 rfl (by decide +kernel)
theorem q_St_34_4 : LkU n_St n_Dr n_Ho 34 y_Ho_pace y_Ho_pace c_Ho_pace 3 (some .int) 2 := lkU 2 l_413 l_416 l_423 l_414 l_53 l_439 rfl (by decide +kernel)
theorem q_St_34_5 : LkU n_St n_Fo n_Ho 34 y_Ho_pace y_Fo_pace c_Fo_pace 3 (some .int) 2 := lkO 2 l_413 l_416 l_414 l_424 l_425 l_58 l_426 l_439 (by decide +kernel)
theorem q_St_34_6 : LkU n_St n_Ma n_Ho 34 y_Ho_pace y_Ma_pace c_Ma_pace 3 (some .int) 2 := lkO 2 l_413 l_416 l_414 l_432 l_433 l_59 l_434 l_439 (by decide +kernel)
theorem q_St_34_7 : LkU n_St n_Ge n_Ho 34 y_Ho_pace y_Ge_pace c_Ge_pace 3 (some .int) 2 := lkO 2 l_413 l_416 l_414 l_428 l_429 l_60 l_430 l_439 (by decide +kernel)
theorem q_St_46_0 : LkV n_St n_Ho 46 y_Ho_pines c_Ho_pines 3 (some .int) 2 := lkV 2 l_367 l_368 l_369 l_53 l_394 (by decide +kernel)
theorem q_St_46_1 : LkU n_St n_Co n_Ho 46 y_Ho_pines y_Co_pines c_Co_pines 3 (some .int) 2 := lkO 2 l_367 l_370 l_368 l_375 l_376 l_54 l_377 l_394 (by decide +kernel)
theorem q_St_46_2 : LkU n_St n_Bl n_Ho 46 y_Ho_pines y_Bl_pines c_Bl_pines 3 (some .int) 2 := lkO 2 l_367 l_370 l_368 l_371 l_372 l_55 l_373 l_394 (by decide +kernel)
theorem q_St_46_3 : LkU n_St n_Tw n_Ho 46 y_Ho_pines y_Ho_pines c_Ho_pines 3 (some .int) 2 := lkU 2 l_367 l_370 l_393 l_368 l_53 l_394 rfl (by decide +kernel)
theorem q_St_46_4 : LkU n_St n_Dr n_Ho 46 y_Ho_pines y_Dr_pines c_Dr_pines 3 (some .int) 2 := lkO 2 l_367 l_370 l_368 l_378 l_379 l_57 l_380 l_394 (by decide +kernel)
theorem q_St_46_5 : LkU n_St n_Fo n_Ho 46 y_Ho_pines y_Fo_pines c_Fo_pines 3 (some .int) 2 := lkO 2 l_367 l_370 l_368 l_382 l_383 l_58 l_384 l_394 (by decide +kernel)
theorem q_St_46_6 : LkU n_St n_Ma n_Ho 46 y_Ho_pines y_Ma_pines c_Ma_pines 3 (some .int) 2 := lkO 2 l_367 l_370 l_368 l_387 l_388 l_59 l_389 l_394 (by decide +kernel)
theorem q_St_46_7 : LkU n_St n_Ge n_Ho 46 y_Ho_pines y_Co_pines c_Co_pines 3 (some .int) 2 := lkO 2 l_367 l_370 l_368 l_386 l_376 l_54 l_377 l_394 (by decide +kernel)
theorem q_St_61_0 : LkV n_St n_Ho 61 y_Ho_walk c_Ho_walk 1 (some .int) 0 := lkV 0 l_440 l_441 l_442 l_53 l_457 (by decide +kernel)
theorem q_St_61_1 : LkU n_St n_Co n_Ho 61 y_Ho_walk y_Co_walk c_Co_walk 1 (some .int) 0 := lkO 0 l_440 l_443 l_441 l_445 l_446 l_54 l_447 l_457 (by decide +kernel)
theorem q_St_61_2 : LkU n_St n_Bl n_Ho 61 y_Ho_walk y_Ho_walk c_Ho_walk 1 (some .int) 0 := lkU 0 l_440 l_443 l_444 l_441 l_53 l_457 rfl (by decide +kernel)
theorem q_St_61_3 : LkU n_St n_Tw n_Ho 61 y_Ho_walk y_Ho_walk c_Ho_walk 1 (some .int) 0 := lkU 0 l_440 l_443 l_456 l_441 l_53 l_457 rfl (by decide +kernel)
theorem q_St_61_4 : LkU n_St n_Dr n_Ho 61 y_Ho_walk y_Ho_walk c_Ho_walk 1 (some .int) 0 := lkU 0 l_440 l_443 l_448 l_441 l_53 l_457 rfl (by decide +kernel)
theorem q_St_61_5 : LkU n_St n_Fo n_Ho 61 y_Ho_walk y_Ho_walk c_Ho_walk 1 (some .int) 0 := lkU 0 l_440 l_443 l_449 l_441 l_53 l_457 rfl (by decide +kernel)
theorem q_St_61_6 : LkU n_St n_Ma n_Ho 61 y_Ho_walk y_Ma_walk c_Ma_walk 1 (some .int) 0 := lkO 0 l_440 l_443 l_441 l_453 l_454 l_59 l_455 l_457 (by decide +kernel)
theorem q_St_61_7 : LkU n_St n_Ge n_Ho 61 y_Ho_walk y_Ge_walk c_Ge_walk 1 (some .int) 0 := lkO 0 l_440 l_443 l_441 l_450 l_451 l_60 l_452 l_457 (by decide +kernel)
theorem kg_Hb_31 {g : GC} {X : MX} {cc : ByteArray} {nL lvl pc : Nat} {loc : List (Nat × Value)} {rest : List Value} {x : XD} {z : ZD} (C : Cx g X cc nL n_Hb lvl) (hd : decode cc pc = .ok (.getfield 31, 3)) (h : Wk g X nL (pc + 3) loc (.ref (g_a g 1) :: rest) (x, z)) : Wk g X nL pc loc (.ref (g_a g 0) :: rest) (x, z) := k_get C (k := 0) l_234 rfl in_Hb rfl (by decide) (by decide) sh_Hb rfl hd h
theorem kg_Hb_42 {g : GC} {X : MX} {cc : ByteArray} {nL lvl pc : Nat} {loc : List (Nat × Value)} {rest : List Value} {x : XD} {z : ZD} (C : Cx g X cc nL n_Hb lvl) (hd : decode cc pc = .ok (.getfield 42, 3)) (h : Wk g X nL (pc + 3) loc (.ref (g_a g 10) :: rest) (x, z)) : Wk g X nL pc loc (.ref (g_a g 0) :: rest) (x, z) := k_get C (k := 1) l_235 rfl in_Hb rfl (by decide) (by decide) sh_Hb rfl hd h
theorem kg_Hb_46 {g : GC} {X : MX} {cc : ByteArray} {nL lvl pc : Nat} {loc : List (Nat × Value)} {rest : List Value} {x : XD} {z : ZD} (C : Cx g X cc nL n_Hb lvl) (hd : decode cc pc = .ok (.getfield 46, 3)) (h : Wk g X nL (pc + 3) loc (.ref (g_a g 11) :: rest) (x, z)) : Wk g X nL pc loc (.ref (g_a g 0) :: rest) (x, z) := k_get C (k := 2) l_236 rfl in_Hb rfl (by decide) (by decide) sh_Hb rfl hd h
theorem kg_Hb_49 {g : GC} {X : MX} {cc : ByteArray} {nL lvl pc : Nat} {loc : List (Nat × Value)} {rest : List Value} {x : XD} {z : ZD} (C : Cx g X cc nL n_Hb lvl) (hd : decode cc pc = .ok (.getfield 49, 3)) (h : Wk g X nL (pc + 3) loc (.ref (g_a g 65) :: rest) (x, z)) : Wk g X nL pc loc (.ref (g_a g 0) :: rest) (x, z) := k_get C (k := 3) l_237 rfl in_Hb rfl (by decide) (by decide) sh_Hb rfl hd h
theorem kg_Hb_58 {g : GC} {X : MX} {cc : ByteArray} {nL lvl pc : Nat} {loc : List (Nat × Value)} {rest : List Value} {x : XD} {z : ZD} (C : Cx g X cc nL n_Hb lvl) (hd : decode cc pc = .ok (.getfield 58, 3)) (h : Wk g X nL (pc + 3) loc (.ref (g_a g 64) :: rest) (x, z)) : Wk g X nL pc loc (.ref (g_a g 0) :: rest) (x, z) := k_get C (k := 4) l_238 rfl in_Hb rfl (by decide) (by decide) sh_Hb rfl hd h
theorem kg_Hb_64 {g : GC} {X : MX} {cc : ByteArray} {nL lvl pc : Nat} {loc : List (Nat × Value)} {rest : List Value} {x : XD} {z : ZD} (C : Cx g X cc nL n_Hb lvl) (hd : decode cc pc = .ok (.getfield 64, 3)) (h : Wk g X nL (pc + 3) loc (.ref (g_a g 66) :: rest) (x, z)) : Wk g X nL pc loc (.ref (g_a g 0) :: rest) (x, z) := k_get C (k := 5) l_239 rfl in_Hb rfl (by decide) (by decide) sh_Hb rfl hd h
theorem kg_Hb_69 {g : GC} {X : MX} {cc : ByteArray} {nL lvl pc : Nat} {loc : List (Nat × Value)} {rest : List Value} {x : XD} {z : ZD} (C : Cx g X cc nL n_Hb lvl) (hd : decode cc pc = .ok (.getfield 69, 3)) (h : Wk g X nL (pc + 3) loc (.int (x 0 6) :: rest) (x, z)) : Wk g X nL pc loc (.ref (g_a g 0) :: rest) (x, z) := k_get C (k := 6) l_240 rfl in_Hb rfl (by decide) (by decide) sh_Hb rfl hd h
theorem kp_Hb_69 {g : GC} {X : MX} {cc : ByteArray} {nL lvl pc : Nat} {loc : List (Nat × Value)} {rest : List Value} {x : XD} {z : ZD} {v : Int32} {x1 : XD} (C : Cx g X cc nL n_Hb lvl) (hz : v = 0 ∨ v = 1) (e : x1 = x_up x 0 6 v) (hd : decode cc pc = .ok (.putfield 69, 3)) (h : Wk g X nL (pc + 3) loc rest (x1, z)) : Wk g X nL pc loc (.int v :: .ref (g_a g 0) :: rest) (x, z) := by
  subst e
  exact k_put C (k := 6) (ty := .boolean) l_240 rfl in_Hb (ft T_Hb) tk_Hb nm_Hb rfl (by decide) rfl rfl (by rcases hz with rfl | rfl <;> rfl) (by rcases hz with rfl | rfl <;> rfl) (Nat.le_of_ble_eq_true rfl) (by decide) sh_Hb (by rw [sh_Hb]; simp [x_up]) oth_x hd h
theorem kg_Hb_77 {g : GC} {X : MX} {cc : ByteArray} {nL lvl pc : Nat} {loc : List (Nat × Value)} {rest : List Value} {x : XD} {z : ZD} {o : Nat} (C : Cx g X cc nL n_Hb lvl) (ho : 67 ≤ o ∧ o < 75) (hd : decode cc pc = .ok (.getfield 77, 3)) (h : Wk g X nL (pc + 3) loc (.int (x o 3) :: rest) (x, z)) : Wk g X nL pc loc (.ref (g_a g o) :: rest) (x, z) := k_getN C (k := 3) l_214 rfl in_Sh rfl (by decide) (lt105 ho rfl) (sh_Sh ho) rfl hd h
theorem kg_Hb_89 {g : GC} {X : MX} {cc : ByteArray} {nL lvl pc : Nat} {loc : List (Nat × Value)} {rest : List Value} {x : XD} {z : ZD} {o : Nat} (C : Cx g X cc nL n_Hb lvl) (ho : 67 ≤ o ∧ o < 75) (hd : decode cc pc = .ok (.getfield 89, 3)) (h : Wk g X nL (pc + 3) loc (.int (x o 4) :: rest) (x, z)) : Wk g X nL pc loc (.ref (g_a g o) :: rest) (x, z) := k_getN C (k := 4) l_216 rfl in_Sh rfl (by decide) (lt105 ho rfl) (sh_Sh ho) rfl hd h
theorem kg_Hb_96 {g : GC} {X : MX} {cc : ByteArray} {nL lvl pc : Nat} {loc : List (Nat × Value)} {rest : List Value} {x : XD} {z : ZD} {o : Nat} (C : Cx g X cc nL n_Hb lvl) (ho : 67 ≤ o ∧ o < 75) (hd : decode cc pc = .ok (.getfield 96, 3)) (h : Wk g X nL (pc + 3) loc (.ref (g_a g (o + 8)) :: rest) (x, z)) : Wk g X nL pc loc (.ref (g_a g o) :: rest) (x, z) := k_getN C (k := 5) l_218 rfl in_Sh rfl (by decide) (lt105 ho rfl) (sh_Sh ho) rfl hd h
theorem kg_Hb_107 {g : GC} {X : MX} {cc : ByteArray} {nL lvl pc : Nat} {loc : List (Nat × Value)} {rest : List Value} {x : XD} {z : ZD} {o : Nat} (C : Cx g X cc nL n_Hb lvl) (ho : 10 ≤ o ∧ o < 16) (hd : decode cc pc = .ok (.getfield 107, 3)) (h : Wk g X nL (pc + 3) loc (.ref (g_a g (o + 6)) :: rest) (x, z)) : Wk g X nL pc loc (.ref (g_a g o) :: rest) (x, z) := k_getN C (k := 1) l_180 rfl in_La rfl (by decide) (lt105 ho rfl) (sh_La ho) rfl hd h
theorem kg_Hb_111 {g : GC} {X : MX} {cc : ByteArray} {nL lvl pc : Nat} {loc : List (Nat × Value)} {rest : List Value} {x : XD} {z : ZD} {o : Nat} (C : Cx g X cc nL n_Hb lvl) (ho : 22 ≤ o ∧ o < 65) (hd : decode cc pc = .ok (.getfield 111, 3)) (h : Wk g X nL (pc + 3) loc (.ref (g_a g (2 + (x o 0).toNatClampNeg)) :: rest) (x, z)) : Wk g X nL pc loc (.ref (g_a g o) :: rest) (x, z) := k_getN C (k := 0) l_154 rfl in_St rfl (by decide) (lt105 ho rfl) (sh_St ho) rfl hd h
theorem kp_Hb_111 {g : GC} {X : MX} {cc : ByteArray} {nL lvl pc : Nat} {loc : List (Nat × Value)} {rest : List Value} {x : XD} {z : ZD} {o : Nat} {v : Int32} {x1 : XD} (C : Cx g X cc nL n_Hb lvl) (ho : 22 ≤ o ∧ o < 65) (e : x1 = x_up x o 0 v) (hd : decode cc pc = .ok (.putfield 111, 3)) (h : Wk g X nL (pc + 3) loc rest (x1, z)) : Wk g X nL pc loc (.ref (g_a g (2 + v.toNatClampNeg)) :: .ref (g_a g o) :: rest) (x, z) := by
  subst e
  exact k_putN C (k := 0) (ty := .object n_Ho) l_154 rfl in_St (ft T_St) tk_St nm_St rfl (by decide) rfl rfl rfl rfl (Nat.le_of_ble_eq_true rfl) (lt105 ho rfl) (sh_St ho) (by rw [sh_St ho]; simp [x_up]) oth_x hd h
theorem kg_Hb_119 {g : GC} {X : MX} {cc : ByteArray} {nL lvl pc : Nat} {loc : List (Nat × Value)} {rest : List Value} {x : XD} {z : ZD} {o : Nat} (C : Cx g X cc nL n_Hb lvl) (ho : 22 ≤ o ∧ o < 65) (hd : decode cc pc = .ok (.getfield 119, 3)) (h : Wk g X nL (pc + 3) loc (.int (x o 1) :: rest) (x, z)) : Wk g X nL pc loc (.ref (g_a g o) :: rest) (x, z) := k_getN C (k := 1) l_157 rfl in_St rfl (by decide) (lt105 ho rfl) (sh_St ho) rfl hd h
theorem kp_Hb_119 {g : GC} {X : MX} {cc : ByteArray} {nL lvl pc : Nat} {loc : List (Nat × Value)} {rest : List Value} {x : XD} {z : ZD} {o : Nat} {v : Int32} {x1 : XD} (C : Cx g X cc nL n_Hb lvl) (ho : 22 ≤ o ∧ o < 65) (e : x1 = x_up x o 1 v) (hd : decode cc pc = .ok (.putfield 119, 3)) (h : Wk g X nL (pc + 3) loc rest (x1, z)) : Wk g X nL pc loc (.int v :: .ref (g_a g o) :: rest) (x, z) := by
  subst e
  exact k_putN C (k := 1) (ty := .int) l_157 rfl in_St (ft T_St) tk_St nm_St rfl (by decide) rfl rfl rfl rfl (Nat.le_of_ble_eq_true rfl) (lt105 ho rfl) (sh_St ho) (by rw [sh_St ho]; simp [x_up]) oth_x hd h
theorem kg_Hb_122 {g : GC} {X : MX} {cc : ByteArray} {nL lvl pc : Nat} {loc : List (Nat × Value)} {rest : List Value} {x : XD} {z : ZD} {o : Nat} (C : Cx g X cc nL n_Hb lvl) (ho : 22 ≤ o ∧ o < 65) (hd : decode cc pc = .ok (.getfield 122, 3)) (h : Wk g X nL (pc + 3) loc (.int (x o 2) :: rest) (x, z)) : Wk g X nL pc loc (.ref (g_a g o) :: rest) (x, z) := k_getN C (k := 2) l_160 rfl in_St rfl (by decide) (lt105 ho rfl) (sh_St ho) rfl hd h
theorem kp_Hb_122 {g : GC} {X : MX} {cc : ByteArray} {nL lvl pc : Nat} {loc : List (Nat × Value)} {rest : List Value} {x : XD} {z : ZD} {o : Nat} {v : Int32} {x1 : XD} (C : Cx g X cc nL n_Hb lvl) (ho : 22 ≤ o ∧ o < 65) (e : x1 = x_up x o 2 v) (hd : decode cc pc = .ok (.putfield 122, 3)) (h : Wk g X nL (pc + 3) loc rest (x1, z)) : Wk g X nL pc loc (.int v :: .ref (g_a g o) :: rest) (x, z) := by
  subst e
  exact k_putN C (k := 2) (ty := .int) l_160 rfl in_St (ft T_St) tk_St nm_St rfl (by decide) rfl rfl rfl rfl (Nat.le_of_ble_eq_true rfl) (lt105 ho rfl) (sh_St ho) (by rw [sh_St ho]; simp [x_up]) oth_x hd h
theorem kg_Hb_125 {g : GC} {X : MX} {cc : ByteArray} {nL lvl pc : Nat} {loc : List (Nat × Value)} {rest : List Value} {x : XD} {z : ZD} {o : Nat} (C : Cx g X cc nL n_Hb lvl) (ho : 22 ≤ o ∧ o < 65) (hd : decode cc pc = .ok (.getfield 125, 3)) (h : Wk g X nL (pc + 3) loc (.int (x o 3) :: rest) (x, z)) : Wk g X nL pc loc (.ref (g_a g o) :: rest) (x, z) := k_getN C (k := 3) l_163 rfl in_St rfl (by decide) (lt105 ho rfl) (sh_St ho) rfl hd h
theorem kp_Hb_125 {g : GC} {X : MX} {cc : ByteArray} {nL lvl pc : Nat} {loc : List (Nat × Value)} {rest : List Value} {x : XD} {z : ZD} {o : Nat} {v : Int32} {x1 : XD} (C : Cx g X cc nL n_Hb lvl) (ho : 22 ≤ o ∧ o < 65) (e : x1 = x_up x o 3 v) (hd : decode cc pc = .ok (.putfield 125, 3)) (h : Wk g X nL (pc + 3) loc rest (x1, z)) : Wk g X nL pc loc (.int v :: .ref (g_a g o) :: rest) (x, z) := by
  subst e
  exact k_putN C (k := 3) (ty := .int) l_163 rfl in_St (ft T_St) tk_St nm_St rfl (by decide) rfl rfl rfl rfl (Nat.le_of_ble_eq_true rfl) (lt105 ho rfl) (sh_St ho) (by rw [sh_St ho]; simp [x_up]) oth_x hd h
theorem kg_Hb_128 {g : GC} {X : MX} {cc : ByteArray} {nL lvl pc : Nat} {loc : List (Nat × Value)} {rest : List Value} {x : XD} {z : ZD} {o : Nat} (C : Cx g X cc nL n_Hb lvl) (ho : 22 ≤ o ∧ o < 65) (hd : decode cc pc = .ok (.getfield 128, 3)) (h : Wk g X nL (pc + 3) loc (.int (x o 4) :: rest) (x, z)) : Wk g X nL pc loc (.ref (g_a g o) :: rest) (x, z) := k_getN C (k := 4) l_166 rfl in_St rfl (by decide) (lt105 ho rfl) (sh_St ho) rfl hd h
theorem kp_Hb_128 {g : GC} {X : MX} {cc : ByteArray} {nL lvl pc : Nat} {loc : List (Nat × Value)} {rest : List Value} {x : XD} {z : ZD} {o : Nat} {v : Int32} {x1 : XD} (C : Cx g X cc nL n_Hb lvl) (ho : 22 ≤ o ∧ o < 65) (e : x1 = x_up x o 4 v) (hd : decode cc pc = .ok (.putfield 128, 3)) (h : Wk g X nL (pc + 3) loc rest (x1, z)) : Wk g X nL pc loc (.int v :: .ref (g_a g o) :: rest) (x, z) := by
  subst e
  exact k_putN C (k := 4) (ty := .int) l_166 rfl in_St (ft T_St) tk_St nm_St rfl (by decide) rfl rfl rfl rfl (Nat.le_of_ble_eq_true rfl) (lt105 ho rfl) (sh_St ho) (by rw [sh_St ho]; simp [x_up]) oth_x hd h
theorem kg_Hb_131 {g : GC} {X : MX} {cc : ByteArray} {nL lvl pc : Nat} {loc : List (Nat × Value)} {rest : List Value} {x : XD} {z : ZD} {o : Nat} (C : Cx g X cc nL n_Hb lvl) (ho : 10 ≤ o ∧ o < 16) (hd : decode cc pc = .ok (.getfield 131, 3)) (h : Wk g X nL (pc + 3) loc (.int (x o 3) :: rest) (x, z)) : Wk g X nL pc loc (.ref (g_a g o) :: rest) (x, z) := k_getN C (k := 3) l_184 rfl in_La rfl (by decide) (lt105 ho rfl) (sh_La ho) rfl hd h
theorem kp_Hb_131 {g : GC} {X : MX} {cc : ByteArray} {nL lvl pc : Nat} {loc : List (Nat × Value)} {rest : List Value} {x : XD} {z : ZD} {o : Nat} {v : Int32} {x1 : XD} (C : Cx g X cc nL n_Hb lvl) (ho : 10 ≤ o ∧ o < 16) (e : x1 = x_up x o 3 v) (hd : decode cc pc = .ok (.putfield 131, 3)) (h : Wk g X nL (pc + 3) loc rest (x1, z)) : Wk g X nL pc loc (.int v :: .ref (g_a g o) :: rest) (x, z) := by
  subst e
  exact k_putN C (k := 3) (ty := .int) l_184 rfl in_La (ft T_La) tk_La nm_La rfl (by decide) rfl rfl rfl rfl (Nat.le_of_ble_eq_true rfl) (lt105 ho rfl) (sh_La ho) (by rw [sh_La ho]; simp [x_up]) oth_x hd h
theorem kg_Hb_149 {g : GC} {X : MX} {cc : ByteArray} {nL lvl pc : Nat} {loc : List (Nat × Value)} {rest : List Value} {x : XD} {z : ZD} {o : Nat} (C : Cx g X cc nL n_Hb lvl) (ho : 10 ≤ o ∧ o < 16) (hd : decode cc pc = .ok (.getfield 149, 3)) (h : Wk g X nL (pc + 3) loc (.int (x o 2) :: rest) (x, z)) : Wk g X nL pc loc (.ref (g_a g o) :: rest) (x, z) := k_getN C (k := 2) l_182 rfl in_La rfl (by decide) (lt105 ho rfl) (sh_La ho) rfl hd h
theorem kg_Hb_152 {g : GC} {X : MX} {cc : ByteArray} {nL lvl pc : Nat} {loc : List (Nat × Value)} {rest : List Value} {x : XD} {z : ZD} {o : Nat} (C : Cx g X cc nL n_Hb lvl) (ho : 67 ≤ o ∧ o < 75) (hd : decode cc pc = .ok (.getfield 152, 3)) (h : Wk g X nL (pc + 3) loc (.ref (g_a g (2 + (x o 1).toNatClampNeg)) :: rest) (x, z)) : Wk g X nL pc loc (.ref (g_a g o) :: rest) (x, z) := k_getN C (k := 1) l_211 rfl in_Sh rfl (by decide) (lt105 ho rfl) (sh_Sh ho) rfl hd h
theorem kp_Hb_152 {g : GC} {X : MX} {cc : ByteArray} {nL lvl pc : Nat} {loc : List (Nat × Value)} {rest : List Value} {x : XD} {z : ZD} {o : Nat} {v : Int32} {x1 : XD} (C : Cx g X cc nL n_Hb lvl) (ho : 67 ≤ o ∧ o < 75) (e : x1 = x_up x o 1 v) (hd : decode cc pc = .ok (.putfield 152, 3)) (h : Wk g X nL (pc + 3) loc rest (x1, z)) : Wk g X nL pc loc (.ref (g_a g (2 + v.toNatClampNeg)) :: .ref (g_a g o) :: rest) (x, z) := by
  subst e
  exact k_putN C (k := 1) (ty := .object n_Ho) l_211 rfl in_Sh (ft T_Sh) tk_Sh nm_Sh rfl (by decide) rfl rfl rfl rfl (Nat.le_of_ble_eq_true rfl) (lt105 ho rfl) (sh_Sh ho) (by rw [sh_Sh ho]; simp [x_up]) oth_x hd h
theorem kg_Hb_153 {g : GC} {X : MX} {cc : ByteArray} {nL lvl pc : Nat} {loc : List (Nat × Value)} {rest : List Value} {x : XD} {z : ZD} {o : Nat} (C : Cx g X cc nL n_Hb lvl) (ho : 67 ≤ o ∧ o < 75) (hd : decode cc pc = .ok (.getfield 153, 3)) (h : Wk g X nL (pc + 3) loc (.int (x o 2) :: rest) (x, z)) : Wk g X nL pc loc (.ref (g_a g o) :: rest) (x, z) := k_getN C (k := 2) l_212 rfl in_Sh rfl (by decide) (lt105 ho rfl) (sh_Sh ho) rfl hd h
theorem kp_Hb_153 {g : GC} {X : MX} {cc : ByteArray} {nL lvl pc : Nat} {loc : List (Nat × Value)} {rest : List Value} {x : XD} {z : ZD} {o : Nat} {v : Int32} {x1 : XD} (C : Cx g X cc nL n_Hb lvl) (ho : 67 ≤ o ∧ o < 75) (e : x1 = x_up x o 2 v) (hd : decode cc pc = .ok (.putfield 153, 3)) (h : Wk g X nL (pc + 3) loc rest (x1, z)) : Wk g X nL pc loc (.int v :: .ref (g_a g o) :: rest) (x, z) := by
  subst e
  exact k_putN C (k := 2) (ty := .int) l_212 rfl in_Sh (ft T_Sh) tk_Sh nm_Sh rfl (by decide) rfl rfl rfl rfl (Nat.le_of_ble_eq_true rfl) (lt105 ho rfl) (sh_Sh ho) (by rw [sh_Sh ho]; simp [x_up]) oth_x hd h
theorem kg_Hb_249 {g : GC} {X : MX} {cc : ByteArray} {nL lvl pc : Nat} {loc : List (Nat × Value)} {rest : List Value} {x : XD} {z : ZD} {o : Nat} (C : Cx g X cc nL n_Hb lvl) (ho : 10 ≤ o ∧ o < 16) (hd : decode cc pc = .ok (.getfield 249, 3)) (h : Wk g X nL (pc + 3) loc (.int (x o 4) :: rest) (x, z)) : Wk g X nL pc loc (.ref (g_a g o) :: rest) (x, z) := k_getN C (k := 4) l_186 rfl in_La rfl (by decide) (lt105 ho rfl) (sh_La ho) rfl hd h
theorem kg_Hb_258 {g : GC} {X : MX} {cc : ByteArray} {nL lvl pc : Nat} {loc : List (Nat × Value)} {rest : List Value} {x : XD} {z : ZD} {o : Nat} (C : Cx g X cc nL n_Hb lvl) (ho : 67 ≤ o ∧ o < 75) (hd : decode cc pc = .ok (.getfield 258, 3)) (h : Wk g X nL (pc + 3) loc (.int (x o 0) :: rest) (x, z)) : Wk g X nL pc loc (.ref (g_a g o) :: rest) (x, z) := k_getN C (k := 0) l_209 rfl in_Sh rfl (by decide) (lt105 ho rfl) (sh_Sh ho) rfl hd h
theorem kp_Hb_258 {g : GC} {X : MX} {cc : ByteArray} {nL lvl pc : Nat} {loc : List (Nat × Value)} {rest : List Value} {x : XD} {z : ZD} {o : Nat} {v : Int32} {x1 : XD} (C : Cx g X cc nL n_Hb lvl) (ho : 67 ≤ o ∧ o < 75) (e : x1 = x_up x o 0 v) (hd : decode cc pc = .ok (.putfield 258, 3)) (h : Wk g X nL (pc + 3) loc rest (x1, z)) : Wk g X nL pc loc (.int v :: .ref (g_a g o) :: rest) (x, z) := by
  subst e
  exact k_putN C (k := 0) (ty := .int) l_209 rfl in_Sh (ft T_Sh) tk_Sh nm_Sh rfl (by decide) rfl rfl rfl rfl (Nat.le_of_ble_eq_true rfl) (lt105 ho rfl) (sh_Sh ho) (by rw [sh_Sh ho]; simp [x_up]) oth_x hd h
theorem kg_La_9 {g : GC} {X : MX} {cc : ByteArray} {nL lvl pc : Nat} {loc : List (Nat × Value)} {rest : List Value} {x : XD} {z : ZD} {o : Nat} (C : Cx g X cc nL n_La lvl) (ho : 10 ≤ o ∧ o < 16) (hd : decode cc pc = .ok (.getfield 9, 3)) (h : Wk g X nL (pc + 3) loc (.ref (g_a g 1) :: rest) (x, z)) : Wk g X nL pc loc (.ref (g_a g o) :: rest) (x, z) := k_get C (k := 0) l_178 rfl in_La rfl (by decide) (lt105 ho rfl) (sh_La ho) rfl hd h
theorem kg_La_17 {g : GC} {X : MX} {cc : ByteArray} {nL lvl pc : Nat} {loc : List (Nat × Value)} {rest : List Value} {x : XD} {z : ZD} {o : Nat} (C : Cx g X cc nL n_La lvl) (ho : 10 ≤ o ∧ o < 16) (hd : decode cc pc = .ok (.getfield 17, 3)) (h : Wk g X nL (pc + 3) loc (.ref (g_a g (o + 6)) :: rest) (x, z)) : Wk g X nL pc loc (.ref (g_a g o) :: rest) (x, z) := k_get C (k := 1) l_179 rfl in_La rfl (by decide) (lt105 ho rfl) (sh_La ho) rfl hd h
theorem kg_La_24 {g : GC} {X : MX} {cc : ByteArray} {nL lvl pc : Nat} {loc : List (Nat × Value)} {rest : List Value} {x : XD} {z : ZD} {o : Nat} (C : Cx g X cc nL n_La lvl) (ho : 10 ≤ o ∧ o < 16) (hd : decode cc pc = .ok (.getfield 24, 3)) (h : Wk g X nL (pc + 3) loc (.int (x o 2) :: rest) (x, z)) : Wk g X nL pc loc (.ref (g_a g o) :: rest) (x, z) := k_get C (k := 2) l_181 rfl in_La rfl (by decide) (lt105 ho rfl) (sh_La ho) rfl hd h
theorem kp_La_24 {g : GC} {X : MX} {cc : ByteArray} {nL lvl pc : Nat} {loc : List (Nat × Value)} {rest : List Value} {x : XD} {z : ZD} {o : Nat} {v : Int32} {x1 : XD} (C : Cx g X cc nL n_La lvl) (ho : 10 ≤ o ∧ o < 16) (e : x1 = x_up x o 2 v) (hd : decode cc pc = .ok (.putfield 24, 3)) (h : Wk g X nL (pc + 3) loc rest (x1, z)) : Wk g X nL pc loc (.int v :: .ref (g_a g o) :: rest) (x, z) := by
  subst e
  exact k_put C (k := 2) (ty := .int) l_181 rfl in_La (ft T_La) tk_La nm_La rfl (by decide) rfl rfl rfl rfl (Nat.le_of_ble_eq_true rfl) (lt105 ho rfl) (sh_La ho) (by rw [sh_La ho]; simp [x_up]) oth_x hd h
theorem kg_La_28 {g : GC} {X : MX} {cc : ByteArray} {nL lvl pc : Nat} {loc : List (Nat × Value)} {rest : List Value} {x : XD} {z : ZD} {o : Nat} (C : Cx g X cc nL n_La lvl) (ho : 10 ≤ o ∧ o < 16) (hd : decode cc pc = .ok (.getfield 28, 3)) (h : Wk g X nL (pc + 3) loc (.int (x o 3) :: rest) (x, z)) : Wk g X nL pc loc (.ref (g_a g o) :: rest) (x, z) := k_get C (k := 3) l_183 rfl in_La rfl (by decide) (lt105 ho rfl) (sh_La ho) rfl hd h
theorem kp_La_28 {g : GC} {X : MX} {cc : ByteArray} {nL lvl pc : Nat} {loc : List (Nat × Value)} {rest : List Value} {x : XD} {z : ZD} {o : Nat} {v : Int32} {x1 : XD} (C : Cx g X cc nL n_La lvl) (ho : 10 ≤ o ∧ o < 16) (e : x1 = x_up x o 3 v) (hd : decode cc pc = .ok (.putfield 28, 3)) (h : Wk g X nL (pc + 3) loc rest (x1, z)) : Wk g X nL pc loc (.int v :: .ref (g_a g o) :: rest) (x, z) := by
  subst e
  exact k_put C (k := 3) (ty := .int) l_183 rfl in_La (ft T_La) tk_La nm_La rfl (by decide) rfl rfl rfl rfl (Nat.le_of_ble_eq_true rfl) (lt105 ho rfl) (sh_La ho) (by rw [sh_La ho]; simp [x_up]) oth_x hd h
theorem kg_La_31 {g : GC} {X : MX} {cc : ByteArray} {nL lvl pc : Nat} {loc : List (Nat × Value)} {rest : List Value} {x : XD} {z : ZD} {o : Nat} (C : Cx g X cc nL n_La lvl) (ho : 10 ≤ o ∧ o < 16) (hd : decode cc pc = .ok (.getfield 31, 3)) (h : Wk g X nL (pc + 3) loc (.int (x o 4) :: rest) (x, z)) : Wk g X nL pc loc (.ref (g_a g o) :: rest) (x, z) := k_get C (k := 4) l_185 rfl in_La rfl (by decide) (lt105 ho rfl) (sh_La ho) rfl hd h
theorem kp_La_31 {g : GC} {X : MX} {cc : ByteArray} {nL lvl pc : Nat} {loc : List (Nat × Value)} {rest : List Value} {x : XD} {z : ZD} {o : Nat} {v : Int32} {x1 : XD} (C : Cx g X cc nL n_La lvl) (ho : 10 ≤ o ∧ o < 16) (e : x1 = x_up x o 4 v) (hd : decode cc pc = .ok (.putfield 31, 3)) (h : Wk g X nL (pc + 3) loc rest (x1, z)) : Wk g X nL pc loc (.int v :: .ref (g_a g o) :: rest) (x, z) := by
  subst e
  exact k_put C (k := 4) (ty := .int) l_185 rfl in_La (ft T_La) tk_La nm_La rfl (by decide) rfl rfl rfl rfl (Nat.le_of_ble_eq_true rfl) (lt105 ho rfl) (sh_La ho) (by rw [sh_La ho]; simp [x_up]) oth_x hd h
theorem kp_La_38 {g : GC} {X : MX} {cc : ByteArray} {nL lvl pc : Nat} {loc : List (Nat × Value)} {rest : List Value} {x : XD} {z : ZD} {o : Nat} {v : Int32} {x1 : XD} (C : Cx g X cc nL n_La lvl) (ho : 22 ≤ o ∧ o < 65) (e : x1 = x_up x o 0 v) (hd : decode cc pc = .ok (.putfield 38, 3)) (h : Wk g X nL (pc + 3) loc rest (x1, z)) : Wk g X nL pc loc (.ref (g_a g (2 + v.toNatClampNeg)) :: .ref (g_a g o) :: rest) (x, z) := by
  subst e
  exact k_putN C (k := 0) (ty := .object n_Ho) l_153 rfl in_St (ft T_St) tk_St nm_St rfl (by decide) rfl rfl rfl rfl (Nat.le_of_ble_eq_true rfl) (lt105 ho rfl) (sh_St ho) (by rw [sh_St ho]; simp [x_up]) oth_x hd h
theorem kp_La_42 {g : GC} {X : MX} {cc : ByteArray} {nL lvl pc : Nat} {loc : List (Nat × Value)} {rest : List Value} {x : XD} {z : ZD} {o : Nat} {v : Int32} {x1 : XD} (C : Cx g X cc nL n_La lvl) (ho : 22 ≤ o ∧ o < 65) (e : x1 = x_up x o 1 v) (hd : decode cc pc = .ok (.putfield 42, 3)) (h : Wk g X nL (pc + 3) loc rest (x1, z)) : Wk g X nL pc loc (.int v :: .ref (g_a g o) :: rest) (x, z) := by
  subst e
  exact k_putN C (k := 1) (ty := .int) l_156 rfl in_St (ft T_St) tk_St nm_St rfl (by decide) rfl rfl rfl rfl (Nat.le_of_ble_eq_true rfl) (lt105 ho rfl) (sh_St ho) (by rw [sh_St ho]; simp [x_up]) oth_x hd h
theorem kp_La_45 {g : GC} {X : MX} {cc : ByteArray} {nL lvl pc : Nat} {loc : List (Nat × Value)} {rest : List Value} {x : XD} {z : ZD} {o : Nat} {v : Int32} {x1 : XD} (C : Cx g X cc nL n_La lvl) (ho : 22 ≤ o ∧ o < 65) (e : x1 = x_up x o 2 v) (hd : decode cc pc = .ok (.putfield 45, 3)) (h : Wk g X nL (pc + 3) loc rest (x1, z)) : Wk g X nL pc loc (.int v :: .ref (g_a g o) :: rest) (x, z) := by
  subst e
  exact k_putN C (k := 2) (ty := .int) l_159 rfl in_St (ft T_St) tk_St nm_St rfl (by decide) rfl rfl rfl rfl (Nat.le_of_ble_eq_true rfl) (lt105 ho rfl) (sh_St ho) (by rw [sh_St ho]; simp [x_up]) oth_x hd h
theorem kg_La_48 {g : GC} {X : MX} {cc : ByteArray} {nL lvl pc : Nat} {loc : List (Nat × Value)} {rest : List Value} {x : XD} {z : ZD} {o : Nat} (C : Cx g X cc nL n_La lvl) (ho : 22 ≤ o ∧ o < 65) (hd : decode cc pc = .ok (.getfield 48, 3)) (h : Wk g X nL (pc + 3) loc (.int (x o 3) :: rest) (x, z)) : Wk g X nL pc loc (.ref (g_a g o) :: rest) (x, z) := k_getN C (k := 3) l_162 rfl in_St rfl (by decide) (lt105 ho rfl) (sh_St ho) rfl hd h
theorem kp_La_48 {g : GC} {X : MX} {cc : ByteArray} {nL lvl pc : Nat} {loc : List (Nat × Value)} {rest : List Value} {x : XD} {z : ZD} {o : Nat} {v : Int32} {x1 : XD} (C : Cx g X cc nL n_La lvl) (ho : 22 ≤ o ∧ o < 65) (e : x1 = x_up x o 3 v) (hd : decode cc pc = .ok (.putfield 48, 3)) (h : Wk g X nL (pc + 3) loc rest (x1, z)) : Wk g X nL pc loc (.int v :: .ref (g_a g o) :: rest) (x, z) := by
  subst e
  exact k_putN C (k := 3) (ty := .int) l_162 rfl in_St (ft T_St) tk_St nm_St rfl (by decide) rfl rfl rfl rfl (Nat.le_of_ble_eq_true rfl) (lt105 ho rfl) (sh_St ho) (by rw [sh_St ho]; simp [x_up]) oth_x hd h
theorem kg_La_51 {g : GC} {X : MX} {cc : ByteArray} {nL lvl pc : Nat} {loc : List (Nat × Value)} {rest : List Value} {x : XD} {z : ZD} {o : Nat} (C : Cx g X cc nL n_La lvl) (ho : 22 ≤ o ∧ o < 65) (hd : decode cc pc = .ok (.getfield 51, 3)) (h : Wk g X nL (pc + 3) loc (.int (x o 4) :: rest) (x, z)) : Wk g X nL pc loc (.ref (g_a g o) :: rest) (x, z) := k_getN C (k := 4) l_165 rfl in_St rfl (by decide) (lt105 ho rfl) (sh_St ho) rfl hd h
theorem kp_La_51 {g : GC} {X : MX} {cc : ByteArray} {nL lvl pc : Nat} {loc : List (Nat × Value)} {rest : List Value} {x : XD} {z : ZD} {o : Nat} {v : Int32} {x1 : XD} (C : Cx g X cc nL n_La lvl) (ho : 22 ≤ o ∧ o < 65) (e : x1 = x_up x o 4 v) (hd : decode cc pc = .ok (.putfield 51, 3)) (h : Wk g X nL (pc + 3) loc rest (x1, z)) : Wk g X nL pc loc (.int v :: .ref (g_a g o) :: rest) (x, z) := by
  subst e
  exact k_putN C (k := 4) (ty := .int) l_165 rfl in_St (ft T_St) tk_St nm_St rfl (by decide) rfl rfl rfl rfl (Nat.le_of_ble_eq_true rfl) (lt105 ho rfl) (sh_St ho) (by rw [sh_St ho]; simp [x_up]) oth_x hd h
theorem kg_La_79 {g : GC} {X : MX} {cc : ByteArray} {nL lvl pc : Nat} {loc : List (Nat × Value)} {rest : List Value} {x : XD} {z : ZD} {o : Nat} (C : Cx g X cc nL n_La lvl) (ho : 67 ≤ o ∧ o < 75) (hd : decode cc pc = .ok (.getfield 79, 3)) (h : Wk g X nL (pc + 3) loc (.ref (g_a g (o + 8)) :: rest) (x, z)) : Wk g X nL pc loc (.ref (g_a g o) :: rest) (x, z) := k_getN C (k := 5) l_219 rfl in_Sh rfl (by decide) (lt105 ho rfl) (sh_Sh ho) rfl hd h
theorem kg_Mo_7 {g : GC} {X : MX} {cc : ByteArray} {nL lvl pc : Nat} {loc : List (Nat × Value)} {rest : List Value} {xx : XD} {m : MD} {oo : Nat → Int64} (C : Cx g X cc nL n_Mo lvl) (hd : decode cc pc = .ok (.getfield 7, 3)) (h : Wk g X nL (pc + 3) loc (.ref (g_a g 84) :: rest) (xx, m, oo)) : Wk g X nL pc loc (.ref (g_a g 83) :: rest) (xx, m, oo) := k_get C (k := 1) l_945 rfl in_Mo rfl (by decide) (by decide) sh_Mo rfl hd h
theorem kg_Mo_13 {g : GC} {X : MX} {cc : ByteArray} {nL lvl pc : Nat} {loc : List (Nat × Value)} {rest : List Value} {xx : XD} {m : MD} {oo : Nat → Int64} (C : Cx g X cc nL n_Mo lvl) (hd : decode cc pc = .ok (.getfield 13, 3)) (h : Wk g X nL (pc + 3) loc (.ref (g_a g 85) :: rest) (xx, m, oo)) : Wk g X nL pc loc (.ref (g_a g 83) :: rest) (xx, m, oo) := k_get C (k := 2) l_946 rfl in_Mo rfl (by decide) (by decide) sh_Mo rfl hd h
theorem kg_Mo_16 {g : GC} {X : MX} {cc : ByteArray} {nL lvl pc : Nat} {loc : List (Nat × Value)} {rest : List Value} {xx : XD} {m : MD} {oo : Nat → Int64} (C : Cx g X cc nL n_Mo lvl) (hd : decode cc pc = .ok (.getfield 16, 3)) (h : Wk g X nL (pc + 3) loc (.ref (g_a g 86) :: rest) (xx, m, oo)) : Wk g X nL pc loc (.ref (g_a g 83) :: rest) (xx, m, oo) := k_get C (k := 3) l_947 rfl in_Mo rfl (by decide) (by decide) sh_Mo rfl hd h
theorem kg_Mo_19 {g : GC} {X : MX} {cc : ByteArray} {nL lvl pc : Nat} {loc : List (Nat × Value)} {rest : List Value} {xx : XD} {m : MD} {oo : Nat → Int64} (C : Cx g X cc nL n_Mo lvl) (hd : decode cc pc = .ok (.getfield 19, 3)) (h : Wk g X nL (pc + 3) loc (.ref (g_a g 87) :: rest) (xx, m, oo)) : Wk g X nL pc loc (.ref (g_a g 83) :: rest) (xx, m, oo) := k_get C (k := 4) l_948 rfl in_Mo rfl (by decide) (by decide) sh_Mo rfl hd h
theorem kg_Mo_22 {g : GC} {X : MX} {cc : ByteArray} {nL lvl pc : Nat} {loc : List (Nat × Value)} {rest : List Value} {xx : XD} {m : MD} {oo : Nat → Int64} (C : Cx g X cc nL n_Mo lvl) (hd : decode cc pc = .ok (.getfield 22, 3)) (h : Wk g X nL (pc + 3) loc (.ref (g_a g 88) :: rest) (xx, m, oo)) : Wk g X nL pc loc (.ref (g_a g 83) :: rest) (xx, m, oo) := k_get C (k := 5) l_949 rfl in_Mo rfl (by decide) (by decide) sh_Mo rfl hd h
theorem kg_Mo_25 {g : GC} {X : MX} {cc : ByteArray} {nL lvl pc : Nat} {loc : List (Nat × Value)} {rest : List Value} {xx : XD} {m : MD} {oo : Nat → Int64} (C : Cx g X cc nL n_Mo lvl) (hd : decode cc pc = .ok (.getfield 25, 3)) (h : Wk g X nL (pc + 3) loc (.ref (g_a g 89) :: rest) (xx, m, oo)) : Wk g X nL pc loc (.ref (g_a g 83) :: rest) (xx, m, oo) := k_get C (k := 8) l_952 rfl in_Mo rfl (by decide) (by decide) sh_Mo rfl hd h
theorem kg_Mo_28 {g : GC} {X : MX} {cc : ByteArray} {nL lvl pc : Nat} {loc : List (Nat × Value)} {rest : List Value} {xx : XD} {m : MD} {oo : Nat → Int64} (C : Cx g X cc nL n_Mo lvl) (hd : decode cc pc = .ok (.getfield 28, 3)) (h : Wk g X nL (pc + 3) loc (.ref (g_a g 90) :: rest) (xx, m, oo)) : Wk g X nL pc loc (.ref (g_a g 83) :: rest) (xx, m, oo) := k_get C (k := 9) l_953 rfl in_Mo rfl (by decide) (by decide) sh_Mo rfl hd h
theorem kg_Mo_31 {g : GC} {X : MX} {cc : ByteArray} {nL lvl pc : Nat} {loc : List (Nat × Value)} {rest : List Value} {xx : XD} {m : MD} {oo : Nat → Int64} (C : Cx g X cc nL n_Mo lvl) (hd : decode cc pc = .ok (.getfield 31, 3)) (h : Wk g X nL (pc + 3) loc (.ref (g_a g 91) :: rest) (xx, m, oo)) : Wk g X nL pc loc (.ref (g_a g 83) :: rest) (xx, m, oo) := k_get C (k := 10) l_954 rfl in_Mo rfl (by decide) (by decide) sh_Mo rfl hd h
theorem kg_Mo_34 {g : GC} {X : MX} {cc : ByteArray} {nL lvl pc : Nat} {loc : List (Nat × Value)} {rest : List Value} {xx : XD} {m : MD} {oo : Nat → Int64} (C : Cx g X cc nL n_Mo lvl) (hd : decode cc pc = .ok (.getfield 34, 3)) (h : Wk g X nL (pc + 3) loc (.ref (g_a g 92) :: rest) (xx, m, oo)) : Wk g X nL pc loc (.ref (g_a g 83) :: rest) (xx, m, oo) := k_get C (k := 11) l_955 rfl in_Mo rfl (by decide) (by decide) sh_Mo rfl hd h
theorem kg_Mo_37 {g : GC} {X : MX} {cc : ByteArray} {nL lvl pc : Nat} {loc : List (Nat × Value)} {rest : List Value} {xx : XD} {m : MD} {oo : Nat → Int64} (C : Cx g X cc nL n_Mo lvl) (hd : decode cc pc = .ok (.getfield 37, 3)) (h : Wk g X nL (pc + 3) loc (.ref (g_a g 93) :: rest) (xx, m, oo)) : Wk g X nL pc loc (.ref (g_a g 83) :: rest) (xx, m, oo) := k_get C (k := 12) l_956 rfl in_Mo rfl (by decide) (by decide) sh_Mo rfl hd h
theorem kg_Mo_40 {g : GC} {X : MX} {cc : ByteArray} {nL lvl pc : Nat} {loc : List (Nat × Value)} {rest : List Value} {xx : XD} {m : MD} {oo : Nat → Int64} (C : Cx g X cc nL n_Mo lvl) (hd : decode cc pc = .ok (.getfield 40, 3)) (h : Wk g X nL (pc + 3) loc (.ref (g_a g 94) :: rest) (xx, m, oo)) : Wk g X nL pc loc (.ref (g_a g 83) :: rest) (xx, m, oo) := k_get C (k := 13) l_957 rfl in_Mo rfl (by decide) (by decide) sh_Mo rfl hd h
theorem kg_Mo_44 {g : GC} {X : MX} {cc : ByteArray} {nL lvl pc : Nat} {loc : List (Nat × Value)} {rest : List Value} {xx : XD} {m : MD} {oo : Nat → Int64} (C : Cx g X cc nL n_Mo lvl) (hd : decode cc pc = .ok (.getfield 44, 3)) (h : Wk g X nL (pc + 3) loc (.ref (g_a g 95) :: rest) (xx, m, oo)) : Wk g X nL pc loc (.ref (g_a g 83) :: rest) (xx, m, oo) := k_get C (k := 19) l_963 rfl in_Mo rfl (by decide) (by decide) sh_Mo rfl hd h
theorem kg_Mo_47 {g : GC} {X : MX} {cc : ByteArray} {nL lvl pc : Nat} {loc : List (Nat × Value)} {rest : List Value} {xx : XD} {m : MD} {oo : Nat → Int64} (C : Cx g X cc nL n_Mo lvl) (hd : decode cc pc = .ok (.getfield 47, 3)) (h : Wk g X nL (pc + 3) loc (.ref (g_a g 96) :: rest) (xx, m, oo)) : Wk g X nL pc loc (.ref (g_a g 83) :: rest) (xx, m, oo) := k_get C (k := 20) l_964 rfl in_Mo rfl (by decide) (by decide) sh_Mo rfl hd h
theorem kg_Mo_50 {g : GC} {X : MX} {cc : ByteArray} {nL lvl pc : Nat} {loc : List (Nat × Value)} {rest : List Value} {xx : XD} {m : MD} {oo : Nat → Int64} (C : Cx g X cc nL n_Mo lvl) (hd : decode cc pc = .ok (.getfield 50, 3)) (h : Wk g X nL (pc + 3) loc (.ref (g_a g 97) :: rest) (xx, m, oo)) : Wk g X nL pc loc (.ref (g_a g 83) :: rest) (xx, m, oo) := k_get C (k := 21) l_965 rfl in_Mo rfl (by decide) (by decide) sh_Mo rfl hd h
theorem kg_Mo_53 {g : GC} {X : MX} {cc : ByteArray} {nL lvl pc : Nat} {loc : List (Nat × Value)} {rest : List Value} {xx : XD} {m : MD} {oo : Nat → Int64} (C : Cx g X cc nL n_Mo lvl) (hd : decode cc pc = .ok (.getfield 53, 3)) (h : Wk g X nL (pc + 3) loc (.ref (g_a g 98) :: rest) (xx, m, oo)) : Wk g X nL pc loc (.ref (g_a g 83) :: rest) (xx, m, oo) := k_get C (k := 22) l_966 rfl in_Mo rfl (by decide) (by decide) sh_Mo rfl hd h
theorem kg_Mo_56 {g : GC} {X : MX} {cc : ByteArray} {nL lvl pc : Nat} {loc : List (Nat × Value)} {rest : List Value} {xx : XD} {m : MD} {oo : Nat → Int64} (C : Cx g X cc nL n_Mo lvl) (hd : decode cc pc = .ok (.getfield 56, 3)) (h : Wk g X nL (pc + 3) loc (.ref (g_a g 99) :: rest) (xx, m, oo)) : Wk g X nL pc loc (.ref (g_a g 83) :: rest) (xx, m, oo) := k_get C (k := 23) l_967 rfl in_Mo rfl (by decide) (by decide) sh_Mo rfl hd h
theorem kg_Mo_59 {g : GC} {X : MX} {cc : ByteArray} {nL lvl pc : Nat} {loc : List (Nat × Value)} {rest : List Value} {xx : XD} {m : MD} {oo : Nat → Int64} (C : Cx g X cc nL n_Mo lvl) (hd : decode cc pc = .ok (.getfield 59, 3)) (h : Wk g X nL (pc + 3) loc (.ref (g_a g 100) :: rest) (xx, m, oo)) : Wk g X nL pc loc (.ref (g_a g 83) :: rest) (xx, m, oo) := k_get C (k := 24) l_968 rfl in_Mo rfl (by decide) (by decide) sh_Mo rfl hd h
theorem kg_Mo_62 {g : GC} {X : MX} {cc : ByteArray} {nL lvl pc : Nat} {loc : List (Nat × Value)} {rest : List Value} {xx : XD} {m : MD} {oo : Nat → Int64} (C : Cx g X cc nL n_Mo lvl) (hd : decode cc pc = .ok (.getfield 62, 3)) (h : Wk g X nL (pc + 3) loc (.ref (g_a g 101) :: rest) (xx, m, oo)) : Wk g X nL pc loc (.ref (g_a g 83) :: rest) (xx, m, oo) := k_get C (k := 25) l_969 rfl in_Mo rfl (by decide) (by decide) sh_Mo rfl hd h
theorem kg_Mo_65 {g : GC} {X : MX} {cc : ByteArray} {nL lvl pc : Nat} {loc : List (Nat × Value)} {rest : List Value} {xx : XD} {m : MD} {oo : Nat → Int64} (C : Cx g X cc nL n_Mo lvl) (hd : decode cc pc = .ok (.getfield 65, 3)) (h : Wk g X nL (pc + 3) loc (.ref (g_a g 102) :: rest) (xx, m, oo)) : Wk g X nL pc loc (.ref (g_a g 83) :: rest) (xx, m, oo) := k_get C (k := 32) l_976 rfl in_Mo rfl (by decide) (by decide) sh_Mo rfl hd h
theorem kg_Mo_68 {g : GC} {X : MX} {cc : ByteArray} {nL lvl pc : Nat} {loc : List (Nat × Value)} {rest : List Value} {xx : XD} {m : MD} {oo : Nat → Int64} (C : Cx g X cc nL n_Mo lvl) (hd : decode cc pc = .ok (.getfield 68, 3)) (h : Wk g X nL (pc + 3) loc (.ref (g_a g 103) :: rest) (xx, m, oo)) : Wk g X nL pc loc (.ref (g_a g 83) :: rest) (xx, m, oo) := k_get C (k := 34) l_978 rfl in_Mo rfl (by decide) (by decide) sh_Mo rfl hd h
theorem kg_Mo_71 {g : GC} {X : MX} {cc : ByteArray} {nL lvl pc : Nat} {loc : List (Nat × Value)} {rest : List Value} {xx : XD} {m : MD} {oo : Nat → Int64} (C : Cx g X cc nL n_Mo lvl) (hd : decode cc pc = .ok (.getfield 71, 3)) (h : Wk g X nL (pc + 3) loc (.int (m.1 83 14) :: rest) (xx, m, oo)) : Wk g X nL pc loc (.ref (g_a g 83) :: rest) (xx, m, oo) := k_get C (k := 14) l_958 rfl in_Mo rfl (by decide) (by decide) sh_Mo rfl hd h
theorem kp_Mo_71 {g : GC} {X : MX} {cc : ByteArray} {nL lvl pc : Nat} {loc : List (Nat × Value)} {rest : List Value} {xx : XD} {m : MD} {oo : Nat → Int64} {v : Int32} {m1 : MD} (C : Cx g X cc nL n_Mo lvl) (e : m1 = (x_up m.1 83 14 v, m.2)) (hd : decode cc pc = .ok (.putfield 71, 3)) (h : Wk g X nL (pc + 3) loc rest (xx, m1, oo)) : Wk g X nL pc loc (.int v :: .ref (g_a g 83) :: rest) (xx, m, oo) := by
  subst e
  exact k_put C (k := 14) (ty := .int) l_958 rfl in_Mo (ft T_Mo) tk_Mo nm_Mo rfl (by decide) rfl rfl rfl rfl (Nat.le_of_ble_eq_true rfl) (by decide) sh_Mo (by rw [sh_Mo]; simp [x_up]) oth_m hd h
theorem kg_Mo_81 {g : GC} {X : MX} {cc : ByteArray} {nL lvl pc : Nat} {loc : List (Nat × Value)} {rest : List Value} {xx : XD} {m : MD} {oo : Nat → Int64} (C : Cx g X cc nL n_Mo lvl) (hd : decode cc pc = .ok (.getfield 81, 3)) (h : Wk g X nL (pc + 3) loc (.int (m.1 83 0) :: rest) (xx, m, oo)) : Wk g X nL pc loc (.ref (g_a g 83) :: rest) (xx, m, oo) := k_get C (k := 0) l_944 rfl in_Mo rfl (by decide) (by decide) sh_Mo rfl hd h
theorem kp_Mo_81 {g : GC} {X : MX} {cc : ByteArray} {nL lvl pc : Nat} {loc : List (Nat × Value)} {rest : List Value} {xx : XD} {m : MD} {oo : Nat → Int64} {v : Int32} {m1 : MD} (C : Cx g X cc nL n_Mo lvl) (e : m1 = (x_up m.1 83 0 v, m.2)) (hd : decode cc pc = .ok (.putfield 81, 3)) (h : Wk g X nL (pc + 3) loc rest (xx, m1, oo)) : Wk g X nL pc loc (.int v :: .ref (g_a g 83) :: rest) (xx, m, oo) := by
  subst e
  exact k_put C (k := 0) (ty := .int) l_944 rfl in_Mo (ft T_Mo) tk_Mo nm_Mo rfl (by decide) rfl rfl rfl rfl (Nat.le_of_ble_eq_true rfl) (by decide) sh_Mo (by rw [sh_Mo]; simp [x_up]) oth_m hd h
theorem kg_Mo_88 {g : GC} {X : MX} {cc : ByteArray} {nL lvl pc : Nat} {loc : List (Nat × Value)} {rest : List Value} {xx : XD} {m : MD} {oo : Nat → Int64} (C : Cx g X cc nL n_Mo lvl) (hd : decode cc pc = .ok (.getfield 88, 3)) (h : Wk g X nL (pc + 3) loc (.int (m.1 83 6) :: rest) (xx, m, oo)) : Wk g X nL pc loc (.ref (g_a g 83) :: rest) (xx, m, oo) := k_get C (k := 6) l_950 rfl in_Mo rfl (by decide) (by decide) sh_Mo rfl hd h
theorem kp_Mo_88 {g : GC} {X : MX} {cc : ByteArray} {nL lvl pc : Nat} {loc : List (Nat × Value)} {rest : List Value} {xx : XD} {m : MD} {oo : Nat → Int64} {v : Int32} {m1 : MD} (C : Cx g X cc nL n_Mo lvl) (e : m1 = (x_up m.1 83 6 v, m.2)) (hd : decode cc pc = .ok (.putfield 88, 3)) (h : Wk g X nL (pc + 3) loc rest (xx, m1, oo)) : Wk g X nL pc loc (.int v :: .ref (g_a g 83) :: rest) (xx, m, oo) := by
  subst e
  exact k_put C (k := 6) (ty := .int) l_950 rfl in_Mo (ft T_Mo) tk_Mo nm_Mo rfl (by decide) rfl rfl rfl rfl (Nat.le_of_ble_eq_true rfl) (by decide) sh_Mo (by rw [sh_Mo]; simp [x_up]) oth_m hd h
theorem kg_Mo_95 {g : GC} {X : MX} {cc : ByteArray} {nL lvl pc : Nat} {loc : List (Nat × Value)} {rest : List Value} {xx : XD} {m : MD} {oo : Nat → Int64} (C : Cx g X cc nL n_Mo lvl) (hd : decode cc pc = .ok (.getfield 95, 3)) (h : Wk g X nL (pc + 3) loc (.int (m.1 83 7) :: rest) (xx, m, oo)) : Wk g X nL pc loc (.ref (g_a g 83) :: rest) (xx, m, oo) := k_get C (k := 7) l_951 rfl in_Mo rfl (by decide) (by decide) sh_Mo rfl hd h
theorem kp_Mo_95 {g : GC} {X : MX} {cc : ByteArray} {nL lvl pc : Nat} {loc : List (Nat × Value)} {rest : List Value} {xx : XD} {m : MD} {oo : Nat → Int64} {v : Int32} {m1 : MD} (C : Cx g X cc nL n_Mo lvl) (e : m1 = (x_up m.1 83 7 v, m.2)) (hd : decode cc pc = .ok (.putfield 95, 3)) (h : Wk g X nL (pc + 3) loc rest (xx, m1, oo)) : Wk g X nL pc loc (.int v :: .ref (g_a g 83) :: rest) (xx, m, oo) := by
  subst e
  exact k_put C (k := 7) (ty := .int) l_951 rfl in_Mo (ft T_Mo) tk_Mo nm_Mo rfl (by decide) rfl rfl rfl rfl (Nat.le_of_ble_eq_true rfl) (by decide) sh_Mo (by rw [sh_Mo]; simp [x_up]) oth_m hd h
theorem kg_Mo_118 {g : GC} {X : MX} {cc : ByteArray} {nL lvl pc : Nat} {loc : List (Nat × Value)} {rest : List Value} {xx : XD} {m : MD} {oo : Nat → Int64} (C : Cx g X cc nL n_Mo lvl) (hd : decode cc pc = .ok (.getfield 118, 3)) (h : Wk g X nL (pc + 3) loc (.int (m.1 83 16) :: rest) (xx, m, oo)) : Wk g X nL pc loc (.ref (g_a g 83) :: rest) (xx, m, oo) := k_get C (k := 16) l_960 rfl in_Mo rfl (by decide) (by decide) sh_Mo rfl hd h
theorem kp_Mo_118 {g : GC} {X : MX} {cc : ByteArray} {nL lvl pc : Nat} {loc : List (Nat × Value)} {rest : List Value} {xx : XD} {m : MD} {oo : Nat → Int64} {v : Int32} {m1 : MD} (C : Cx g X cc nL n_Mo lvl) (e : m1 = (x_up m.1 83 16 v, m.2)) (hd : decode cc pc = .ok (.putfield 118, 3)) (h : Wk g X nL (pc + 3) loc rest (xx, m1, oo)) : Wk g X nL pc loc (.int v :: .ref (g_a g 83) :: rest) (xx, m, oo) := by
  subst e
  exact k_put C (k := 16) (ty := .int) l_960 rfl in_Mo (ft T_Mo) tk_Mo nm_Mo rfl (by decide) rfl rfl rfl rfl (Nat.le_of_ble_eq_true rfl) (by decide) sh_Mo (by rw [sh_Mo]; simp [x_up]) oth_m hd h
theorem kg_Mo_121 {g : GC} {X : MX} {cc : ByteArray} {nL lvl pc : Nat} {loc : List (Nat × Value)} {rest : List Value} {xx : XD} {m : MD} {oo : Nat → Int64} (C : Cx g X cc nL n_Mo lvl) (hd : decode cc pc = .ok (.getfield 121, 3)) (h : Wk g X nL (pc + 3) loc (.int (m.1 83 15) :: rest) (xx, m, oo)) : Wk g X nL pc loc (.ref (g_a g 83) :: rest) (xx, m, oo) := k_get C (k := 15) l_959 rfl in_Mo rfl (by decide) (by decide) sh_Mo rfl hd h
theorem kp_Mo_121 {g : GC} {X : MX} {cc : ByteArray} {nL lvl pc : Nat} {loc : List (Nat × Value)} {rest : List Value} {xx : XD} {m : MD} {oo : Nat → Int64} {v : Int32} {m1 : MD} (C : Cx g X cc nL n_Mo lvl) (e : m1 = (x_up m.1 83 15 v, m.2)) (hd : decode cc pc = .ok (.putfield 121, 3)) (h : Wk g X nL (pc + 3) loc rest (xx, m1, oo)) : Wk g X nL pc loc (.int v :: .ref (g_a g 83) :: rest) (xx, m, oo) := by
  subst e
  exact k_put C (k := 15) (ty := .int) l_959 rfl in_Mo (ft T_Mo) tk_Mo nm_Mo rfl (by decide) rfl rfl rfl rfl (Nat.le_of_ble_eq_true rfl) (by decide) sh_Mo (by rw [sh_Mo]; simp [x_up]) oth_m hd h
theorem kg_Mo_124 {g : GC} {X : MX} {cc : ByteArray} {nL lvl pc : Nat} {loc : List (Nat × Value)} {rest : List Value} {xx : XD} {m : MD} {oo : Nat → Int64} (C : Cx g X cc nL n_Mo lvl) (hd : decode cc pc = .ok (.getfield 124, 3)) (h : Wk g X nL (pc + 3) loc (.int (m.1 83 17) :: rest) (xx, m, oo)) : Wk g X nL pc loc (.ref (g_a g 83) :: rest) (xx, m, oo) := k_get C (k := 17) l_961 rfl in_Mo rfl (by decide) (by decide) sh_Mo rfl hd h
theorem kp_Mo_124 {g : GC} {X : MX} {cc : ByteArray} {nL lvl pc : Nat} {loc : List (Nat × Value)} {rest : List Value} {xx : XD} {m : MD} {oo : Nat → Int64} {v : Int32} {m1 : MD} (C : Cx g X cc nL n_Mo lvl) (hz : v = 0 ∨ v = 1) (e : m1 = (x_up m.1 83 17 v, m.2)) (hd : decode cc pc = .ok (.putfield 124, 3)) (h : Wk g X nL (pc + 3) loc rest (xx, m1, oo)) : Wk g X nL pc loc (.int v :: .ref (g_a g 83) :: rest) (xx, m, oo) := by
  subst e
  exact k_put C (k := 17) (ty := .boolean) l_961 rfl in_Mo (ft T_Mo) tk_Mo nm_Mo rfl (by decide) rfl rfl (by rcases hz with rfl | rfl <;> rfl) (by rcases hz with rfl | rfl <;> rfl) (Nat.le_of_ble_eq_true rfl) (by decide) sh_Mo (by rw [sh_Mo]; simp [x_up]) oth_m hd h
theorem kg_Mo_139 {g : GC} {X : MX} {cc : ByteArray} {nL lvl pc : Nat} {loc : List (Nat × Value)} {rest : List Value} {xx : XD} {m : MD} {oo : Nat → Int64} (C : Cx g X cc nL n_Mo lvl) (hd : decode cc pc = .ok (.getfield 139, 3)) (h : Wk g X nL (pc + 3) loc (.int (m.1 83 18) :: rest) (xx, m, oo)) : Wk g X nL pc loc (.ref (g_a g 83) :: rest) (xx, m, oo) := k_get C (k := 18) l_962 rfl in_Mo rfl (by decide) (by decide) sh_Mo rfl hd h
theorem kp_Mo_139 {g : GC} {X : MX} {cc : ByteArray} {nL lvl pc : Nat} {loc : List (Nat × Value)} {rest : List Value} {xx : XD} {m : MD} {oo : Nat → Int64} {v : Int32} {m1 : MD} (C : Cx g X cc nL n_Mo lvl) (e : m1 = (x_up m.1 83 18 v, m.2)) (hd : decode cc pc = .ok (.putfield 139, 3)) (h : Wk g X nL (pc + 3) loc rest (xx, m1, oo)) : Wk g X nL pc loc (.int v :: .ref (g_a g 83) :: rest) (xx, m, oo) := by
  subst e
  exact k_put C (k := 18) (ty := .int) l_962 rfl in_Mo (ft T_Mo) tk_Mo nm_Mo rfl (by decide) rfl rfl rfl rfl (Nat.le_of_ble_eq_true rfl) (by decide) sh_Mo (by rw [sh_Mo]; simp [x_up]) oth_m hd h
theorem kg_Mo_186 {g : GC} {X : MX} {cc : ByteArray} {nL lvl pc : Nat} {loc : List (Nat × Value)} {rest : List Value} {xx : XD} {m : MD} {oo : Nat → Int64} (C : Cx g X cc nL n_Mo lvl) (hd : decode cc pc = .ok (.getfield 186, 3)) (h : Wk g X nL (pc + 3) loc (.int (m.1 83 28) :: rest) (xx, m, oo)) : Wk g X nL pc loc (.ref (g_a g 83) :: rest) (xx, m, oo) := k_get C (k := 28) l_972 rfl in_Mo rfl (by decide) (by decide) sh_Mo rfl hd h
theorem kp_Mo_186 {g : GC} {X : MX} {cc : ByteArray} {nL lvl pc : Nat} {loc : List (Nat × Value)} {rest : List Value} {xx : XD} {m : MD} {oo : Nat → Int64} {v : Int32} {m1 : MD} (C : Cx g X cc nL n_Mo lvl) (hz : v = 0 ∨ v = 1) (e : m1 = (x_up m.1 83 28 v, m.2)) (hd : decode cc pc = .ok (.putfield 186, 3)) (h : Wk g X nL (pc + 3) loc rest (xx, m1, oo)) : Wk g X nL pc loc (.int v :: .ref (g_a g 83) :: rest) (xx, m, oo) := by
  subst e
  exact k_put C (k := 28) (ty := .boolean) l_972 rfl in_Mo (ft T_Mo) tk_Mo nm_Mo rfl (by decide) rfl rfl (by rcases hz with rfl | rfl <;> rfl) (by rcases hz with rfl | rfl <;> rfl) (Nat.le_of_ble_eq_true rfl) (by decide) sh_Mo (by rw [sh_Mo]; simp [x_up]) oth_m hd h
theorem kg_Mo_189 {g : GC} {X : MX} {cc : ByteArray} {nL lvl pc : Nat} {loc : List (Nat × Value)} {rest : List Value} {xx : XD} {m : MD} {oo : Nat → Int64} (C : Cx g X cc nL n_Mo lvl) (hq : 98 ≤ m.2.2 ∧ m.2.2 < 102) (hd : decode cc pc = .ok (.getfield 189, 3)) (h : Wk g X nL (pc + 3) loc (.ref (g_a g m.2.2) :: rest) (xx, m, oo)) : Wk g X nL pc loc (.ref (g_a g 83) :: rest) (xx, m, oo) := k_get C (k := 29) l_973 rfl in_Mo rfl (by decide) (by decide) sh_Mo (by simp; omega) hd h
theorem kp_Mo_189 {g : GC} {X : MX} {cc : ByteArray} {nL lvl pc : Nat} {loc : List (Nat × Value)} {rest : List Value} {xx : XD} {m : MD} {oo : Nat → Int64} {v : Nat} {m1 : MD} (C : Cx g X cc nL n_Mo lvl) (hq : 98 ≤ v ∧ v < 102) (e : m1 = (m.1, m.2.1, v)) (hd : decode cc pc = .ok (.putfield 189, 3)) (h : Wk g X nL (pc + 3) loc rest (xx, m1, oo)) : Wk g X nL pc loc (.ref (g_a g v) :: .ref (g_a g 83) :: rest) (xx, m, oo) := by
  subst e
  exact k_put C (k := 29) (ty := .array .int) l_973 rfl in_Mo (ft T_Mo) tk_Mo nm_Mo rfl (by decide) rfl rfl rfl rfl (Nat.le_of_ble_eq_true rfl) (by decide) sh_Mo (by rw [sh_Mo]; simp; omega) oth_q hd h
theorem kg_Mo_192 {g : GC} {X : MX} {cc : ByteArray} {nL lvl pc : Nat} {loc : List (Nat × Value)} {rest : List Value} {xx : XD} {m : MD} {oo : Nat → Int64} (C : Cx g X cc nL n_Mo lvl) (hd : decode cc pc = .ok (.getfield 192, 3)) (h : Wk g X nL (pc + 3) loc (.int (m.1 83 27) :: rest) (xx, m, oo)) : Wk g X nL pc loc (.ref (g_a g 83) :: rest) (xx, m, oo) := k_get C (k := 27) l_971 rfl in_Mo rfl (by decide) (by decide) sh_Mo rfl hd h
theorem kp_Mo_192 {g : GC} {X : MX} {cc : ByteArray} {nL lvl pc : Nat} {loc : List (Nat × Value)} {rest : List Value} {xx : XD} {m : MD} {oo : Nat → Int64} {v : Int32} {m1 : MD} (C : Cx g X cc nL n_Mo lvl) (e : m1 = (x_up m.1 83 27 v, m.2)) (hd : decode cc pc = .ok (.putfield 192, 3)) (h : Wk g X nL (pc + 3) loc rest (xx, m1, oo)) : Wk g X nL pc loc (.int v :: .ref (g_a g 83) :: rest) (xx, m, oo) := by
  subst e
  exact k_put C (k := 27) (ty := .int) l_971 rfl in_Mo (ft T_Mo) tk_Mo nm_Mo rfl (by decide) rfl rfl rfl rfl (Nat.le_of_ble_eq_true rfl) (by decide) sh_Mo (by rw [sh_Mo]; simp [x_up]) oth_m hd h
theorem kg_Mo_202 {g : GC} {X : MX} {cc : ByteArray} {nL lvl pc : Nat} {loc : List (Nat × Value)} {rest : List Value} {xx : XD} {m : MD} {oo : Nat → Int64} (C : Cx g X cc nL n_Mo lvl) (hd : decode cc pc = .ok (.getfield 202, 3)) (h : Wk g X nL (pc + 3) loc (.int (m.1 83 26) :: rest) (xx, m, oo)) : Wk g X nL pc loc (.ref (g_a g 83) :: rest) (xx, m, oo) := k_get C (k := 26) l_970 rfl in_Mo rfl (by decide) (by decide) sh_Mo rfl hd h
theorem kp_Mo_202 {g : GC} {X : MX} {cc : ByteArray} {nL lvl pc : Nat} {loc : List (Nat × Value)} {rest : List Value} {xx : XD} {m : MD} {oo : Nat → Int64} {v : Int32} {m1 : MD} (C : Cx g X cc nL n_Mo lvl) (hz : v = 0 ∨ v = 1) (e : m1 = (x_up m.1 83 26 v, m.2)) (hd : decode cc pc = .ok (.putfield 202, 3)) (h : Wk g X nL (pc + 3) loc rest (xx, m1, oo)) : Wk g X nL pc loc (.int v :: .ref (g_a g 83) :: rest) (xx, m, oo) := by
  subst e
  exact k_put C (k := 26) (ty := .boolean) l_970 rfl in_Mo (ft T_Mo) tk_Mo nm_Mo rfl (by decide) rfl rfl (by rcases hz with rfl | rfl <;> rfl) (by rcases hz with rfl | rfl <;> rfl) (Nat.le_of_ble_eq_true rfl) (by decide) sh_Mo (by rw [sh_Mo]; simp [x_up]) oth_m hd h
theorem kg_Mo_218 {g : GC} {X : MX} {cc : ByteArray} {nL lvl pc : Nat} {loc : List (Nat × Value)} {rest : List Value} {xx : XD} {m : MD} {oo : Nat → Int64} (C : Cx g X cc nL n_Mo lvl) (hd : decode cc pc = .ok (.getfield 218, 3)) (h : Wk g X nL (pc + 3) loc (.int (m.1 83 30) :: rest) (xx, m, oo)) : Wk g X nL pc loc (.ref (g_a g 83) :: rest) (xx, m, oo) := k_get C (k := 30) l_974 rfl in_Mo rfl (by decide) (by decide) sh_Mo rfl hd h
theorem kp_Mo_218 {g : GC} {X : MX} {cc : ByteArray} {nL lvl pc : Nat} {loc : List (Nat × Value)} {rest : List Value} {xx : XD} {m : MD} {oo : Nat → Int64} {v : Int32} {m1 : MD} (C : Cx g X cc nL n_Mo lvl) (e : m1 = (x_up m.1 83 30 v, m.2)) (hd : decode cc pc = .ok (.putfield 218, 3)) (h : Wk g X nL (pc + 3) loc rest (xx, m1, oo)) : Wk g X nL pc loc (.int v :: .ref (g_a g 83) :: rest) (xx, m, oo) := by
  subst e
  exact k_put C (k := 30) (ty := .int) l_974 rfl in_Mo (ft T_Mo) tk_Mo nm_Mo rfl (by decide) rfl rfl rfl rfl (Nat.le_of_ble_eq_true rfl) (by decide) sh_Mo (by rw [sh_Mo]; simp [x_up]) oth_m hd h
theorem kg_Mo_221 {g : GC} {X : MX} {cc : ByteArray} {nL lvl pc : Nat} {loc : List (Nat × Value)} {rest : List Value} {xx : XD} {m : MD} {oo : Nat → Int64} (C : Cx g X cc nL n_Mo lvl) (hd : decode cc pc = .ok (.getfield 221, 3)) (h : Wk g X nL (pc + 3) loc (.int (m.1 83 31) :: rest) (xx, m, oo)) : Wk g X nL pc loc (.ref (g_a g 83) :: rest) (xx, m, oo) := k_get C (k := 31) l_975 rfl in_Mo rfl (by decide) (by decide) sh_Mo rfl hd h
theorem kp_Mo_221 {g : GC} {X : MX} {cc : ByteArray} {nL lvl pc : Nat} {loc : List (Nat × Value)} {rest : List Value} {xx : XD} {m : MD} {oo : Nat → Int64} {v : Int32} {m1 : MD} (C : Cx g X cc nL n_Mo lvl) (e : m1 = (x_up m.1 83 31 v, m.2)) (hd : decode cc pc = .ok (.putfield 221, 3)) (h : Wk g X nL (pc + 3) loc rest (xx, m1, oo)) : Wk g X nL pc loc (.int v :: .ref (g_a g 83) :: rest) (xx, m, oo) := by
  subst e
  exact k_put C (k := 31) (ty := .int) l_975 rfl in_Mo (ft T_Mo) tk_Mo nm_Mo rfl (by decide) rfl rfl rfl rfl (Nat.le_of_ble_eq_true rfl) (by decide) sh_Mo (by rw [sh_Mo]; simp [x_up]) oth_m hd h
theorem kg_Mo_282 {g : GC} {X : MX} {cc : ByteArray} {nL lvl pc : Nat} {loc : List (Nat × Value)} {rest : List Value} {xx : XD} {m : MD} {oo : Nat → Int64} (C : Cx g X cc nL n_Mo lvl) (hd : decode cc pc = .ok (.getfield 282, 3)) (h : Wk g X nL (pc + 3) loc (.int (m.1 83 33) :: rest) (xx, m, oo)) : Wk g X nL pc loc (.ref (g_a g 83) :: rest) (xx, m, oo) := k_get C (k := 33) l_977 rfl in_Mo rfl (by decide) (by decide) sh_Mo rfl hd h
theorem kp_Mo_282 {g : GC} {X : MX} {cc : ByteArray} {nL lvl pc : Nat} {loc : List (Nat × Value)} {rest : List Value} {xx : XD} {m : MD} {oo : Nat → Int64} {v : Int32} {m1 : MD} (C : Cx g X cc nL n_Mo lvl) (e : m1 = (x_up m.1 83 33 v, m.2)) (hd : decode cc pc = .ok (.putfield 282, 3)) (h : Wk g X nL (pc + 3) loc rest (xx, m1, oo)) : Wk g X nL pc loc (.int v :: .ref (g_a g 83) :: rest) (xx, m, oo) := by
  subst e
  exact k_put C (k := 33) (ty := .int) l_977 rfl in_Mo (ft T_Mo) tk_Mo nm_Mo rfl (by decide) rfl rfl rfl rfl (Nat.le_of_ble_eq_true rfl) (by decide) sh_Mo (by rw [sh_Mo]; simp [x_up]) oth_m hd h
theorem kp_Sh_9 {g : GC} {X : MX} {cc : ByteArray} {nL lvl pc : Nat} {loc : List (Nat × Value)} {rest : List Value} {x : XD} {z : ZD} {o : Nat} {v : Int32} {x1 : XD} (C : Cx g X cc nL n_Sh lvl) (ho : 67 ≤ o ∧ o < 75) (e : x1 = x_up x o 0 v) (hd : decode cc pc = .ok (.putfield 9, 3)) (h : Wk g X nL (pc + 3) loc rest (x1, z)) : Wk g X nL pc loc (.int v :: .ref (g_a g o) :: rest) (x, z) := by
  subst e
  exact k_put C (k := 0) (ty := .int) l_208 rfl in_Sh (ft T_Sh) tk_Sh nm_Sh rfl (by decide) rfl rfl rfl rfl (Nat.le_of_ble_eq_true rfl) (lt105 ho rfl) (sh_Sh ho) (by rw [sh_Sh ho]; simp [x_up]) oth_x hd h
theorem kg_Sh_19 {g : GC} {X : MX} {cc : ByteArray} {nL lvl pc : Nat} {loc : List (Nat × Value)} {rest : List Value} {x : XD} {z : ZD} {o : Nat} (C : Cx g X cc nL n_Sh lvl) (ho : 67 ≤ o ∧ o < 75) (hd : decode cc pc = .ok (.getfield 19, 3)) (h : Wk g X nL (pc + 3) loc (.ref (g_a g (o + 8)) :: rest) (x, z)) : Wk g X nL pc loc (.ref (g_a g o) :: rest) (x, z) := k_get C (k := 5) l_217 rfl in_Sh rfl (by decide) (lt105 ho rfl) (sh_Sh ho) rfl hd h
theorem kg_Sh_23 {g : GC} {X : MX} {cc : ByteArray} {nL lvl pc : Nat} {loc : List (Nat × Value)} {rest : List Value} {x : XD} {z : ZD} {o : Nat} (C : Cx g X cc nL n_Sh lvl) (ho : 67 ≤ o ∧ o < 75) (hd : decode cc pc = .ok (.getfield 23, 3)) (h : Wk g X nL (pc + 3) loc (.int (x o 3) :: rest) (x, z)) : Wk g X nL pc loc (.ref (g_a g o) :: rest) (x, z) := k_get C (k := 3) l_213 rfl in_Sh rfl (by decide) (lt105 ho rfl) (sh_Sh ho) rfl hd h
theorem kp_Sh_23 {g : GC} {X : MX} {cc : ByteArray} {nL lvl pc : Nat} {loc : List (Nat × Value)} {rest : List Value} {x : XD} {z : ZD} {o : Nat} {v : Int32} {x1 : XD} (C : Cx g X cc nL n_Sh lvl) (ho : 67 ≤ o ∧ o < 75) (e : x1 = x_up x o 3 v) (hd : decode cc pc = .ok (.putfield 23, 3)) (h : Wk g X nL (pc + 3) loc rest (x1, z)) : Wk g X nL pc loc (.int v :: .ref (g_a g o) :: rest) (x, z) := by
  subst e
  exact k_put C (k := 3) (ty := .int) l_213 rfl in_Sh (ft T_Sh) tk_Sh nm_Sh rfl (by decide) rfl rfl rfl rfl (Nat.le_of_ble_eq_true rfl) (lt105 ho rfl) (sh_Sh ho) (by rw [sh_Sh ho]; simp [x_up]) oth_x hd h
theorem kg_Sh_26 {g : GC} {X : MX} {cc : ByteArray} {nL lvl pc : Nat} {loc : List (Nat × Value)} {rest : List Value} {x : XD} {z : ZD} {o : Nat} (C : Cx g X cc nL n_Sh lvl) (ho : 67 ≤ o ∧ o < 75) (hd : decode cc pc = .ok (.getfield 26, 3)) (h : Wk g X nL (pc + 3) loc (.int (x o 4) :: rest) (x, z)) : Wk g X nL pc loc (.ref (g_a g o) :: rest) (x, z) := k_get C (k := 4) l_215 rfl in_Sh rfl (by decide) (lt105 ho rfl) (sh_Sh ho) rfl hd h
theorem kp_Sh_26 {g : GC} {X : MX} {cc : ByteArray} {nL lvl pc : Nat} {loc : List (Nat × Value)} {rest : List Value} {x : XD} {z : ZD} {o : Nat} {v : Int32} {x1 : XD} (C : Cx g X cc nL n_Sh lvl) (ho : 67 ≤ o ∧ o < 75) (e : x1 = x_up x o 4 v) (hd : decode cc pc = .ok (.putfield 26, 3)) (h : Wk g X nL (pc + 3) loc rest (x1, z)) : Wk g X nL pc loc (.int v :: .ref (g_a g o) :: rest) (x, z) := by
  subst e
  exact k_put C (k := 4) (ty := .int) l_215 rfl in_Sh (ft T_Sh) tk_Sh nm_Sh rfl (by decide) rfl rfl rfl rfl (Nat.le_of_ble_eq_true rfl) (lt105 ho rfl) (sh_Sh ho) (by rw [sh_Sh ho]; simp [x_up]) oth_x hd h
theorem kg_St_9 {g : GC} {X : MX} {cc : ByteArray} {nL lvl pc : Nat} {loc : List (Nat × Value)} {rest : List Value} {x : XD} {z : ZD} {o : Nat} (C : Cx g X cc nL n_St lvl) (ho : 22 ≤ o ∧ o < 65) (hd : decode cc pc = .ok (.getfield 9, 3)) (h : Wk g X nL (pc + 3) loc (.ref (g_a g (2 + (x o 0).toNatClampNeg)) :: rest) (x, z)) : Wk g X nL pc loc (.ref (g_a g o) :: rest) (x, z) := k_get C (k := 0) l_152 rfl in_St rfl (by decide) (lt105 ho rfl) (sh_St ho) rfl hd h
theorem kp_St_9 {g : GC} {X : MX} {cc : ByteArray} {nL lvl pc : Nat} {loc : List (Nat × Value)} {rest : List Value} {x : XD} {z : ZD} {o : Nat} {v : Int32} {x1 : XD} (C : Cx g X cc nL n_St lvl) (ho : 22 ≤ o ∧ o < 65) (e : x1 = x_up x o 0 v) (hd : decode cc pc = .ok (.putfield 9, 3)) (h : Wk g X nL (pc + 3) loc rest (x1, z)) : Wk g X nL pc loc (.ref (g_a g (2 + v.toNatClampNeg)) :: .ref (g_a g o) :: rest) (x, z) := by
  subst e
  exact k_put C (k := 0) (ty := .object n_Ho) l_152 rfl in_St (ft T_St) tk_St nm_St rfl (by decide) rfl rfl rfl rfl (Nat.le_of_ble_eq_true rfl) (lt105 ho rfl) (sh_St ho) (by rw [sh_St ho]; simp [x_up]) oth_x hd h
theorem kg_St_15 {g : GC} {X : MX} {cc : ByteArray} {nL lvl pc : Nat} {loc : List (Nat × Value)} {rest : List Value} {x : XD} {z : ZD} {o : Nat} (C : Cx g X cc nL n_St lvl) (ho : 22 ≤ o ∧ o < 65) (hd : decode cc pc = .ok (.getfield 15, 3)) (h : Wk g X nL (pc + 3) loc (.int (x o 1) :: rest) (x, z)) : Wk g X nL pc loc (.ref (g_a g o) :: rest) (x, z) := k_get C (k := 1) l_155 rfl in_St rfl (by decide) (lt105 ho rfl) (sh_St ho) rfl hd h
theorem kp_St_15 {g : GC} {X : MX} {cc : ByteArray} {nL lvl pc : Nat} {loc : List (Nat × Value)} {rest : List Value} {x : XD} {z : ZD} {o : Nat} {v : Int32} {x1 : XD} (C : Cx g X cc nL n_St lvl) (ho : 22 ≤ o ∧ o < 65) (e : x1 = x_up x o 1 v) (hd : decode cc pc = .ok (.putfield 15, 3)) (h : Wk g X nL (pc + 3) loc rest (x1, z)) : Wk g X nL pc loc (.int v :: .ref (g_a g o) :: rest) (x, z) := by
  subst e
  exact k_put C (k := 1) (ty := .int) l_155 rfl in_St (ft T_St) tk_St nm_St rfl (by decide) rfl rfl rfl rfl (Nat.le_of_ble_eq_true rfl) (lt105 ho rfl) (sh_St ho) (by rw [sh_St ho]; simp [x_up]) oth_x hd h
theorem kg_St_19 {g : GC} {X : MX} {cc : ByteArray} {nL lvl pc : Nat} {loc : List (Nat × Value)} {rest : List Value} {x : XD} {z : ZD} {o : Nat} (C : Cx g X cc nL n_St lvl) (ho : 22 ≤ o ∧ o < 65) (hd : decode cc pc = .ok (.getfield 19, 3)) (h : Wk g X nL (pc + 3) loc (.int (x o 2) :: rest) (x, z)) : Wk g X nL pc loc (.ref (g_a g o) :: rest) (x, z) := k_get C (k := 2) l_158 rfl in_St rfl (by decide) (lt105 ho rfl) (sh_St ho) rfl hd h
theorem kp_St_19 {g : GC} {X : MX} {cc : ByteArray} {nL lvl pc : Nat} {loc : List (Nat × Value)} {rest : List Value} {x : XD} {z : ZD} {o : Nat} {v : Int32} {x1 : XD} (C : Cx g X cc nL n_St lvl) (ho : 22 ≤ o ∧ o < 65) (e : x1 = x_up x o 2 v) (hd : decode cc pc = .ok (.putfield 19, 3)) (h : Wk g X nL (pc + 3) loc rest (x1, z)) : Wk g X nL pc loc (.int v :: .ref (g_a g o) :: rest) (x, z) := by
  subst e
  exact k_put C (k := 2) (ty := .int) l_158 rfl in_St (ft T_St) tk_St nm_St rfl (by decide) rfl rfl rfl rfl (Nat.le_of_ble_eq_true rfl) (lt105 ho rfl) (sh_St ho) (by rw [sh_St ho]; simp [x_up]) oth_x hd h
theorem kg_St_22 {g : GC} {X : MX} {cc : ByteArray} {nL lvl pc : Nat} {loc : List (Nat × Value)} {rest : List Value} {x : XD} {z : ZD} {o : Nat} (C : Cx g X cc nL n_St lvl) (ho : 22 ≤ o ∧ o < 65) (hd : decode cc pc = .ok (.getfield 22, 3)) (h : Wk g X nL (pc + 3) loc (.int (x o 3) :: rest) (x, z)) : Wk g X nL pc loc (.ref (g_a g o) :: rest) (x, z) := k_get C (k := 3) l_161 rfl in_St rfl (by decide) (lt105 ho rfl) (sh_St ho) rfl hd h
theorem kp_St_22 {g : GC} {X : MX} {cc : ByteArray} {nL lvl pc : Nat} {loc : List (Nat × Value)} {rest : List Value} {x : XD} {z : ZD} {o : Nat} {v : Int32} {x1 : XD} (C : Cx g X cc nL n_St lvl) (ho : 22 ≤ o ∧ o < 65) (e : x1 = x_up x o 3 v) (hd : decode cc pc = .ok (.putfield 22, 3)) (h : Wk g X nL (pc + 3) loc rest (x1, z)) : Wk g X nL pc loc (.int v :: .ref (g_a g o) :: rest) (x, z) := by
  subst e
  exact k_put C (k := 3) (ty := .int) l_161 rfl in_St (ft T_St) tk_St nm_St rfl (by decide) rfl rfl rfl rfl (Nat.le_of_ble_eq_true rfl) (lt105 ho rfl) (sh_St ho) (by rw [sh_St ho]; simp [x_up]) oth_x hd h
theorem kg_St_25 {g : GC} {X : MX} {cc : ByteArray} {nL lvl pc : Nat} {loc : List (Nat × Value)} {rest : List Value} {x : XD} {z : ZD} {o : Nat} (C : Cx g X cc nL n_St lvl) (ho : 22 ≤ o ∧ o < 65) (hd : decode cc pc = .ok (.getfield 25, 3)) (h : Wk g X nL (pc + 3) loc (.int (x o 4) :: rest) (x, z)) : Wk g X nL pc loc (.ref (g_a g o) :: rest) (x, z) := k_get C (k := 4) l_164 rfl in_St rfl (by decide) (lt105 ho rfl) (sh_St ho) rfl hd h
theorem kp_St_25 {g : GC} {X : MX} {cc : ByteArray} {nL lvl pc : Nat} {loc : List (Nat × Value)} {rest : List Value} {x : XD} {z : ZD} {o : Nat} {v : Int32} {x1 : XD} (C : Cx g X cc nL n_St lvl) (ho : 22 ≤ o ∧ o < 65) (e : x1 = x_up x o 4 v) (hd : decode cc pc = .ok (.putfield 25, 3)) (h : Wk g X nL (pc + 3) loc rest (x1, z)) : Wk g X nL pc loc (.int v :: .ref (g_a g o) :: rest) (x, z) := by
  subst e
  exact k_put C (k := 4) (ty := .int) l_164 rfl in_St (ft T_St) tk_St nm_St rfl (by decide) rfl rfl rfl rfl (Nat.le_of_ble_eq_true rfl) (lt105 ho rfl) (sh_St ho) (by rw [sh_St ho]; simp [x_up]) oth_x hd h
end
section
theorem d_Bl_init_0 : decode c_Bl_init 0 = .ok (.aload_n 0, 1) := by decide +kernel
theorem d_Bl_init_1 : decode c_Bl_init 1 = .ok (.invokespecial 3, 3) := by decide +kernel
theorem d_Bl_init_4 : decode c_Bl_init 4 = .ok (.return_, 1) := by decide +kernel
theorem d_Bl_number_0 : decode c_Bl_number 0 = .ok (.iconst 2, 1) := by decide +kernel
theorem d_Bl_number_1 : decode c_Bl_number 1 = .ok (.ireturn, 1) := by decide +kernel
theorem d_Bl_goal_0 : decode c_Bl_goal 0 = .ok (.bipush 20, 2) := by decide +kernel
theorem d_Bl_goal_2 : decode c_Bl_goal 2 = .ok (.iload_n 1, 1) := by decide +kernel
theorem d_Bl_goal_3 : decode c_Bl_goal 3 = .ok (.isub, 1) := by decide +kernel
theorem d_Bl_goal_4 : decode c_Bl_goal 4 = .ok (.ireturn, 1) := by decide +kernel
theorem d_Bl_pines_0 : decode c_Bl_pines 0 = .ok (.iconst 2, 1) := by decide +kernel
theorem d_Bl_pines_1 : decode c_Bl_pines 1 = .ok (.aload_n 0, 1) := by decide +kernel
theorem d_Bl_pines_2 : decode c_Bl_pines 2 = .ok (.iload_n 1, 1) := by decide +kernel
theorem d_Bl_pines_3 : decode c_Bl_pines 3 = .ok (.iload_n 2, 1) := by decide +kernel
theorem d_Bl_pines_4 : decode c_Bl_pines 4 = .ok (.invokespecial 9, 3) := by decide +kernel
theorem d_Bl_pines_7 : decode c_Bl_pines 7 = .ok (.imul, 1) := by decide +kernel
theorem d_Bl_pines_8 : decode c_Bl_pines 8 = .ok (.ireturn, 1) := by decide +kernel
theorem d_Bl_pace_0 : decode c_Bl_pace 0 = .ok (.iconst 1, 1) := by decide +kernel
theorem d_Bl_pace_1 : decode c_Bl_pace 1 = .ok (.iload_n 2, 1) := by decide +kernel
theorem d_Bl_pace_2 : decode c_Bl_pace 2 = .ok (.iconst 2, 1) := by decide +kernel
theorem d_Bl_pace_3 : decode c_Bl_pace 3 = .ok (.idiv, 1) := by decide +kernel
theorem d_Bl_pace_4 : decode c_Bl_pace 4 = .ok (.iadd, 1) := by decide +kernel
theorem d_Bl_pace_5 : decode c_Bl_pace 5 = .ok (.ireturn, 1) := by decide +kernel
theorem d_Bl_price_0 : decode c_Bl_price 0 = .ok (.aload_n 0, 1) := by decide +kernel
theorem d_Bl_price_1 : decode c_Bl_price 1 = .ok (.iload_n 1, 1) := by decide +kernel
theorem d_Bl_price_2 : decode c_Bl_price 2 = .ok (.invokespecial 13, 3) := by decide +kernel
theorem d_Bl_price_5 : decode c_Bl_price 5 = .ok (.iload_n 1, 1) := by decide +kernel
theorem d_Bl_price_6 : decode c_Bl_price 6 = .ok (.iadd, 1) := by decide +kernel
theorem d_Bl_price_7 : decode c_Bl_price 7 = .ok (.ireturn, 1) := by decide +kernel
theorem d_Co_init_0 : decode c_Co_init 0 = .ok (.aload_n 0, 1) := by decide +kernel
theorem d_Co_init_1 : decode c_Co_init 1 = .ok (.invokespecial 1, 3) := by decide +kernel
theorem d_Co_init_4 : decode c_Co_init 4 = .ok (.return_, 1) := by decide +kernel
theorem d_Co_number_0 : decode c_Co_number 0 = .ok (.iconst 1, 1) := by decide +kernel
theorem d_Co_number_1 : decode c_Co_number 1 = .ok (.ireturn, 1) := by decide +kernel
theorem d_Co_goal_0 : decode c_Co_goal 0 = .ok (.iload_n 2, 1) := by decide +kernel
theorem d_Co_goal_1 : decode c_Co_goal 1 = .ok (.ireturn, 1) := by decide +kernel
theorem d_Co_pines_0 : decode c_Co_pines 0 = .ok (.iconst 0, 1) := by decide +kernel
theorem d_Co_pines_1 : decode c_Co_pines 1 = .ok (.ireturn, 1) := by decide +kernel
theorem d_Co_pace_0 : decode c_Co_pace 0 = .ok (.iconst 2, 1) := by decide +kernel
theorem d_Co_pace_1 : decode c_Co_pace 1 = .ok (.ireturn, 1) := by decide +kernel
theorem d_Co_walk_0 : decode c_Co_walk 0 = .ok (.iconst 2, 1) := by decide +kernel
theorem d_Co_walk_1 : decode c_Co_walk 1 = .ok (.ireturn, 1) := by decide +kernel
theorem d_Co_price_0 : decode c_Co_price 0 = .ok (.iconst 1, 1) := by decide +kernel
theorem d_Co_price_1 : decode c_Co_price 1 = .ok (.ireturn, 1) := by decide +kernel
theorem d_Co_fail_0 : decode c_Co_fail 0 = .ok (.return_, 1) := by decide +kernel
theorem d_Dr_init_0 : decode c_Dr_init 0 = .ok (.aload_n 0, 1) := by decide +kernel
theorem d_Dr_init_1 : decode c_Dr_init 1 = .ok (.invokespecial 1, 3) := by decide +kernel
theorem d_Dr_init_4 : decode c_Dr_init 4 = .ok (.return_, 1) := by decide +kernel
theorem d_Dr_number_0 : decode c_Dr_number 0 = .ok (.iconst 4, 1) := by decide +kernel
theorem d_Dr_number_1 : decode c_Dr_number 1 = .ok (.ireturn, 1) := by decide +kernel
theorem d_Dr_pines_0 : decode c_Dr_pines 0 = .ok (.aload_n 0, 1) := by decide +kernel
theorem d_Dr_pines_1 : decode c_Dr_pines 1 = .ok (.iload_n 1, 1) := by decide +kernel
theorem d_Dr_pines_2 : decode c_Dr_pines 2 = .ok (.iload_n 2, 1) := by decide +kernel
theorem d_Dr_pines_3 : decode c_Dr_pines 3 = .ok (.invokespecial 7, 3) := by decide +kernel
theorem d_Dr_pines_6 : decode c_Dr_pines 6 = .ok (.iload_n 1, 1) := by decide +kernel
theorem d_Dr_pines_7 : decode c_Dr_pines 7 = .ok (.iadd, 1) := by decide +kernel
theorem d_Dr_pines_8 : decode c_Dr_pines 8 = .ok (.ireturn, 1) := by decide +kernel
theorem d_Dr_price_0 : decode c_Dr_price 0 = .ok (.bipush 7, 2) := by decide +kernel
theorem d_Dr_price_2 : decode c_Dr_price 2 = .ok (.ireturn, 1) := by decide +kernel
theorem d_Fo_init_0 : decode c_Fo_init 0 = .ok (.aload_n 0, 1) := by decide +kernel
theorem d_Fo_init_1 : decode c_Fo_init 1 = .ok (.invokespecial 1, 3) := by decide +kernel
theorem d_Fo_init_4 : decode c_Fo_init 4 = .ok (.return_, 1) := by decide +kernel
theorem d_Fo_number_0 : decode c_Fo_number 0 = .ok (.iconst 5, 1) := by decide +kernel
theorem d_Fo_number_1 : decode c_Fo_number 1 = .ok (.ireturn, 1) := by decide +kernel
theorem d_Fo_goal_0 : decode c_Fo_goal 0 = .ok (.iload_n 3, 1) := by decide +kernel
theorem d_Fo_goal_1 : decode c_Fo_goal 1 = .ok (.ireturn, 1) := by decide +kernel
theorem d_Fo_pines_0 : decode c_Fo_pines 0 = .ok (.aload_n 0, 1) := by decide +kernel
theorem d_Fo_pines_1 : decode c_Fo_pines 1 = .ok (.iload_n 1, 1) := by decide +kernel
theorem d_Fo_pines_2 : decode c_Fo_pines 2 = .ok (.iload_n 2, 1) := by decide +kernel
theorem d_Fo_pines_3 : decode c_Fo_pines 3 = .ok (.invokespecial 7, 3) := by decide +kernel
theorem d_Fo_pines_6 : decode c_Fo_pines 6 = .ok (.iload_n 1, 1) := by decide +kernel
theorem d_Fo_pines_7 : decode c_Fo_pines 7 = .ok (.iconst 2, 1) := by decide +kernel
theorem d_Fo_pines_8 : decode c_Fo_pines 8 = .ok (.idiv, 1) := by decide +kernel
theorem d_Fo_pines_9 : decode c_Fo_pines 9 = .ok (.iadd, 1) := by decide +kernel
theorem d_Fo_pines_10 : decode c_Fo_pines 10 = .ok (.ireturn, 1) := by decide +kernel
theorem d_Fo_pace_0 : decode c_Fo_pace 0 = .ok (.aload_n 0, 1) := by decide +kernel
theorem d_Fo_pace_1 : decode c_Fo_pace 1 = .ok (.iload_n 1, 1) := by decide +kernel
theorem d_Fo_pace_2 : decode c_Fo_pace 2 = .ok (.iload_n 2, 1) := by decide +kernel
theorem d_Fo_pace_3 : decode c_Fo_pace 3 = .ok (.invokespecial 11, 3) := by decide +kernel
theorem d_Fo_pace_6 : decode c_Fo_pace 6 = .ok (.iconst 1, 1) := by decide +kernel
theorem d_Fo_pace_7 : decode c_Fo_pace 7 = .ok (.iadd, 1) := by decide +kernel
theorem d_Fo_pace_8 : decode c_Fo_pace 8 = .ok (.ireturn, 1) := by decide +kernel
theorem d_Fo_price_0 : decode c_Fo_price 0 = .ok (.aload_n 0, 1) := by decide +kernel
theorem d_Fo_price_1 : decode c_Fo_price 1 = .ok (.iload_n 1, 1) := by decide +kernel
theorem d_Fo_price_2 : decode c_Fo_price 2 = .ok (.invokespecial 14, 3) := by decide +kernel
theorem d_Fo_price_5 : decode c_Fo_price 5 = .ok (.iconst 1, 1) := by decide +kernel
theorem d_Fo_price_6 : decode c_Fo_price 6 = .ok (.isub, 1) := by decide +kernel
theorem d_Fo_price_7 : decode c_Fo_price 7 = .ok (.ireturn, 1) := by decide +kernel
theorem d_Ge_init_0 : decode c_Ge_init 0 = .ok (.aload_n 0, 1) := by decide +kernel
theorem d_Ge_init_1 : decode c_Ge_init 1 = .ok (.invokespecial 1, 3) := by decide +kernel
theorem d_Ge_init_4 : decode c_Ge_init 4 = .ok (.return_, 1) := by decide +kernel
theorem d_Ge_number_0 : decode c_Ge_number 0 = .ok (.bipush 7, 2) := by decide +kernel
theorem d_Ge_number_2 : decode c_Ge_number 2 = .ok (.ireturn, 1) := by decide +kernel
theorem d_Ge_pace_0 : decode c_Ge_pace 0 = .ok (.aload_n 0, 1) := by decide +kernel
theorem d_Ge_pace_1 : decode c_Ge_pace 1 = .ok (.iload_n 1, 1) := by decide +kernel
theorem d_Ge_pace_2 : decode c_Ge_pace 2 = .ok (.iload_n 2, 1) := by decide +kernel
theorem d_Ge_pace_3 : decode c_Ge_pace 3 = .ok (.invokespecial 7, 3) := by decide +kernel
theorem d_Ge_pace_6 : decode c_Ge_pace 6 = .ok (.iconst 1, 1) := by decide +kernel
theorem d_Ge_pace_7 : decode c_Ge_pace 7 = .ok (.iadd, 1) := by decide +kernel
theorem d_Ge_pace_8 : decode c_Ge_pace 8 = .ok (.ireturn, 1) := by decide +kernel
theorem d_Ge_walk_0 : decode c_Ge_walk 0 = .ok (.iconst 3, 1) := by decide +kernel
theorem d_Ge_walk_1 : decode c_Ge_walk 1 = .ok (.ireturn, 1) := by decide +kernel
theorem d_Ge_price_0 : decode c_Ge_price 0 = .ok (.aload_n 0, 1) := by decide +kernel
theorem d_Ge_price_1 : decode c_Ge_price 1 = .ok (.iload_n 1, 1) := by decide +kernel
theorem d_Ge_price_2 : decode c_Ge_price 2 = .ok (.invokespecial 11, 3) := by decide +kernel
theorem d_Ge_price_5 : decode c_Ge_price 5 = .ok (.iconst 3, 1) := by decide +kernel
theorem d_Ge_price_6 : decode c_Ge_price 6 = .ok (.iadd, 1) := by decide +kernel
theorem d_Ge_price_7 : decode c_Ge_price 7 = .ok (.ireturn, 1) := by decide +kernel
theorem d_Ho_init_0 : decode c_Ho_init 0 = .ok (.aload_n 0, 1) := by decide +kernel
theorem d_Ho_init_1 : decode c_Ho_init 1 = .ok (.invokespecial 1, 3) := by decide +kernel
theorem d_Ho_init_4 : decode c_Ho_init 4 = .ok (.return_, 1) := by decide +kernel
theorem d_Ho_number_0 : decode c_Ho_number 0 = .ok (.iconst 0, 1) := by decide +kernel
theorem d_Ho_number_1 : decode c_Ho_number 1 = .ok (.ireturn, 1) := by decide +kernel
theorem d_Ho_goal_0 : decode c_Ho_goal 0 = .ok (.iload_n 1, 1) := by decide +kernel
theorem d_Ho_goal_1 : decode c_Ho_goal 1 = .ok (.ireturn, 1) := by decide +kernel
theorem d_Ho_pines_0 : decode c_Ho_pines 0 = .ok (.iconst 1, 1) := by decide +kernel
theorem d_Ho_pines_1 : decode c_Ho_pines 1 = .ok (.iload_n 2, 1) := by decide +kernel
theorem d_Ho_pines_2 : decode c_Ho_pines 2 = .ok (.iconst 5, 1) := by decide +kernel
theorem d_Ho_pines_3 : decode c_Ho_pines 3 = .ok (.idiv, 1) := by decide +kernel
theorem d_Ho_pines_4 : decode c_Ho_pines 4 = .ok (.iadd, 1) := by decide +kernel
theorem d_Ho_pines_5 : decode c_Ho_pines 5 = .ok (.ireturn, 1) := by decide +kernel
theorem d_Ho_pace_0 : decode c_Ho_pace 0 = .ok (.iconst 1, 1) := by decide +kernel
theorem d_Ho_pace_1 : decode c_Ho_pace 1 = .ok (.iload_n 2, 1) := by decide +kernel
theorem d_Ho_pace_2 : decode c_Ho_pace 2 = .ok (.iconst 4, 1) := by decide +kernel
theorem d_Ho_pace_3 : decode c_Ho_pace 3 = .ok (.idiv, 1) := by decide +kernel
theorem d_Ho_pace_4 : decode c_Ho_pace 4 = .ok (.iadd, 1) := by decide +kernel
theorem d_Ho_pace_5 : decode c_Ho_pace 5 = .ok (.ireturn, 1) := by decide +kernel
theorem d_Ho_walk_0 : decode c_Ho_walk 0 = .ok (.iconst 1, 1) := by decide +kernel
theorem d_Ho_walk_1 : decode c_Ho_walk 1 = .ok (.ireturn, 1) := by decide +kernel
theorem d_Ho_price_0 : decode c_Ho_price 0 = .ok (.iconst 2, 1) := by decide +kernel
theorem d_Ho_price_1 : decode c_Ho_price 1 = .ok (.ireturn, 1) := by decide +kernel
theorem d_Ho_fail_0 : decode c_Ho_fail 0 = .ok (.iload_n 1, 1) := by decide +kernel
theorem d_Ho_fail_1 : decode c_Ho_fail 1 = .ok (.ifCond .eq 13, 3) := by decide +kernel
theorem d_Ho_fail_4 : decode c_Ho_fail 4 = .ok (.new 7, 3) := by decide +kernel
theorem d_Ho_fail_7 : decode c_Ho_fail 7 = .ok (.dup, 1) := by decide +kernel
theorem d_Ho_fail_8 : decode c_Ho_fail 8 = .ok (.ldc 9, 2) := by decide +kernel
theorem d_Ho_fail_10 : decode c_Ho_fail 10 = .ok (.invokespecial 11, 3) := by decide +kernel
theorem d_Ho_fail_13 : decode c_Ho_fail 13 = .ok (.athrow, 1) := by decide +kernel
theorem d_Ho_fail_14 : decode c_Ho_fail 14 = .ok (.return_, 1) := by decide +kernel
theorem d_La_init_0 : decode c_La_init 0 = .ok (.aload_n 0, 1) := by decide +kernel
theorem d_La_init_1 : decode c_La_init 1 = .ok (.invokespecial 3, 3) := by decide +kernel
theorem d_La_init_4 : decode c_La_init 4 = .ok (.aload_n 0, 1) := by decide +kernel
theorem d_La_init_5 : decode c_La_init 5 = .ok (.aload_n 1, 1) := by decide +kernel
theorem d_La_init_6 : decode c_La_init 6 = .ok (.putfield 9, 3) := by decide +kernel
theorem d_La_init_9 : decode c_La_init 9 = .ok (.aload_n 0, 1) := by decide +kernel
theorem d_La_init_10 : decode c_La_init 10 = .ok (.bipush 7, 2) := by decide +kernel
theorem d_La_init_12 : decode c_La_init 12 = .ok (.anewarray 15, 3) := by decide +kernel
theorem d_La_init_15 : decode c_La_init 15 = .ok (.putfield 17, 3) := by decide +kernel
theorem d_La_init_18 : decode c_La_init 18 = .ok (.iconst 0, 1) := by decide +kernel
theorem d_La_init_19 : decode c_La_init 19 = .ok (.istore_n 2, 1) := by decide +kernel
theorem d_La_init_20 : decode c_La_init 20 = .ok (.iload_n 2, 1) := by decide +kernel
theorem d_La_init_21 : decode c_La_init 21 = .ok (.bipush 7, 2) := by decide +kernel
theorem d_La_init_23 : decode c_La_init 23 = .ok (.if_icmp .ge 25, 3) := by decide +kernel
theorem d_La_init_26 : decode c_La_init 26 = .ok (.aload_n 0, 1) := by decide +kernel
theorem d_La_init_27 : decode c_La_init 27 = .ok (.getfield 17, 3) := by decide +kernel
theorem d_La_init_30 : decode c_La_init 30 = .ok (.iload_n 2, 1) := by decide +kernel
theorem d_La_init_31 : decode c_La_init 31 = .ok (.new 15, 3) := by decide +kernel
theorem d_La_init_34 : decode c_La_init 34 = .ok (.dup, 1) := by decide +kernel
theorem d_La_init_35 : decode c_La_init 35 = .ok (.aload_n 1, 1) := by decide +kernel
theorem d_La_init_36 : decode c_La_init 36 = .ok (.iconst 0, 1) := by decide +kernel
theorem d_La_init_37 : decode c_La_init 37 = .ok (.aaload, 1) := by decide +kernel
theorem d_La_init_38 : decode c_La_init 38 = .ok (.invokespecial 21, 3) := by decide +kernel
theorem d_La_init_41 : decode c_La_init 41 = .ok (.aastore, 1) := by decide +kernel
theorem d_La_init_42 : decode c_La_init 42 = .ok (.iinc 2 1, 3) := by decide +kernel
theorem d_La_init_45 : decode c_La_init 45 = .ok (.goto (-25), 3) := by decide +kernel
theorem d_La_init_48 : decode c_La_init 48 = .ok (.return_, 1) := by decide +kernel
theorem d_La_become_0 : decode c_La_become 0 = .ok (.aload_n 0, 1) := by decide +kernel
theorem d_La_become_1 : decode c_La_become 1 = .ok (.aload_n 1, 1) := by decide +kernel
theorem d_La_become_2 : decode c_La_become 2 = .ok (.getfield 24, 3) := by decide +kernel
theorem d_La_become_5 : decode c_La_become 5 = .ok (.putfield 24, 3) := by decide +kernel
theorem d_La_become_8 : decode c_La_become 8 = .ok (.aload_n 0, 1) := by decide +kernel
theorem d_La_become_9 : decode c_La_become 9 = .ok (.aload_n 1, 1) := by decide +kernel
theorem d_La_become_10 : decode c_La_become 10 = .ok (.getfield 28, 3) := by decide +kernel
theorem d_La_become_13 : decode c_La_become 13 = .ok (.putfield 28, 3) := by decide +kernel
theorem d_La_become_16 : decode c_La_become 16 = .ok (.aload_n 0, 1) := by decide +kernel
theorem d_La_become_17 : decode c_La_become 17 = .ok (.aload_n 1, 1) := by decide +kernel
theorem d_La_become_18 : decode c_La_become 18 = .ok (.getfield 31, 3) := by decide +kernel
theorem d_La_become_21 : decode c_La_become 21 = .ok (.putfield 31, 3) := by decide +kernel
theorem d_La_become_24 : decode c_La_become 24 = .ok (.iconst 0, 1) := by decide +kernel
theorem d_La_become_25 : decode c_La_become 25 = .ok (.istore_n 2, 1) := by decide +kernel
theorem d_La_become_26 : decode c_La_become 26 = .ok (.iload_n 2, 1) := by decide +kernel
theorem d_La_become_27 : decode c_La_become 27 = .ok (.aload_n 0, 1) := by decide +kernel
theorem d_La_become_28 : decode c_La_become 28 = .ok (.getfield 24, 3) := by decide +kernel
theorem d_La_become_31 : decode c_La_become 31 = .ok (.if_icmp .ge 24, 3) := by decide +kernel
theorem d_La_become_34 : decode c_La_become 34 = .ok (.aload_n 0, 1) := by decide +kernel
theorem d_La_become_35 : decode c_La_become 35 = .ok (.getfield 17, 3) := by decide +kernel
theorem d_La_become_38 : decode c_La_become 38 = .ok (.iload_n 2, 1) := by decide +kernel
theorem d_La_become_39 : decode c_La_become 39 = .ok (.aaload, 1) := by decide +kernel
theorem d_La_become_40 : decode c_La_become 40 = .ok (.aload_n 1, 1) := by decide +kernel
theorem d_La_become_41 : decode c_La_become 41 = .ok (.getfield 17, 3) := by decide +kernel
theorem d_La_become_44 : decode c_La_become 44 = .ok (.iload_n 2, 1) := by decide +kernel
theorem d_La_become_45 : decode c_La_become 45 = .ok (.aaload, 1) := by decide +kernel
theorem d_La_become_46 : decode c_La_become 46 = .ok (.invokevirtual 34, 3) := by decide +kernel
theorem d_La_become_49 : decode c_La_become 49 = .ok (.iinc 2 1, 3) := by decide +kernel
theorem d_La_become_52 : decode c_La_become 52 = .ok (.goto (-26), 3) := by decide +kernel
theorem d_La_become_55 : decode c_La_become 55 = .ok (.return_, 1) := by decide +kernel
theorem d_La_gets_0 : decode c_La_gets 0 = .ok (.aload_n 0, 1) := by decide +kernel
theorem d_La_gets_1 : decode c_La_gets 1 = .ok (.getfield 24, 3) := by decide +kernel
theorem d_La_gets_4 : decode c_La_gets 4 = .ok (.bipush 7, 2) := by decide +kernel
theorem d_La_gets_6 : decode c_La_gets 6 = .ok (.if_icmp .lt 5, 3) := by decide +kernel
theorem d_La_gets_9 : decode c_La_gets 9 = .ok (.iconst 0, 1) := by decide +kernel
theorem d_La_gets_10 : decode c_La_gets 10 = .ok (.ireturn, 1) := by decide +kernel
theorem d_La_gets_11 : decode c_La_gets 11 = .ok (.aload_n 0, 1) := by decide +kernel
theorem d_La_gets_12 : decode c_La_gets 12 = .ok (.getfield 17, 3) := by decide +kernel
theorem d_La_gets_15 : decode c_La_gets 15 = .ok (.aload_n 0, 1) := by decide +kernel
theorem d_La_gets_16 : decode c_La_gets 16 = .ok (.getfield 24, 3) := by decide +kernel
theorem d_La_gets_19 : decode c_La_gets 19 = .ok (.aaload, 1) := by decide +kernel
theorem d_La_gets_20 : decode c_La_gets 20 = .ok (.astore 5, 2) := by decide +kernel
theorem d_La_gets_22 : decode c_La_gets 22 = .ok (.aload 5, 2) := by decide +kernel
theorem d_La_gets_24 : decode c_La_gets 24 = .ok (.aload_n 1, 1) := by decide +kernel
theorem d_La_gets_25 : decode c_La_gets 25 = .ok (.putfield 38, 3) := by decide +kernel
theorem d_La_gets_28 : decode c_La_gets 28 = .ok (.aload 5, 2) := by decide +kernel
theorem d_La_gets_30 : decode c_La_gets 30 = .ok (.iload_n 2, 1) := by decide +kernel
theorem d_La_gets_31 : decode c_La_gets 31 = .ok (.putfield 42, 3) := by decide +kernel
theorem d_La_gets_34 : decode c_La_gets 34 = .ok (.aload 5, 2) := by decide +kernel
theorem d_La_gets_36 : decode c_La_gets 36 = .ok (.iload_n 3, 1) := by decide +kernel
theorem d_La_gets_37 : decode c_La_gets 37 = .ok (.putfield 45, 3) := by decide +kernel
theorem d_La_gets_40 : decode c_La_gets 40 = .ok (.aload 5, 2) := by decide +kernel
theorem d_La_gets_42 : decode c_La_gets 42 = .ok (.iload 4, 2) := by decide +kernel
theorem d_La_gets_44 : decode c_La_gets 44 = .ok (.putfield 48, 3) := by decide +kernel
theorem d_La_gets_47 : decode c_La_gets 47 = .ok (.aload 5, 2) := by decide +kernel
theorem d_La_gets_49 : decode c_La_gets 49 = .ok (.iconst 0, 1) := by decide +kernel
theorem d_La_gets_50 : decode c_La_gets 50 = .ok (.putfield 51, 3) := by decide +kernel
theorem d_La_gets_53 : decode c_La_gets 53 = .ok (.aload_n 0, 1) := by decide +kernel
theorem d_La_gets_54 : decode c_La_gets 54 = .ok (.dup, 1) := by decide +kernel
theorem d_La_gets_55 : decode c_La_gets 55 = .ok (.getfield 24, 3) := by decide +kernel
theorem d_La_gets_58 : decode c_La_gets 58 = .ok (.iconst 1, 1) := by decide +kernel
theorem d_La_gets_59 : decode c_La_gets 59 = .ok (.iadd, 1) := by decide +kernel
theorem d_La_gets_60 : decode c_La_gets 60 = .ok (.putfield 24, 3) := by decide +kernel
theorem d_La_gets_63 : decode c_La_gets 63 = .ok (.iconst 1, 1) := by decide +kernel
theorem d_La_gets_64 : decode c_La_gets 64 = .ok (.ireturn, 1) := by decide +kernel
theorem d_La_hasDays_0 : decode c_La_hasDays 0 = .ok (.aload_n 0, 1) := by decide +kernel
theorem d_La_hasDays_1 : decode c_La_hasDays 1 = .ok (.getfield 31, 3) := by decide +kernel
theorem d_La_hasDays_4 : decode c_La_hasDays 4 = .ok (.iload_n 1, 1) := by decide +kernel
theorem d_La_hasDays_5 : decode c_La_hasDays 5 = .ok (.iadd, 1) := by decide +kernel
theorem d_La_hasDays_6 : decode c_La_hasDays 6 = .ok (.sipush 999, 3) := by decide +kernel
theorem d_La_hasDays_9 : decode c_La_hasDays 9 = .ok (.if_icmp .gt 7, 3) := by decide +kernel
theorem d_La_hasDays_12 : decode c_La_hasDays 12 = .ok (.iconst 1, 1) := by decide +kernel
theorem d_La_hasDays_13 : decode c_La_hasDays 13 = .ok (.goto 4, 3) := by decide +kernel
theorem d_La_hasDays_16 : decode c_La_hasDays 16 = .ok (.iconst 0, 1) := by decide +kernel
theorem d_La_hasDays_17 : decode c_La_hasDays 17 = .ok (.ireturn, 1) := by decide +kernel
theorem d_La_pass_0 : decode c_La_pass 0 = .ok (.aload_n 0, 1) := by decide +kernel
theorem d_La_pass_1 : decode c_La_pass 1 = .ok (.dup, 1) := by decide +kernel
theorem d_La_pass_2 : decode c_La_pass 2 = .ok (.getfield 31, 3) := by decide +kernel
theorem d_La_pass_5 : decode c_La_pass 5 = .ok (.iload_n 1, 1) := by decide +kernel
theorem d_La_pass_6 : decode c_La_pass 6 = .ok (.iadd, 1) := by decide +kernel
theorem d_La_pass_7 : decode c_La_pass 7 = .ok (.putfield 31, 3) := by decide +kernel
theorem d_La_pass_10 : decode c_La_pass 10 = .ok (.iconst 0, 1) := by decide +kernel
theorem d_La_pass_11 : decode c_La_pass 11 = .ok (.istore_n 2, 1) := by decide +kernel
theorem d_La_pass_12 : decode c_La_pass 12 = .ok (.iload_n 2, 1) := by decide +kernel
theorem d_La_pass_13 : decode c_La_pass 13 = .ok (.aload_n 0, 1) := by decide +kernel
theorem d_La_pass_14 : decode c_La_pass 14 = .ok (.getfield 24, 3) := by decide +kernel
theorem d_La_pass_17 : decode c_La_pass 17 = .ok (.if_icmp .ge 35, 3) := by decide +kernel
theorem d_La_pass_20 : decode c_La_pass 20 = .ok (.iconst 0, 1) := by decide +kernel
theorem d_La_pass_21 : decode c_La_pass 21 = .ok (.istore_n 3, 1) := by decide +kernel
theorem d_La_pass_22 : decode c_La_pass 22 = .ok (.iload_n 3, 1) := by decide +kernel
theorem d_La_pass_23 : decode c_La_pass 23 = .ok (.iload_n 1, 1) := by decide +kernel
theorem d_La_pass_24 : decode c_La_pass 24 = .ok (.if_icmp .ge 22, 3) := by decide +kernel
theorem d_La_pass_27 : decode c_La_pass 27 = .ok (.aload_n 0, 1) := by decide +kernel
theorem d_La_pass_28 : decode c_La_pass 28 = .ok (.getfield 17, 3) := by decide +kernel
theorem d_La_pass_31 : decode c_La_pass 31 = .ok (.iload_n 2, 1) := by decide +kernel
theorem d_La_pass_32 : decode c_La_pass 32 = .ok (.aaload, 1) := by decide +kernel
theorem d_La_pass_33 : decode c_La_pass 33 = .ok (.aload_n 0, 1) := by decide +kernel
theorem d_La_pass_34 : decode c_La_pass 34 = .ok (.getfield 28, 3) := by decide +kernel
theorem d_La_pass_37 : decode c_La_pass 37 = .ok (.invokevirtual 54, 3) := by decide +kernel
theorem d_La_pass_40 : decode c_La_pass 40 = .ok (.iinc 3 1, 3) := by decide +kernel
theorem d_La_pass_43 : decode c_La_pass 43 = .ok (.goto (-21), 3) := by decide +kernel
theorem d_La_pass_46 : decode c_La_pass 46 = .ok (.iinc 2 1, 3) := by decide +kernel
theorem d_La_pass_49 : decode c_La_pass 49 = .ok (.goto (-37), 3) := by decide +kernel
theorem d_La_pass_52 : decode c_La_pass 52 = .ok (.return_, 1) := by decide +kernel
theorem d_La_ride_0 : decode c_La_ride 0 = .ok (.iconst 0, 1) := by decide +kernel
theorem d_La_ride_1 : decode c_La_ride 1 = .ok (.istore_n 3, 1) := by decide +kernel
theorem d_La_ride_2 : decode c_La_ride 2 = .ok (.aload_n 0, 1) := by decide +kernel
theorem d_La_ride_3 : decode c_La_ride 3 = .ok (.getfield 17, 3) := by decide +kernel
theorem d_La_ride_6 : decode c_La_ride 6 = .ok (.iload_n 1, 1) := by decide +kernel
theorem d_La_ride_7 : decode c_La_ride 7 = .ok (.aaload, 1) := by decide +kernel
theorem d_La_ride_8 : decode c_La_ride 8 = .ok (.getfield 48, 3) := by decide +kernel
theorem d_La_ride_11 : decode c_La_ride 11 = .ok (.iload_n 2, 1) := by decide +kernel
theorem d_La_ride_12 : decode c_La_ride 12 = .ok (.if_icmp .eq 34, 3) := by decide +kernel
theorem d_La_ride_15 : decode c_La_ride 15 = .ok (.iload_n 3, 1) := by decide +kernel
theorem d_La_ride_16 : decode c_La_ride 16 = .ok (.bipush 21, 2) := by decide +kernel
theorem d_La_ride_18 : decode c_La_ride 18 = .ok (.if_icmp .ge 28, 3) := by decide +kernel
theorem d_La_ride_21 : decode c_La_ride 21 = .ok (.aload_n 0, 1) := by decide +kernel
theorem d_La_ride_22 : decode c_La_ride 22 = .ok (.getfield 17, 3) := by decide +kernel
theorem d_La_ride_25 : decode c_La_ride 25 = .ok (.iload_n 1, 1) := by decide +kernel
theorem d_La_ride_26 : decode c_La_ride 26 = .ok (.aaload, 1) := by decide +kernel
theorem d_La_ride_27 : decode c_La_ride 27 = .ok (.iload_n 2, 1) := by decide +kernel
theorem d_La_ride_28 : decode c_La_ride 28 = .ok (.aload_n 0, 1) := by decide +kernel
theorem d_La_ride_29 : decode c_La_ride 29 = .ok (.getfield 28, 3) := by decide +kernel
theorem d_La_ride_32 : decode c_La_ride 32 = .ok (.invokevirtual 58, 3) := by decide +kernel
theorem d_La_ride_35 : decode c_La_ride 35 = .ok (.aload_n 0, 1) := by decide +kernel
theorem d_La_ride_36 : decode c_La_ride 36 = .ok (.iconst 1, 1) := by decide +kernel
theorem d_La_ride_37 : decode c_La_ride 37 = .ok (.invokevirtual 62, 3) := by decide +kernel
theorem d_La_ride_40 : decode c_La_ride 40 = .ok (.iinc 3 1, 3) := by decide +kernel
theorem d_La_ride_43 : decode c_La_ride 43 = .ok (.goto (-41), 3) := by decide +kernel
theorem d_La_ride_46 : decode c_La_ride 46 = .ok (.iload_n 3, 1) := by decide +kernel
theorem d_La_ride_47 : decode c_La_ride 47 = .ok (.ireturn, 1) := by decide +kernel
theorem d_La_allLonging_0 : decode c_La_allLonging 0 = .ok (.iconst 0, 1) := by decide +kernel
theorem d_La_allLonging_1 : decode c_La_allLonging 1 = .ok (.istore_n 1, 1) := by decide +kernel
theorem d_La_allLonging_2 : decode c_La_allLonging 2 = .ok (.iconst 0, 1) := by decide +kernel
theorem d_La_allLonging_3 : decode c_La_allLonging 3 = .ok (.istore_n 2, 1) := by decide +kernel
theorem d_La_allLonging_4 : decode c_La_allLonging 4 = .ok (.iload_n 2, 1) := by decide +kernel
theorem d_La_allLonging_5 : decode c_La_allLonging 5 = .ok (.aload_n 0, 1) := by decide +kernel
theorem d_La_allLonging_6 : decode c_La_allLonging 6 = .ok (.getfield 24, 3) := by decide +kernel
theorem d_La_allLonging_9 : decode c_La_allLonging 9 = .ok (.if_icmp .ge 21, 3) := by decide +kernel
theorem d_La_allLonging_12 : decode c_La_allLonging 12 = .ok (.iload_n 1, 1) := by decide +kernel
theorem d_La_allLonging_13 : decode c_La_allLonging 13 = .ok (.aload_n 0, 1) := by decide +kernel
theorem d_La_allLonging_14 : decode c_La_allLonging 14 = .ok (.getfield 17, 3) := by decide +kernel
theorem d_La_allLonging_17 : decode c_La_allLonging 17 = .ok (.iload_n 2, 1) := by decide +kernel
theorem d_La_allLonging_18 : decode c_La_allLonging 18 = .ok (.aaload, 1) := by decide +kernel
theorem d_La_allLonging_19 : decode c_La_allLonging 19 = .ok (.getfield 51, 3) := by decide +kernel
theorem d_La_allLonging_22 : decode c_La_allLonging 22 = .ok (.iadd, 1) := by decide +kernel
theorem d_La_allLonging_23 : decode c_La_allLonging 23 = .ok (.istore_n 1, 1) := by decide +kernel
theorem d_La_allLonging_24 : decode c_La_allLonging 24 = .ok (.iinc 2 1, 3) := by decide +kernel
theorem d_La_allLonging_27 : decode c_La_allLonging 27 = .ok (.goto (-23), 3) := by decide +kernel
theorem d_La_allLonging_30 : decode c_La_allLonging 30 = .ok (.iload_n 1, 1) := by decide +kernel
theorem d_La_allLonging_31 : decode c_La_allLonging 31 = .ok (.ireturn, 1) := by decide +kernel
theorem d_La_allPace_0 : decode c_La_allPace 0 = .ok (.iconst 0, 1) := by decide +kernel
theorem d_La_allPace_1 : decode c_La_allPace 1 = .ok (.istore_n 1, 1) := by decide +kernel
theorem d_La_allPace_2 : decode c_La_allPace 2 = .ok (.iconst 0, 1) := by decide +kernel
theorem d_La_allPace_3 : decode c_La_allPace 3 = .ok (.istore_n 2, 1) := by decide +kernel
theorem d_La_allPace_4 : decode c_La_allPace 4 = .ok (.iload_n 2, 1) := by decide +kernel
theorem d_La_allPace_5 : decode c_La_allPace 5 = .ok (.aload_n 0, 1) := by decide +kernel
theorem d_La_allPace_6 : decode c_La_allPace 6 = .ok (.getfield 24, 3) := by decide +kernel
theorem d_La_allPace_9 : decode c_La_allPace 9 = .ok (.if_icmp .ge 21, 3) := by decide +kernel
theorem d_La_allPace_12 : decode c_La_allPace 12 = .ok (.iload_n 1, 1) := by decide +kernel
theorem d_La_allPace_13 : decode c_La_allPace 13 = .ok (.aload_n 0, 1) := by decide +kernel
theorem d_La_allPace_14 : decode c_La_allPace 14 = .ok (.getfield 17, 3) := by decide +kernel
theorem d_La_allPace_17 : decode c_La_allPace 17 = .ok (.iload_n 2, 1) := by decide +kernel
theorem d_La_allPace_18 : decode c_La_allPace 18 = .ok (.aaload, 1) := by decide +kernel
theorem d_La_allPace_19 : decode c_La_allPace 19 = .ok (.invokevirtual 65, 3) := by decide +kernel
theorem d_La_allPace_22 : decode c_La_allPace 22 = .ok (.iadd, 1) := by decide +kernel
theorem d_La_allPace_23 : decode c_La_allPace 23 = .ok (.istore_n 1, 1) := by decide +kernel
theorem d_La_allPace_24 : decode c_La_allPace 24 = .ok (.iinc 2 1, 3) := by decide +kernel
theorem d_La_allPace_27 : decode c_La_allPace 27 = .ok (.goto (-23), 3) := by decide +kernel
theorem d_La_allPace_30 : decode c_La_allPace 30 = .ok (.iload_n 1, 1) := by decide +kernel
theorem d_La_allPace_31 : decode c_La_allPace 31 = .ok (.ireturn, 1) := by decide +kernel
theorem d_La_allResting_0 : decode c_La_allResting 0 = .ok (.iconst 0, 1) := by decide +kernel
theorem d_La_allResting_1 : decode c_La_allResting 1 = .ok (.istore_n 1, 1) := by decide +kernel
theorem d_La_allResting_2 : decode c_La_allResting 2 = .ok (.iconst 0, 1) := by decide +kernel
theorem d_La_allResting_3 : decode c_La_allResting 3 = .ok (.istore_n 2, 1) := by decide +kernel
theorem d_La_allResting_4 : decode c_La_allResting 4 = .ok (.iload_n 2, 1) := by decide +kernel
theorem d_La_allResting_5 : decode c_La_allResting 5 = .ok (.aload_n 0, 1) := by decide +kernel
theorem d_La_allResting_6 : decode c_La_allResting 6 = .ok (.getfield 24, 3) := by decide +kernel
theorem d_La_allResting_9 : decode c_La_allResting 9 = .ok (.if_icmp .ge 33, 3) := by decide +kernel
theorem d_La_allResting_12 : decode c_La_allResting 12 = .ok (.iload_n 1, 1) := by decide +kernel
theorem d_La_allResting_13 : decode c_La_allResting 13 = .ok (.aload_n 0, 1) := by decide +kernel
theorem d_La_allResting_14 : decode c_La_allResting 14 = .ok (.getfield 17, 3) := by decide +kernel
theorem d_La_allResting_17 : decode c_La_allResting 17 = .ok (.iload_n 2, 1) := by decide +kernel
theorem d_La_allResting_18 : decode c_La_allResting 18 = .ok (.aaload, 1) := by decide +kernel
theorem d_La_allResting_19 : decode c_La_allResting 19 = .ok (.aload_n 0, 1) := by decide +kernel
theorem d_La_allResting_20 : decode c_La_allResting 20 = .ok (.getfield 28, 3) := by decide +kernel
theorem d_La_allResting_23 : decode c_La_allResting 23 = .ok (.invokevirtual 69, 3) := by decide +kernel
theorem d_La_allResting_26 : decode c_La_allResting 26 = .ok (.ifCond .eq 7, 3) := by decide +kernel
theorem d_La_allResting_29 : decode c_La_allResting 29 = .ok (.iconst 1, 1) := by decide +kernel
theorem d_La_allResting_30 : decode c_La_allResting 30 = .ok (.goto 4, 3) := by decide +kernel
theorem d_La_allResting_33 : decode c_La_allResting 33 = .ok (.iconst 0, 1) := by decide +kernel
theorem d_La_allResting_34 : decode c_La_allResting 34 = .ok (.iadd, 1) := by decide +kernel
theorem d_La_allResting_35 : decode c_La_allResting 35 = .ok (.istore_n 1, 1) := by decide +kernel
theorem d_La_allResting_36 : decode c_La_allResting 36 = .ok (.iinc 2 1, 3) := by decide +kernel
theorem d_La_allResting_39 : decode c_La_allResting 39 = .ok (.goto (-35), 3) := by decide +kernel
theorem d_La_allResting_42 : decode c_La_allResting 42 = .ok (.iload_n 1, 1) := by decide +kernel
theorem d_La_allResting_43 : decode c_La_allResting 43 = .ok (.ireturn, 1) := by decide +kernel
theorem d_La_follow_0 : decode c_La_follow 0 = .ok (.aload_n 1, 1) := by decide +kernel
theorem d_La_follow_1 : decode c_La_follow 1 = .ok (.iload_n 2, 1) := by decide +kernel
theorem d_La_follow_2 : decode c_La_follow 2 = .ok (.iconst 1, 1) := by decide +kernel
theorem d_La_follow_3 : decode c_La_follow 3 = .ok (.iadd, 1) := by decide +kernel
theorem d_La_follow_4 : decode c_La_follow 4 = .ok (.invokevirtual 73, 3) := by decide +kernel
theorem d_La_follow_7 : decode c_La_follow 7 = .ok (.istore_n 3, 1) := by decide +kernel
theorem d_La_follow_8 : decode c_La_follow 8 = .ok (.aload_n 1, 1) := by decide +kernel
theorem d_La_follow_9 : decode c_La_follow 9 = .ok (.getfield 79, 3) := by decide +kernel
theorem d_La_follow_12 : decode c_La_follow 12 = .ok (.iload_n 2, 1) := by decide +kernel
theorem d_La_follow_13 : decode c_La_follow 13 = .ok (.iaload, 1) := by decide +kernel
theorem d_La_follow_14 : decode c_La_follow 14 = .ok (.lookupswitch 86 #[(100, 61), (104, 42), (108, 73), (111, 49)], 42) := by decide +kernel
theorem d_La_follow_56 : decode c_La_follow 56 = .ok (.aload_n 0, 1) := by decide +kernel
theorem d_La_follow_57 : decode c_La_follow 57 = .ok (.aload_n 1, 1) := by decide +kernel
theorem d_La_follow_58 : decode c_La_follow 58 = .ok (.iload_n 2, 1) := by decide +kernel
theorem d_La_follow_59 : decode c_La_follow 59 = .ok (.invokevirtual 83, 3) := by decide +kernel
theorem d_La_follow_62 : decode c_La_follow 62 = .ok (.ireturn, 1) := by decide +kernel
theorem d_La_follow_63 : decode c_La_follow 63 = .ok (.aload_n 0, 1) := by decide +kernel
theorem d_La_follow_64 : decode c_La_follow 64 = .ok (.aload_n 1, 1) := by decide +kernel
theorem d_La_follow_65 : decode c_La_follow 65 = .ok (.iload_n 2, 1) := by decide +kernel
theorem d_La_follow_66 : decode c_La_follow 66 = .ok (.iconst 1, 1) := by decide +kernel
theorem d_La_follow_67 : decode c_La_follow 67 = .ok (.iadd, 1) := by decide +kernel
theorem d_La_follow_68 : decode c_La_follow 68 = .ok (.invokevirtual 87, 3) := by decide +kernel
theorem d_La_follow_71 : decode c_La_follow 71 = .ok (.invokevirtual 90, 3) := by decide +kernel
theorem d_La_follow_74 : decode c_La_follow 74 = .ok (.ireturn, 1) := by decide +kernel
theorem d_La_follow_75 : decode c_La_follow 75 = .ok (.aload_n 0, 1) := by decide +kernel
theorem d_La_follow_76 : decode c_La_follow 76 = .ok (.aload_n 1, 1) := by decide +kernel
theorem d_La_follow_77 : decode c_La_follow 77 = .ok (.iload_n 2, 1) := by decide +kernel
theorem d_La_follow_78 : decode c_La_follow 78 = .ok (.iconst 1, 1) := by decide +kernel
theorem d_La_follow_79 : decode c_La_follow 79 = .ok (.iadd, 1) := by decide +kernel
theorem d_La_follow_80 : decode c_La_follow 80 = .ok (.invokevirtual 87, 3) := by decide +kernel
theorem d_La_follow_83 : decode c_La_follow 83 = .ok (.invokevirtual 93, 3) := by decide +kernel
theorem d_La_follow_86 : decode c_La_follow 86 = .ok (.ireturn, 1) := by decide +kernel
theorem d_La_follow_87 : decode c_La_follow 87 = .ok (.aload_n 0, 1) := by decide +kernel
theorem d_La_follow_88 : decode c_La_follow 88 = .ok (.iload_n 3, 1) := by decide +kernel
theorem d_La_follow_89 : decode c_La_follow 89 = .ok (.aload_n 1, 1) := by decide +kernel
theorem d_La_follow_90 : decode c_La_follow 90 = .ok (.iload_n 2, 1) := by decide +kernel
theorem d_La_follow_91 : decode c_La_follow 91 = .ok (.iconst 2, 1) := by decide +kernel
theorem d_La_follow_92 : decode c_La_follow 92 = .ok (.iadd, 1) := by decide +kernel
theorem d_La_follow_93 : decode c_La_follow 93 = .ok (.invokevirtual 87, 3) := by decide +kernel
theorem d_La_follow_96 : decode c_La_follow 96 = .ok (.invokevirtual 96, 3) := by decide +kernel
theorem d_La_follow_99 : decode c_La_follow 99 = .ok (.ireturn, 1) := by decide +kernel
theorem d_La_follow_100 : decode c_La_follow 100 = .ok (.aload_n 1, 1) := by decide +kernel
theorem d_La_follow_101 : decode c_La_follow 101 = .ok (.iload_n 2, 1) := by decide +kernel
theorem d_La_follow_102 : decode c_La_follow 102 = .ok (.iconst 2, 1) := by decide +kernel
theorem d_La_follow_103 : decode c_La_follow 103 = .ok (.iadd, 1) := by decide +kernel
theorem d_La_follow_104 : decode c_La_follow 104 = .ok (.invokevirtual 87, 3) := by decide +kernel
theorem d_La_follow_107 : decode c_La_follow 107 = .ok (.istore 4, 2) := by decide +kernel
theorem d_La_follow_109 : decode c_La_follow 109 = .ok (.iload_n 3, 1) := by decide +kernel
theorem d_La_follow_110 : decode c_La_follow 110 = .ok (.aload_n 0, 1) := by decide +kernel
theorem d_La_follow_111 : decode c_La_follow 111 = .ok (.getfield 24, 3) := by decide +kernel
theorem d_La_follow_114 : decode c_La_follow 114 = .ok (.if_icmp .ge 11, 3) := by decide +kernel
theorem d_La_follow_117 : decode c_La_follow 117 = .ok (.iload 4, 2) := by decide +kernel
theorem d_La_follow_119 : decode c_La_follow 119 = .ok (.invokestatic 100, 3) := by decide +kernel
theorem d_La_follow_122 : decode c_La_follow 122 = .ok (.ifCond .ne 5, 3) := by decide +kernel
theorem d_La_follow_125 : decode c_La_follow 125 = .ok (.iconst 0, 1) := by decide +kernel
theorem d_La_follow_126 : decode c_La_follow 126 = .ok (.ireturn, 1) := by decide +kernel
theorem d_La_follow_127 : decode c_La_follow 127 = .ok (.aload_n 0, 1) := by decide +kernel
theorem d_La_follow_128 : decode c_La_follow 128 = .ok (.iload_n 3, 1) := by decide +kernel
theorem d_La_follow_129 : decode c_La_follow 129 = .ok (.iload 4, 2) := by decide +kernel
theorem d_La_follow_131 : decode c_La_follow 131 = .ok (.invokevirtual 103, 3) := by decide +kernel
theorem d_La_follow_134 : decode c_La_follow 134 = .ok (.pop, 1) := by decide +kernel
theorem d_La_follow_135 : decode c_La_follow 135 = .ok (.aload_n 0, 1) := by decide +kernel
theorem d_La_follow_136 : decode c_La_follow 136 = .ok (.iconst 0, 1) := by decide +kernel
theorem d_La_follow_137 : decode c_La_follow 137 = .ok (.invokevirtual 107, 3) := by decide +kernel
theorem d_La_follow_140 : decode c_La_follow 140 = .ok (.ireturn, 1) := by decide +kernel
theorem d_La_followHorse_0 : decode c_La_followHorse 0 = .ok (.aload_n 1, 1) := by decide +kernel
theorem d_La_followHorse_1 : decode c_La_followHorse 1 = .ok (.iload_n 2, 1) := by decide +kernel
theorem d_La_followHorse_2 : decode c_La_followHorse 2 = .ok (.iconst 1, 1) := by decide +kernel
theorem d_La_followHorse_3 : decode c_La_followHorse 3 = .ok (.iadd, 1) := by decide +kernel
theorem d_La_followHorse_4 : decode c_La_followHorse 4 = .ok (.invokevirtual 73, 3) := by decide +kernel
theorem d_La_followHorse_7 : decode c_La_followHorse 7 = .ok (.istore_n 3, 1) := by decide +kernel
theorem d_La_followHorse_8 : decode c_La_followHorse 8 = .ok (.aload_n 1, 1) := by decide +kernel
theorem d_La_followHorse_9 : decode c_La_followHorse 9 = .ok (.iload_n 2, 1) := by decide +kernel
theorem d_La_followHorse_10 : decode c_La_followHorse 10 = .ok (.iconst 3, 1) := by decide +kernel
theorem d_La_followHorse_11 : decode c_La_followHorse 11 = .ok (.iadd, 1) := by decide +kernel
theorem d_La_followHorse_12 : decode c_La_followHorse 12 = .ok (.invokevirtual 87, 3) := by decide +kernel
theorem d_La_followHorse_15 : decode c_La_followHorse 15 = .ok (.istore 4, 2) := by decide +kernel
theorem d_La_followHorse_17 : decode c_La_followHorse 17 = .ok (.aload_n 1, 1) := by decide +kernel
theorem d_La_followHorse_18 : decode c_La_followHorse 18 = .ok (.iload_n 2, 1) := by decide +kernel
theorem d_La_followHorse_19 : decode c_La_followHorse 19 = .ok (.iconst 5, 1) := by decide +kernel
theorem d_La_followHorse_20 : decode c_La_followHorse 20 = .ok (.iadd, 1) := by decide +kernel
theorem d_La_followHorse_21 : decode c_La_followHorse 21 = .ok (.invokevirtual 87, 3) := by decide +kernel
theorem d_La_followHorse_24 : decode c_La_followHorse 24 = .ok (.istore 5, 2) := by decide +kernel
theorem d_La_followHorse_26 : decode c_La_followHorse 26 = .ok (.iload_n 3, 1) := by decide +kernel
theorem d_La_followHorse_27 : decode c_La_followHorse 27 = .ok (.invokestatic 110, 3) := by decide +kernel
theorem d_La_followHorse_30 : decode c_La_followHorse 30 = .ok (.ifCond .eq 47, 3) := by decide +kernel
theorem d_La_followHorse_33 : decode c_La_followHorse 33 = .ok (.iload 4, 2) := by decide +kernel
theorem d_La_followHorse_35 : decode c_La_followHorse 35 = .ok (.invokestatic 100, 3) := by decide +kernel
theorem d_La_followHorse_38 : decode c_La_followHorse 38 = .ok (.ifCond .eq 39, 3) := by decide +kernel
theorem d_La_followHorse_41 : decode c_La_followHorse 41 = .ok (.iload 5, 2) := by decide +kernel
theorem d_La_followHorse_43 : decode c_La_followHorse 43 = .ok (.invokestatic 100, 3) := by decide +kernel
theorem d_La_followHorse_46 : decode c_La_followHorse 46 = .ok (.ifCond .eq 31, 3) := by decide +kernel
theorem d_La_followHorse_49 : decode c_La_followHorse 49 = .ok (.aload_n 0, 1) := by decide +kernel
theorem d_La_followHorse_50 : decode c_La_followHorse 50 = .ok (.aload_n 0, 1) := by decide +kernel
theorem d_La_followHorse_51 : decode c_La_followHorse 51 = .ok (.getfield 9, 3) := by decide +kernel
theorem d_La_followHorse_54 : decode c_La_followHorse 54 = .ok (.iload_n 3, 1) := by decide +kernel
theorem d_La_followHorse_55 : decode c_La_followHorse 55 = .ok (.aaload, 1) := by decide +kernel
theorem d_La_followHorse_56 : decode c_La_followHorse 56 = .ok (.aload_n 1, 1) := by decide +kernel
theorem d_La_followHorse_57 : decode c_La_followHorse 57 = .ok (.iload_n 2, 1) := by decide +kernel
theorem d_La_followHorse_58 : decode c_La_followHorse 58 = .ok (.iconst 2, 1) := by decide +kernel
theorem d_La_followHorse_59 : decode c_La_followHorse 59 = .ok (.iadd, 1) := by decide +kernel
theorem d_La_followHorse_60 : decode c_La_followHorse 60 = .ok (.invokevirtual 73, 3) := by decide +kernel
theorem d_La_followHorse_63 : decode c_La_followHorse 63 = .ok (.iload 4, 2) := by decide +kernel
theorem d_La_followHorse_65 : decode c_La_followHorse 65 = .ok (.iload 5, 2) := by decide +kernel
theorem d_La_followHorse_67 : decode c_La_followHorse 67 = .ok (.invokevirtual 113, 3) := by decide +kernel
theorem d_La_followHorse_70 : decode c_La_followHorse 70 = .ok (.ifCond .eq 7, 3) := by decide +kernel
theorem d_La_followHorse_73 : decode c_La_followHorse 73 = .ok (.iconst 1, 1) := by decide +kernel
theorem d_La_followHorse_74 : decode c_La_followHorse 74 = .ok (.goto 4, 3) := by decide +kernel
theorem d_La_followHorse_77 : decode c_La_followHorse 77 = .ok (.iconst 0, 1) := by decide +kernel
theorem d_La_followHorse_78 : decode c_La_followHorse 78 = .ok (.ireturn, 1) := by decide +kernel
theorem d_La_followOats_0 : decode c_La_followOats 0 = .ok (.iload_n 1, 1) := by decide +kernel
theorem d_La_followOats_1 : decode c_La_followOats 1 = .ok (.invokestatic 100, 3) := by decide +kernel
theorem d_La_followOats_4 : decode c_La_followOats 4 = .ok (.ifCond .ne 5, 3) := by decide +kernel
theorem d_La_followOats_7 : decode c_La_followOats 7 = .ok (.iconst 0, 1) := by decide +kernel
theorem d_La_followOats_8 : decode c_La_followOats 8 = .ok (.ireturn, 1) := by decide +kernel
theorem d_La_followOats_9 : decode c_La_followOats 9 = .ok (.aload_n 0, 1) := by decide +kernel
theorem d_La_followOats_10 : decode c_La_followOats 10 = .ok (.iload_n 1, 1) := by decide +kernel
theorem d_La_followOats_11 : decode c_La_followOats 11 = .ok (.putfield 28, 3) := by decide +kernel
theorem d_La_followOats_14 : decode c_La_followOats 14 = .ok (.iconst 1, 1) := by decide +kernel
theorem d_La_followOats_15 : decode c_La_followOats 15 = .ok (.ireturn, 1) := by decide +kernel
theorem d_La_followDays_0 : decode c_La_followDays 0 = .ok (.iload_n 1, 1) := by decide +kernel
theorem d_La_followDays_1 : decode c_La_followDays 1 = .ok (.iconst 1, 1) := by decide +kernel
theorem d_La_followDays_2 : decode c_La_followDays 2 = .ok (.bipush 60, 2) := by decide +kernel
theorem d_La_followDays_4 : decode c_La_followDays 4 = .ok (.invokestatic 117, 3) := by decide +kernel
theorem d_La_followDays_7 : decode c_La_followDays 7 = .ok (.ifCond .eq 11, 3) := by decide +kernel
theorem d_La_followDays_10 : decode c_La_followDays 10 = .ok (.aload_n 0, 1) := by decide +kernel
theorem d_La_followDays_11 : decode c_La_followDays 11 = .ok (.iload_n 1, 1) := by decide +kernel
theorem d_La_followDays_12 : decode c_La_followDays 12 = .ok (.invokevirtual 107, 3) := by decide +kernel
theorem d_La_followDays_15 : decode c_La_followDays 15 = .ok (.ifCond .ne 5, 3) := by decide +kernel
theorem d_La_followDays_18 : decode c_La_followDays 18 = .ok (.iconst 0, 1) := by decide +kernel
theorem d_La_followDays_19 : decode c_La_followDays 19 = .ok (.ireturn, 1) := by decide +kernel
theorem d_La_followDays_20 : decode c_La_followDays 20 = .ok (.aload_n 0, 1) := by decide +kernel
theorem d_La_followDays_21 : decode c_La_followDays 21 = .ok (.iload_n 1, 1) := by decide +kernel
theorem d_La_followDays_22 : decode c_La_followDays 22 = .ok (.invokevirtual 62, 3) := by decide +kernel
theorem d_La_followDays_25 : decode c_La_followDays 25 = .ok (.iconst 1, 1) := by decide +kernel
theorem d_La_followDays_26 : decode c_La_followDays 26 = .ok (.ireturn, 1) := by decide +kernel
theorem d_La_followLonging_0 : decode c_La_followLonging 0 = .ok (.iload_n 1, 1) := by decide +kernel
theorem d_La_followLonging_1 : decode c_La_followLonging 1 = .ok (.aload_n 0, 1) := by decide +kernel
theorem d_La_followLonging_2 : decode c_La_followLonging 2 = .ok (.getfield 24, 3) := by decide +kernel
theorem d_La_followLonging_5 : decode c_La_followLonging 5 = .ok (.if_icmp .lt 5, 3) := by decide +kernel
theorem d_La_followLonging_8 : decode c_La_followLonging 8 = .ok (.iconst 0, 1) := by decide +kernel
theorem d_La_followLonging_9 : decode c_La_followLonging 9 = .ok (.ireturn, 1) := by decide +kernel
theorem d_La_followLonging_10 : decode c_La_followLonging 10 = .ok (.aload_n 0, 1) := by decide +kernel
theorem d_La_followLonging_11 : decode c_La_followLonging 11 = .ok (.getfield 17, 3) := by decide +kernel
theorem d_La_followLonging_14 : decode c_La_followLonging 14 = .ok (.iload_n 1, 1) := by decide +kernel
theorem d_La_followLonging_15 : decode c_La_followLonging 15 = .ok (.aaload, 1) := by decide +kernel
theorem d_La_followLonging_16 : decode c_La_followLonging 16 = .ok (.iload_n 2, 1) := by decide +kernel
theorem d_La_followLonging_17 : decode c_La_followLonging 17 = .ok (.putfield 51, 3) := by decide +kernel
theorem d_La_followLonging_20 : decode c_La_followLonging 20 = .ok (.iconst 1, 1) := by decide +kernel
theorem d_La_followLonging_21 : decode c_La_followLonging 21 = .ok (.ireturn, 1) := by decide +kernel
theorem d_Ma_init_0 : decode c_Ma_init 0 = .ok (.aload_n 0, 1) := by decide +kernel
theorem d_Ma_init_1 : decode c_Ma_init 1 = .ok (.invokespecial 3, 3) := by decide +kernel
theorem d_Ma_init_4 : decode c_Ma_init 4 = .ok (.return_, 1) := by decide +kernel
theorem d_Ma_number_0 : decode c_Ma_number 0 = .ok (.bipush 6, 2) := by decide +kernel
theorem d_Ma_number_2 : decode c_Ma_number 2 = .ok (.ireturn, 1) := by decide +kernel
theorem d_Ma_goal_0 : decode c_Ma_goal 0 = .ok (.bipush 20, 2) := by decide +kernel
theorem d_Ma_goal_2 : decode c_Ma_goal 2 = .ok (.iload_n 1, 1) := by decide +kernel
theorem d_Ma_goal_3 : decode c_Ma_goal 3 = .ok (.isub, 1) := by decide +kernel
theorem d_Ma_goal_4 : decode c_Ma_goal 4 = .ok (.istore 4, 2) := by decide +kernel
theorem d_Ma_goal_6 : decode c_Ma_goal 6 = .ok (.iload 4, 2) := by decide +kernel
theorem d_Ma_goal_8 : decode c_Ma_goal 8 = .ok (.iload_n 2, 1) := by decide +kernel
theorem d_Ma_goal_9 : decode c_Ma_goal 9 = .ok (.isub, 1) := by decide +kernel
theorem d_Ma_goal_10 : decode c_Ma_goal 10 = .ok (.invokestatic 9, 3) := by decide +kernel
theorem d_Ma_goal_13 : decode c_Ma_goal 13 = .ok (.iload_n 1, 1) := by decide +kernel
theorem d_Ma_goal_14 : decode c_Ma_goal 14 = .ok (.iload_n 2, 1) := by decide +kernel
theorem d_Ma_goal_15 : decode c_Ma_goal 15 = .ok (.isub, 1) := by decide +kernel
theorem d_Ma_goal_16 : decode c_Ma_goal 16 = .ok (.invokestatic 9, 3) := by decide +kernel
theorem d_Ma_goal_19 : decode c_Ma_goal 19 = .ok (.if_icmp .le 8, 3) := by decide +kernel
theorem d_Ma_goal_22 : decode c_Ma_goal 22 = .ok (.iload 4, 2) := by decide +kernel
theorem d_Ma_goal_24 : decode c_Ma_goal 24 = .ok (.goto 4, 3) := by decide +kernel
theorem d_Ma_goal_27 : decode c_Ma_goal 27 = .ok (.iload_n 1, 1) := by decide +kernel
theorem d_Ma_goal_28 : decode c_Ma_goal 28 = .ok (.ireturn, 1) := by decide +kernel
theorem d_Ma_pines_0 : decode c_Ma_pines 0 = .ok (.aload_n 0, 1) := by decide +kernel
theorem d_Ma_pines_1 : decode c_Ma_pines 1 = .ok (.iload_n 1, 1) := by decide +kernel
theorem d_Ma_pines_2 : decode c_Ma_pines 2 = .ok (.iload_n 2, 1) := by decide +kernel
theorem d_Ma_pines_3 : decode c_Ma_pines 3 = .ok (.invokespecial 15, 3) := by decide +kernel
theorem d_Ma_pines_6 : decode c_Ma_pines 6 = .ok (.iconst 1, 1) := by decide +kernel
theorem d_Ma_pines_7 : decode c_Ma_pines 7 = .ok (.iadd, 1) := by decide +kernel
theorem d_Ma_pines_8 : decode c_Ma_pines 8 = .ok (.ireturn, 1) := by decide +kernel
theorem d_Ma_pace_0 : decode c_Ma_pace 0 = .ok (.aload_n 0, 1) := by decide +kernel
theorem d_Ma_pace_1 : decode c_Ma_pace 1 = .ok (.iload_n 1, 1) := by decide +kernel
theorem d_Ma_pace_2 : decode c_Ma_pace 2 = .ok (.iload_n 2, 1) := by decide +kernel
theorem d_Ma_pace_3 : decode c_Ma_pace 3 = .ok (.invokespecial 19, 3) := by decide +kernel
theorem d_Ma_pace_6 : decode c_Ma_pace 6 = .ok (.iload_n 1, 1) := by decide +kernel
theorem d_Ma_pace_7 : decode c_Ma_pace 7 = .ok (.iconst 3, 1) := by decide +kernel
theorem d_Ma_pace_8 : decode c_Ma_pace 8 = .ok (.idiv, 1) := by decide +kernel
theorem d_Ma_pace_9 : decode c_Ma_pace 9 = .ok (.iadd, 1) := by decide +kernel
theorem d_Ma_pace_10 : decode c_Ma_pace 10 = .ok (.ireturn, 1) := by decide +kernel
theorem d_Ma_walk_0 : decode c_Ma_walk 0 = .ok (.iconst 2, 1) := by decide +kernel
theorem d_Ma_walk_1 : decode c_Ma_walk 1 = .ok (.ireturn, 1) := by decide +kernel
theorem d_Ma_price_0 : decode c_Ma_price 0 = .ok (.aload_n 0, 1) := by decide +kernel
theorem d_Ma_price_1 : decode c_Ma_price 1 = .ok (.iload_n 1, 1) := by decide +kernel
theorem d_Ma_price_2 : decode c_Ma_price 2 = .ok (.invokespecial 22, 3) := by decide +kernel
theorem d_Ma_price_5 : decode c_Ma_price 5 = .ok (.iload_n 1, 1) := by decide +kernel
theorem d_Ma_price_6 : decode c_Ma_price 6 = .ok (.iadd, 1) := by decide +kernel
theorem d_Ma_price_7 : decode c_Ma_price 7 = .ok (.ireturn, 1) := by decide +kernel
theorem d_Ma_fail_0 : decode c_Ma_fail 0 = .ok (.iload_n 1, 1) := by decide +kernel
theorem d_Ma_fail_1 : decode c_Ma_fail 1 = .ok (.ifCond .eq 13, 3) := by decide +kernel
theorem d_Ma_fail_4 : decode c_Ma_fail 4 = .ok (.new 25, 3) := by decide +kernel
theorem d_Ma_fail_7 : decode c_Ma_fail 7 = .ok (.dup, 1) := by decide +kernel
theorem d_Ma_fail_8 : decode c_Ma_fail 8 = .ok (.ldc 27, 2) := by decide +kernel
theorem d_Ma_fail_10 : decode c_Ma_fail 10 = .ok (.invokespecial 29, 3) := by decide +kernel
theorem d_Ma_fail_13 : decode c_Ma_fail 13 = .ok (.athrow, 1) := by decide +kernel
theorem d_Ma_fail_14 : decode c_Ma_fail 14 = .ok (.return_, 1) := by decide +kernel
theorem d_Sh_init_0 : decode c_Sh_init 0 = .ok (.aload_n 0, 1) := by decide +kernel
theorem d_Sh_init_1 : decode c_Sh_init 1 = .ok (.invokespecial 3, 3) := by decide +kernel
theorem d_Sh_init_4 : decode c_Sh_init 4 = .ok (.aload_n 0, 1) := by decide +kernel
theorem d_Sh_init_5 : decode c_Sh_init 5 = .ok (.iconst 0, 1) := by decide +kernel
theorem d_Sh_init_6 : decode c_Sh_init 6 = .ok (.putfield 9, 3) := by decide +kernel
theorem d_Sh_init_9 : decode c_Sh_init 9 = .ok (.aload_n 0, 1) := by decide +kernel
theorem d_Sh_init_10 : decode c_Sh_init 10 = .ok (.aload_n 1, 1) := by decide +kernel
theorem d_Sh_init_11 : decode c_Sh_init 11 = .ok (.putfield 15, 3) := by decide +kernel
theorem d_Sh_init_14 : decode c_Sh_init 14 = .ok (.aload_n 0, 1) := by decide +kernel
theorem d_Sh_init_15 : decode c_Sh_init 15 = .ok (.bipush 100, 2) := by decide +kernel
theorem d_Sh_init_17 : decode c_Sh_init 17 = .ok (.newarray .int, 2) := by decide +kernel
theorem d_Sh_init_19 : decode c_Sh_init 19 = .ok (.putfield 19, 3) := by decide +kernel
theorem d_Sh_init_22 : decode c_Sh_init 22 = .ok (.return_, 1) := by decide +kernel
theorem d_Sh_getRow_0 : decode c_Sh_getRow 0 = .ok (.aload_n 0, 1) := by decide +kernel
theorem d_Sh_getRow_1 : decode c_Sh_getRow 1 = .ok (.iconst 2, 1) := by decide +kernel
theorem d_Sh_getRow_2 : decode c_Sh_getRow 2 = .ok (.putfield 9, 3) := by decide +kernel
theorem d_Sh_getRow_5 : decode c_Sh_getRow 5 = .ok (.aload_n 0, 1) := by decide +kernel
theorem d_Sh_getRow_6 : decode c_Sh_getRow 6 = .ok (.iload_n 1, 1) := by decide +kernel
theorem d_Sh_getRow_7 : decode c_Sh_getRow 7 = .ok (.putfield 23, 3) := by decide +kernel
theorem d_Sh_getRow_10 : decode c_Sh_getRow 10 = .ok (.aload_n 0, 1) := by decide +kernel
theorem d_Sh_getRow_11 : decode c_Sh_getRow 11 = .ok (.iload_n 2, 1) := by decide +kernel
theorem d_Sh_getRow_12 : decode c_Sh_getRow 12 = .ok (.putfield 26, 3) := by decide +kernel
theorem d_Sh_getRow_15 : decode c_Sh_getRow 15 = .ok (.iconst 0, 1) := by decide +kernel
theorem d_Sh_getRow_16 : decode c_Sh_getRow 16 = .ok (.istore_n 3, 1) := by decide +kernel
theorem d_Sh_getRow_17 : decode c_Sh_getRow 17 = .ok (.iload_n 3, 1) := by decide +kernel
theorem d_Sh_getRow_18 : decode c_Sh_getRow 18 = .ok (.bipush 100, 2) := by decide +kernel
theorem d_Sh_getRow_20 : decode c_Sh_getRow 20 = .ok (.if_icmp .ge 16, 3) := by decide +kernel
theorem d_Sh_getRow_23 : decode c_Sh_getRow 23 = .ok (.aload_n 0, 1) := by decide +kernel
theorem d_Sh_getRow_24 : decode c_Sh_getRow 24 = .ok (.getfield 19, 3) := by decide +kernel
theorem d_Sh_getRow_27 : decode c_Sh_getRow 27 = .ok (.iload_n 3, 1) := by decide +kernel
theorem d_Sh_getRow_28 : decode c_Sh_getRow 28 = .ok (.iconst 0, 1) := by decide +kernel
theorem d_Sh_getRow_29 : decode c_Sh_getRow 29 = .ok (.iastore, 1) := by decide +kernel
theorem d_Sh_getRow_30 : decode c_Sh_getRow 30 = .ok (.iinc 3 1, 3) := by decide +kernel
theorem d_Sh_getRow_33 : decode c_Sh_getRow 33 = .ok (.goto (-16), 3) := by decide +kernel
theorem d_Sh_getRow_36 : decode c_Sh_getRow 36 = .ok (.return_, 1) := by decide +kernel
theorem d_Sh_set_0 : decode c_Sh_set 0 = .ok (.aload_n 0, 1) := by decide +kernel
theorem d_Sh_set_1 : decode c_Sh_set 1 = .ok (.getfield 23, 3) := by decide +kernel
theorem d_Sh_set_4 : decode c_Sh_set 4 = .ok (.ifCond .ne 14, 3) := by decide +kernel
theorem d_Sh_set_7 : decode c_Sh_set 7 = .ok (.aload_n 0, 1) := by decide +kernel
theorem d_Sh_set_8 : decode c_Sh_set 8 = .ok (.getfield 19, 3) := by decide +kernel
theorem d_Sh_set_11 : decode c_Sh_set 11 = .ok (.iload_n 1, 1) := by decide +kernel
theorem d_Sh_set_12 : decode c_Sh_set 12 = .ok (.iload_n 2, 1) := by decide +kernel
theorem d_Sh_set_13 : decode c_Sh_set 13 = .ok (.i2b, 1) := by decide +kernel
theorem d_Sh_set_14 : decode c_Sh_set 14 = .ok (.iastore, 1) := by decide +kernel
theorem d_Sh_set_15 : decode c_Sh_set 15 = .ok (.goto 29, 3) := by decide +kernel
theorem d_Sh_set_18 : decode c_Sh_set 18 = .ok (.aload_n 0, 1) := by decide +kernel
theorem d_Sh_set_19 : decode c_Sh_set 19 = .ok (.getfield 23, 3) := by decide +kernel
theorem d_Sh_set_22 : decode c_Sh_set 22 = .ok (.iconst 1, 1) := by decide +kernel
theorem d_Sh_set_23 : decode c_Sh_set 23 = .ok (.if_icmp .ne 14, 3) := by decide +kernel
theorem d_Sh_set_26 : decode c_Sh_set 26 = .ok (.aload_n 0, 1) := by decide +kernel
theorem d_Sh_set_27 : decode c_Sh_set 27 = .ok (.getfield 19, 3) := by decide +kernel
theorem d_Sh_set_30 : decode c_Sh_set 30 = .ok (.iload_n 1, 1) := by decide +kernel
theorem d_Sh_set_31 : decode c_Sh_set 31 = .ok (.iload_n 2, 1) := by decide +kernel
theorem d_Sh_set_32 : decode c_Sh_set 32 = .ok (.i2s, 1) := by decide +kernel
theorem d_Sh_set_33 : decode c_Sh_set 33 = .ok (.iastore, 1) := by decide +kernel
theorem d_Sh_set_34 : decode c_Sh_set 34 = .ok (.goto 10, 3) := by decide +kernel
theorem d_Sh_set_37 : decode c_Sh_set 37 = .ok (.aload_n 0, 1) := by decide +kernel
theorem d_Sh_set_38 : decode c_Sh_set 38 = .ok (.getfield 19, 3) := by decide +kernel
theorem d_Sh_set_41 : decode c_Sh_set 41 = .ok (.iload_n 1, 1) := by decide +kernel
theorem d_Sh_set_42 : decode c_Sh_set 42 = .ok (.iload_n 2, 1) := by decide +kernel
theorem d_Sh_set_43 : decode c_Sh_set 43 = .ok (.iastore, 1) := by decide +kernel
theorem d_Sh_set_44 : decode c_Sh_set 44 = .ok (.return_, 1) := by decide +kernel
theorem d_Sh_hasPlaces_0 : decode c_Sh_hasPlaces 0 = .ok (.iload_n 2, 1) := by decide +kernel
theorem d_Sh_hasPlaces_1 : decode c_Sh_hasPlaces 1 = .ok (.ifCond .lt 21, 3) := by decide +kernel
theorem d_Sh_hasPlaces_4 : decode c_Sh_hasPlaces 4 = .ok (.iload_n 1, 1) := by decide +kernel
theorem d_Sh_hasPlaces_5 : decode c_Sh_hasPlaces 5 = .ok (.ifCond .lt 17, 3) := by decide +kernel
theorem d_Sh_hasPlaces_8 : decode c_Sh_hasPlaces 8 = .ok (.iload_n 1, 1) := by decide +kernel
theorem d_Sh_hasPlaces_9 : decode c_Sh_hasPlaces 9 = .ok (.aload_n 0, 1) := by decide +kernel
theorem d_Sh_hasPlaces_10 : decode c_Sh_hasPlaces 10 = .ok (.getfield 26, 3) := by decide +kernel
theorem d_Sh_hasPlaces_13 : decode c_Sh_hasPlaces 13 = .ok (.iload_n 2, 1) := by decide +kernel
theorem d_Sh_hasPlaces_14 : decode c_Sh_hasPlaces 14 = .ok (.isub, 1) := by decide +kernel
theorem d_Sh_hasPlaces_15 : decode c_Sh_hasPlaces 15 = .ok (.if_icmp .gt 7, 3) := by decide +kernel
theorem d_Sh_hasPlaces_18 : decode c_Sh_hasPlaces 18 = .ok (.iconst 1, 1) := by decide +kernel
theorem d_Sh_hasPlaces_19 : decode c_Sh_hasPlaces 19 = .ok (.goto 4, 3) := by decide +kernel
theorem d_Sh_hasPlaces_22 : decode c_Sh_hasPlaces 22 = .ok (.iconst 0, 1) := by decide +kernel
theorem d_Sh_hasPlaces_23 : decode c_Sh_hasPlaces 23 = .ok (.ireturn, 1) := by decide +kernel
theorem d_Sh_tells_0 : decode c_Sh_tells 0 = .ok (.aload_n 0, 1) := by decide +kernel
theorem d_Sh_tells_1 : decode c_Sh_tells 1 = .ok (.getfield 19, 3) := by decide +kernel
theorem d_Sh_tells_4 : decode c_Sh_tells 4 = .ok (.iload_n 1, 1) := by decide +kernel
theorem d_Sh_tells_5 : decode c_Sh_tells 5 = .ok (.iaload, 1) := by decide +kernel
theorem d_Sh_tells_6 : decode c_Sh_tells 6 = .ok (.iload_n 2, 1) := by decide +kernel
theorem d_Sh_tells_7 : decode c_Sh_tells 7 = .ok (.if_icmp .eq 16, 3) := by decide +kernel
theorem d_Sh_tells_10 : decode c_Sh_tells 10 = .ok (.aload_n 0, 1) := by decide +kernel
theorem d_Sh_tells_11 : decode c_Sh_tells 11 = .ok (.getfield 19, 3) := by decide +kernel
theorem d_Sh_tells_14 : decode c_Sh_tells 14 = .ok (.iload_n 1, 1) := by decide +kernel
theorem d_Sh_tells_15 : decode c_Sh_tells 15 = .ok (.iaload, 1) := by decide +kernel
theorem d_Sh_tells_16 : decode c_Sh_tells 16 = .ok (.aload_n 0, 1) := by decide +kernel
theorem d_Sh_tells_17 : decode c_Sh_tells 17 = .ok (.invokevirtual 29, 3) := by decide +kernel
theorem d_Sh_tells_20 : decode c_Sh_tells 20 = .ok (.if_icmp .ne 7, 3) := by decide +kernel
theorem d_Sh_tells_23 : decode c_Sh_tells 23 = .ok (.iconst 1, 1) := by decide +kernel
theorem d_Sh_tells_24 : decode c_Sh_tells 24 = .ok (.goto 4, 3) := by decide +kernel
theorem d_Sh_tells_27 : decode c_Sh_tells 27 = .ok (.iconst 0, 1) := by decide +kernel
theorem d_Sh_tells_28 : decode c_Sh_tells 28 = .ok (.ireturn, 1) := by decide +kernel
theorem d_Sh_leastOfSort_0 : decode c_Sh_leastOfSort 0 = .ok (.aload_n 0, 1) := by decide +kernel
theorem d_Sh_leastOfSort_1 : decode c_Sh_leastOfSort 1 = .ok (.getfield 23, 3) := by decide +kernel
theorem d_Sh_leastOfSort_4 : decode c_Sh_leastOfSort 4 = .ok (.ifCond .ne 6, 3) := by decide +kernel
theorem d_Sh_leastOfSort_7 : decode c_Sh_leastOfSort 7 = .ok (.bipush (-128), 2) := by decide +kernel
theorem d_Sh_leastOfSort_9 : decode c_Sh_leastOfSort 9 = .ok (.ireturn, 1) := by decide +kernel
theorem d_Sh_leastOfSort_10 : decode c_Sh_leastOfSort 10 = .ok (.aload_n 0, 1) := by decide +kernel
theorem d_Sh_leastOfSort_11 : decode c_Sh_leastOfSort 11 = .ok (.getfield 23, 3) := by decide +kernel
theorem d_Sh_leastOfSort_14 : decode c_Sh_leastOfSort 14 = .ok (.iconst 1, 1) := by decide +kernel
theorem d_Sh_leastOfSort_15 : decode c_Sh_leastOfSort 15 = .ok (.if_icmp .ne 9, 3) := by decide +kernel
theorem d_Sh_leastOfSort_18 : decode c_Sh_leastOfSort 18 = .ok (.sipush (-32768), 3) := by decide +kernel
theorem d_Sh_leastOfSort_21 : decode c_Sh_leastOfSort 21 = .ok (.goto 5, 3) := by decide +kernel
theorem d_Sh_leastOfSort_24 : decode c_Sh_leastOfSort 24 = .ok (.ldc 33, 2) := by decide +kernel
theorem d_Sh_leastOfSort_26 : decode c_Sh_leastOfSort 26 = .ok (.ireturn, 1) := by decide +kernel
theorem d_Sh_digit_0 : decode c_Sh_digit 0 = .ok (.aload_n 0, 1) := by decide +kernel
theorem d_Sh_digit_1 : decode c_Sh_digit 1 = .ok (.getfield 19, 3) := by decide +kernel
theorem d_Sh_digit_4 : decode c_Sh_digit 4 = .ok (.iload_n 1, 1) := by decide +kernel
theorem d_Sh_digit_5 : decode c_Sh_digit 5 = .ok (.iaload, 1) := by decide +kernel
theorem d_Sh_digit_6 : decode c_Sh_digit 6 = .ok (.bipush 48, 2) := by decide +kernel
theorem d_Sh_digit_8 : decode c_Sh_digit 8 = .ok (.isub, 1) := by decide +kernel
theorem d_Sh_digit_9 : decode c_Sh_digit 9 = .ok (.ireturn, 1) := by decide +kernel
theorem d_Sh_number_0 : decode c_Sh_number 0 = .ok (.bipush 10, 2) := by decide +kernel
theorem d_Sh_number_2 : decode c_Sh_number 2 = .ok (.aload_n 0, 1) := by decide +kernel
theorem d_Sh_number_3 : decode c_Sh_number 3 = .ok (.iload_n 1, 1) := by decide +kernel
theorem d_Sh_number_4 : decode c_Sh_number 4 = .ok (.invokevirtual 34, 3) := by decide +kernel
theorem d_Sh_number_7 : decode c_Sh_number 7 = .ok (.imul, 1) := by decide +kernel
theorem d_Sh_number_8 : decode c_Sh_number 8 = .ok (.aload_n 0, 1) := by decide +kernel
theorem d_Sh_number_9 : decode c_Sh_number 9 = .ok (.iload_n 1, 1) := by decide +kernel
theorem d_Sh_number_10 : decode c_Sh_number 10 = .ok (.iconst 1, 1) := by decide +kernel
theorem d_Sh_number_11 : decode c_Sh_number 11 = .ok (.iadd, 1) := by decide +kernel
theorem d_Sh_number_12 : decode c_Sh_number 12 = .ok (.invokevirtual 34, 3) := by decide +kernel
theorem d_Sh_number_15 : decode c_Sh_number 15 = .ok (.iadd, 1) := by decide +kernel
theorem d_Sh_number_16 : decode c_Sh_number 16 = .ok (.ireturn, 1) := by decide +kernel
theorem d_St_init_0 : decode c_St_init 0 = .ok (.aload_n 0, 1) := by decide +kernel
theorem d_St_init_1 : decode c_St_init 1 = .ok (.invokespecial 3, 3) := by decide +kernel
theorem d_St_init_4 : decode c_St_init 4 = .ok (.aload_n 0, 1) := by decide +kernel
theorem d_St_init_5 : decode c_St_init 5 = .ok (.aload_n 1, 1) := by decide +kernel
theorem d_St_init_6 : decode c_St_init 6 = .ok (.putfield 9, 3) := by decide +kernel
theorem d_St_init_9 : decode c_St_init 9 = .ok (.return_, 1) := by decide +kernel
theorem d_St_become_0 : decode c_St_become 0 = .ok (.aload_n 0, 1) := by decide +kernel
theorem d_St_become_1 : decode c_St_become 1 = .ok (.aload_n 1, 1) := by decide +kernel
theorem d_St_become_2 : decode c_St_become 2 = .ok (.getfield 9, 3) := by decide +kernel
theorem d_St_become_5 : decode c_St_become 5 = .ok (.putfield 9, 3) := by decide +kernel
theorem d_St_become_8 : decode c_St_become 8 = .ok (.aload_n 0, 1) := by decide +kernel
theorem d_St_become_9 : decode c_St_become 9 = .ok (.aload_n 1, 1) := by decide +kernel
theorem d_St_become_10 : decode c_St_become 10 = .ok (.getfield 15, 3) := by decide +kernel
theorem d_St_become_13 : decode c_St_become 13 = .ok (.putfield 15, 3) := by decide +kernel
theorem d_St_become_16 : decode c_St_become 16 = .ok (.aload_n 0, 1) := by decide +kernel
theorem d_St_become_17 : decode c_St_become 17 = .ok (.aload_n 1, 1) := by decide +kernel
theorem d_St_become_18 : decode c_St_become 18 = .ok (.getfield 19, 3) := by decide +kernel
theorem d_St_become_21 : decode c_St_become 21 = .ok (.putfield 19, 3) := by decide +kernel
theorem d_St_become_24 : decode c_St_become 24 = .ok (.aload_n 0, 1) := by decide +kernel
theorem d_St_become_25 : decode c_St_become 25 = .ok (.aload_n 1, 1) := by decide +kernel
theorem d_St_become_26 : decode c_St_become 26 = .ok (.getfield 22, 3) := by decide +kernel
theorem d_St_become_29 : decode c_St_become 29 = .ok (.putfield 22, 3) := by decide +kernel
theorem d_St_become_32 : decode c_St_become 32 = .ok (.aload_n 0, 1) := by decide +kernel
theorem d_St_become_33 : decode c_St_become 33 = .ok (.aload_n 1, 1) := by decide +kernel
theorem d_St_become_34 : decode c_St_become 34 = .ok (.getfield 25, 3) := by decide +kernel
theorem d_St_become_37 : decode c_St_become 37 = .ok (.putfield 25, 3) := by decide +kernel
theorem d_St_become_40 : decode c_St_become 40 = .ok (.return_, 1) := by decide +kernel
theorem d_St_goal_0 : decode c_St_goal 0 = .ok (.aload_n 0, 1) := by decide +kernel
theorem d_St_goal_1 : decode c_St_goal 1 = .ok (.getfield 9, 3) := by decide +kernel
theorem d_St_goal_4 : decode c_St_goal 4 = .ok (.aload_n 0, 1) := by decide +kernel
theorem d_St_goal_5 : decode c_St_goal 5 = .ok (.getfield 19, 3) := by decide +kernel
theorem d_St_goal_8 : decode c_St_goal 8 = .ok (.aload_n 0, 1) := by decide +kernel
theorem d_St_goal_9 : decode c_St_goal 9 = .ok (.getfield 22, 3) := by decide +kernel
theorem d_St_goal_12 : decode c_St_goal 12 = .ok (.iload_n 1, 1) := by decide +kernel
theorem d_St_goal_13 : decode c_St_goal 13 = .ok (.invokevirtual 28, 3) := by decide +kernel
theorem d_St_goal_16 : decode c_St_goal 16 = .ok (.ireturn, 1) := by decide +kernel
theorem d_St_pace_0 : decode c_St_pace 0 = .ok (.aload_n 0, 1) := by decide +kernel
theorem d_St_pace_1 : decode c_St_pace 1 = .ok (.getfield 9, 3) := by decide +kernel
theorem d_St_pace_4 : decode c_St_pace 4 = .ok (.aload_n 0, 1) := by decide +kernel
theorem d_St_pace_5 : decode c_St_pace 5 = .ok (.getfield 15, 3) := by decide +kernel
theorem d_St_pace_8 : decode c_St_pace 8 = .ok (.aload_n 0, 1) := by decide +kernel
theorem d_St_pace_9 : decode c_St_pace 9 = .ok (.getfield 25, 3) := by decide +kernel
theorem d_St_pace_12 : decode c_St_pace 12 = .ok (.invokevirtual 34, 3) := by decide +kernel
theorem d_St_pace_15 : decode c_St_pace 15 = .ok (.ireturn, 1) := by decide +kernel
theorem d_St_rests_0 : decode c_St_rests 0 = .ok (.aload_n 0, 1) := by decide +kernel
theorem d_St_rests_1 : decode c_St_rests 1 = .ok (.getfield 22, 3) := by decide +kernel
theorem d_St_rests_4 : decode c_St_rests 4 = .ok (.aload_n 0, 1) := by decide +kernel
theorem d_St_rests_5 : decode c_St_rests 5 = .ok (.iload_n 1, 1) := by decide +kernel
theorem d_St_rests_6 : decode c_St_rests 6 = .ok (.invokevirtual 38, 3) := by decide +kernel
theorem d_St_rests_9 : decode c_St_rests 9 = .ok (.if_icmp .ne 7, 3) := by decide +kernel
theorem d_St_rests_12 : decode c_St_rests 12 = .ok (.iconst 1, 1) := by decide +kernel
theorem d_St_rests_13 : decode c_St_rests 13 = .ok (.goto 4, 3) := by decide +kernel
theorem d_St_rests_16 : decode c_St_rests 16 = .ok (.iconst 0, 1) := by decide +kernel
theorem d_St_rests_17 : decode c_St_rests 17 = .ok (.ireturn, 1) := by decide +kernel
theorem d_St_pine_0 : decode c_St_pine 0 = .ok (.aload_n 0, 1) := by decide +kernel
theorem d_St_pine_1 : decode c_St_pine 1 = .ok (.getfield 9, 3) := by decide +kernel
theorem d_St_pine_4 : decode c_St_pine 4 = .ok (.aload_n 0, 1) := by decide +kernel
theorem d_St_pine_5 : decode c_St_pine 5 = .ok (.getfield 19, 3) := by decide +kernel
theorem d_St_pine_8 : decode c_St_pine 8 = .ok (.aload_n 0, 1) := by decide +kernel
theorem d_St_pine_9 : decode c_St_pine 9 = .ok (.getfield 22, 3) := by decide +kernel
theorem d_St_pine_12 : decode c_St_pine 12 = .ok (.iload_n 1, 1) := by decide +kernel
theorem d_St_pine_13 : decode c_St_pine 13 = .ok (.invokevirtual 28, 3) := by decide +kernel
theorem d_St_pine_16 : decode c_St_pine 16 = .ok (.aload_n 0, 1) := by decide +kernel
theorem d_St_pine_17 : decode c_St_pine 17 = .ok (.getfield 22, 3) := by decide +kernel
theorem d_St_pine_20 : decode c_St_pine 20 = .ok (.isub, 1) := by decide +kernel
theorem d_St_pine_21 : decode c_St_pine 21 = .ok (.invokestatic 41, 3) := by decide +kernel
theorem d_St_pine_24 : decode c_St_pine 24 = .ok (.istore_n 2, 1) := by decide +kernel
theorem d_St_pine_25 : decode c_St_pine 25 = .ok (.aload_n 0, 1) := by decide +kernel
theorem d_St_pine_26 : decode c_St_pine 26 = .ok (.iload_n 2, 1) := by decide +kernel
theorem d_St_pine_27 : decode c_St_pine 27 = .ok (.ifCond .ne 12, 3) := by decide +kernel
theorem d_St_pine_30 : decode c_St_pine 30 = .ok (.aload_n 0, 1) := by decide +kernel
theorem d_St_pine_31 : decode c_St_pine 31 = .ok (.getfield 25, 3) := by decide +kernel
theorem d_St_pine_34 : decode c_St_pine 34 = .ok (.iconst 2, 1) := by decide +kernel
theorem d_St_pine_35 : decode c_St_pine 35 = .ok (.idiv, 1) := by decide +kernel
theorem d_St_pine_36 : decode c_St_pine 36 = .ok (.goto 25, 3) := by decide +kernel
theorem d_St_pine_39 : decode c_St_pine 39 = .ok (.bipush 99, 2) := by decide +kernel
theorem d_St_pine_41 : decode c_St_pine 41 = .ok (.aload_n 0, 1) := by decide +kernel
theorem d_St_pine_42 : decode c_St_pine 42 = .ok (.getfield 25, 3) := by decide +kernel
theorem d_St_pine_45 : decode c_St_pine 45 = .ok (.aload_n 0, 1) := by decide +kernel
theorem d_St_pine_46 : decode c_St_pine 46 = .ok (.getfield 9, 3) := by decide +kernel
theorem d_St_pine_49 : decode c_St_pine 49 = .ok (.aload_n 0, 1) := by decide +kernel
theorem d_St_pine_50 : decode c_St_pine 50 = .ok (.getfield 15, 3) := by decide +kernel
theorem d_St_pine_53 : decode c_St_pine 53 = .ok (.iload_n 2, 1) := by decide +kernel
theorem d_St_pine_54 : decode c_St_pine 54 = .ok (.invokevirtual 46, 3) := by decide +kernel
theorem d_St_pine_57 : decode c_St_pine 57 = .ok (.iadd, 1) := by decide +kernel
theorem d_St_pine_58 : decode c_St_pine 58 = .ok (.invokestatic 49, 3) := by decide +kernel
theorem d_St_pine_61 : decode c_St_pine 61 = .ok (.putfield 25, 3) := by decide +kernel
theorem d_St_pine_64 : decode c_St_pine 64 = .ok (.return_, 1) := by decide +kernel
theorem d_St_stay_0 : decode c_St_stay 0 = .ok (.iconst 0, 1) := by decide +kernel
theorem d_St_stay_1 : decode c_St_stay 1 = .ok (.istore_n 3, 1) := by decide +kernel
theorem d_St_stay_2 : decode c_St_stay 2 = .ok (.iload_n 3, 1) := by decide +kernel
theorem d_St_stay_3 : decode c_St_stay 3 = .ok (.iload_n 1, 1) := by decide +kernel
theorem d_St_stay_4 : decode c_St_stay 4 = .ok (.if_icmp .ge 14, 3) := by decide +kernel
theorem d_St_stay_7 : decode c_St_stay 7 = .ok (.aload_n 0, 1) := by decide +kernel
theorem d_St_stay_8 : decode c_St_stay 8 = .ok (.iload_n 2, 1) := by decide +kernel
theorem d_St_stay_9 : decode c_St_stay 9 = .ok (.invokevirtual 52, 3) := by decide +kernel
theorem d_St_stay_12 : decode c_St_stay 12 = .ok (.iinc 3 1, 3) := by decide +kernel
theorem d_St_stay_15 : decode c_St_stay 15 = .ok (.goto (-13), 3) := by decide +kernel
theorem d_St_stay_18 : decode c_St_stay 18 = .ok (.return_, 1) := by decide +kernel
theorem d_St_move_0 : decode c_St_move 0 = .ok (.iload_n 1, 1) := by decide +kernel
theorem d_St_move_1 : decode c_St_move 1 = .ok (.aload_n 0, 1) := by decide +kernel
theorem d_St_move_2 : decode c_St_move 2 = .ok (.getfield 22, 3) := by decide +kernel
theorem d_St_move_5 : decode c_St_move 5 = .ok (.invokestatic 56, 3) := by decide +kernel
theorem d_St_move_8 : decode c_St_move 8 = .ok (.istore_n 3, 1) := by decide +kernel
theorem d_St_move_9 : decode c_St_move 9 = .ok (.iload_n 3, 1) := by decide +kernel
theorem d_St_move_10 : decode c_St_move 10 = .ok (.aload_n 0, 1) := by decide +kernel
theorem d_St_move_11 : decode c_St_move 11 = .ok (.getfield 9, 3) := by decide +kernel
theorem d_St_move_14 : decode c_St_move 14 = .ok (.aload_n 0, 1) := by decide +kernel
theorem d_St_move_15 : decode c_St_move 15 = .ok (.getfield 19, 3) := by decide +kernel
theorem d_St_move_18 : decode c_St_move 18 = .ok (.aload_n 0, 1) := by decide +kernel
theorem d_St_move_19 : decode c_St_move 19 = .ok (.getfield 22, 3) := by decide +kernel
theorem d_St_move_22 : decode c_St_move 22 = .ok (.iload_n 2, 1) := by decide +kernel
theorem d_St_move_23 : decode c_St_move 23 = .ok (.invokevirtual 28, 3) := by decide +kernel
theorem d_St_move_26 : decode c_St_move 26 = .ok (.aload_n 0, 1) := by decide +kernel
theorem d_St_move_27 : decode c_St_move 27 = .ok (.getfield 22, 3) := by decide +kernel
theorem d_St_move_30 : decode c_St_move 30 = .ok (.isub, 1) := by decide +kernel
theorem d_St_move_31 : decode c_St_move 31 = .ok (.imul, 1) := by decide +kernel
theorem d_St_move_32 : decode c_St_move 32 = .ok (.istore 4, 2) := by decide +kernel
theorem d_St_move_34 : decode c_St_move 34 = .ok (.iload 4, 2) := by decide +kernel
theorem d_St_move_36 : decode c_St_move 36 = .ok (.ifCond .le 26, 3) := by decide +kernel
theorem d_St_move_39 : decode c_St_move 39 = .ok (.aload_n 0, 1) := by decide +kernel
theorem d_St_move_40 : decode c_St_move 40 = .ok (.getfield 9, 3) := by decide +kernel
theorem d_St_move_43 : decode c_St_move 43 = .ok (.aload_n 0, 1) := by decide +kernel
theorem d_St_move_44 : decode c_St_move 44 = .ok (.getfield 15, 3) := by decide +kernel
theorem d_St_move_47 : decode c_St_move 47 = .ok (.aload_n 0, 1) := by decide +kernel
theorem d_St_move_48 : decode c_St_move 48 = .ok (.getfield 25, 3) := by decide +kernel
theorem d_St_move_51 : decode c_St_move 51 = .ok (.invokevirtual 34, 3) := by decide +kernel
theorem d_St_move_54 : decode c_St_move 54 = .ok (.iload 4, 2) := by decide +kernel
theorem d_St_move_56 : decode c_St_move 56 = .ok (.invokestatic 49, 3) := by decide +kernel
theorem d_St_move_59 : decode c_St_move 59 = .ok (.goto 10, 3) := by decide +kernel
theorem d_St_move_62 : decode c_St_move 62 = .ok (.aload_n 0, 1) := by decide +kernel
theorem d_St_move_63 : decode c_St_move 63 = .ok (.getfield 9, 3) := by decide +kernel
theorem d_St_move_66 : decode c_St_move 66 = .ok (.invokevirtual 61, 3) := by decide +kernel
theorem d_St_move_69 : decode c_St_move 69 = .ok (.istore 5, 2) := by decide +kernel
theorem d_St_move_71 : decode c_St_move 71 = .ok (.aload_n 0, 1) := by decide +kernel
theorem d_St_move_72 : decode c_St_move 72 = .ok (.dup, 1) := by decide +kernel
theorem d_St_move_73 : decode c_St_move 73 = .ok (.getfield 22, 3) := by decide +kernel
theorem d_St_move_76 : decode c_St_move 76 = .ok (.iload_n 3, 1) := by decide +kernel
theorem d_St_move_77 : decode c_St_move 77 = .ok (.iload 5, 2) := by decide +kernel
theorem d_St_move_79 : decode c_St_move 79 = .ok (.iload_n 1, 1) := by decide +kernel
theorem d_St_move_80 : decode c_St_move 80 = .ok (.aload_n 0, 1) := by decide +kernel
theorem d_St_move_81 : decode c_St_move 81 = .ok (.getfield 22, 3) := by decide +kernel
theorem d_St_move_84 : decode c_St_move 84 = .ok (.isub, 1) := by decide +kernel
theorem d_St_move_85 : decode c_St_move 85 = .ok (.invokestatic 41, 3) := by decide +kernel
theorem d_St_move_88 : decode c_St_move 88 = .ok (.invokestatic 49, 3) := by decide +kernel
theorem d_St_move_91 : decode c_St_move 91 = .ok (.imul, 1) := by decide +kernel
theorem d_St_move_92 : decode c_St_move 92 = .ok (.iadd, 1) := by decide +kernel
theorem d_St_move_93 : decode c_St_move 93 = .ok (.putfield 22, 3) := by decide +kernel
theorem d_St_move_96 : decode c_St_move 96 = .ok (.return_, 1) := by decide +kernel
theorem d_St_ride_0 : decode c_St_ride 0 = .ok (.iconst 0, 1) := by decide +kernel
theorem d_St_ride_1 : decode c_St_ride 1 = .ok (.istore_n 3, 1) := by decide +kernel
theorem d_St_ride_2 : decode c_St_ride 2 = .ok (.aload_n 0, 1) := by decide +kernel
theorem d_St_ride_3 : decode c_St_ride 3 = .ok (.getfield 22, 3) := by decide +kernel
theorem d_St_ride_6 : decode c_St_ride 6 = .ok (.iload_n 1, 1) := by decide +kernel
theorem d_St_ride_7 : decode c_St_ride 7 = .ok (.if_icmp .eq 26, 3) := by decide +kernel
theorem d_St_ride_10 : decode c_St_ride 10 = .ok (.iload_n 3, 1) := by decide +kernel
theorem d_St_ride_11 : decode c_St_ride 11 = .ok (.bipush 21, 2) := by decide +kernel
theorem d_St_ride_13 : decode c_St_ride 13 = .ok (.if_icmp .ge 20, 3) := by decide +kernel
theorem d_St_ride_16 : decode c_St_ride 16 = .ok (.aload_n 0, 1) := by decide +kernel
theorem d_St_ride_17 : decode c_St_ride 17 = .ok (.iload_n 1, 1) := by decide +kernel
theorem d_St_ride_18 : decode c_St_ride 18 = .ok (.iload_n 2, 1) := by decide +kernel
theorem d_St_ride_19 : decode c_St_ride 19 = .ok (.invokevirtual 65, 3) := by decide +kernel
theorem d_St_ride_22 : decode c_St_ride 22 = .ok (.aload_n 0, 1) := by decide +kernel
theorem d_St_ride_23 : decode c_St_ride 23 = .ok (.iload_n 2, 1) := by decide +kernel
theorem d_St_ride_24 : decode c_St_ride 24 = .ok (.invokevirtual 52, 3) := by decide +kernel
theorem d_St_ride_27 : decode c_St_ride 27 = .ok (.iinc 3 1, 3) := by decide +kernel
theorem d_St_ride_30 : decode c_St_ride 30 = .ok (.goto (-28), 3) := by decide +kernel
theorem d_St_ride_33 : decode c_St_ride 33 = .ok (.iload_n 3, 1) := by decide +kernel
theorem d_St_ride_34 : decode c_St_ride 34 = .ok (.ireturn, 1) := by decide +kernel
theorem d_Tw_init_0 : decode c_Tw_init 0 = .ok (.aload_n 0, 1) := by decide +kernel
theorem d_Tw_init_1 : decode c_Tw_init 1 = .ok (.invokespecial 3, 3) := by decide +kernel
theorem d_Tw_init_4 : decode c_Tw_init 4 = .ok (.return_, 1) := by decide +kernel
theorem d_Tw_number_0 : decode c_Tw_number 0 = .ok (.iconst 3, 1) := by decide +kernel
theorem d_Tw_number_1 : decode c_Tw_number 1 = .ok (.ireturn, 1) := by decide +kernel
theorem d_Tw_goal_0 : decode c_Tw_goal 0 = .ok (.bipush 20, 2) := by decide +kernel
theorem d_Tw_goal_2 : decode c_Tw_goal 2 = .ok (.iload_n 1, 1) := by decide +kernel
theorem d_Tw_goal_3 : decode c_Tw_goal 3 = .ok (.isub, 1) := by decide +kernel
theorem d_Tw_goal_4 : decode c_Tw_goal 4 = .ok (.istore 4, 2) := by decide +kernel
theorem d_Tw_goal_6 : decode c_Tw_goal 6 = .ok (.iload 4, 2) := by decide +kernel
theorem d_Tw_goal_8 : decode c_Tw_goal 8 = .ok (.iload_n 2, 1) := by decide +kernel
theorem d_Tw_goal_9 : decode c_Tw_goal 9 = .ok (.isub, 1) := by decide +kernel
theorem d_Tw_goal_10 : decode c_Tw_goal 10 = .ok (.invokestatic 9, 3) := by decide +kernel
theorem d_Tw_goal_13 : decode c_Tw_goal 13 = .ok (.iload_n 1, 1) := by decide +kernel
theorem d_Tw_goal_14 : decode c_Tw_goal 14 = .ok (.iload_n 2, 1) := by decide +kernel
theorem d_Tw_goal_15 : decode c_Tw_goal 15 = .ok (.isub, 1) := by decide +kernel
theorem d_Tw_goal_16 : decode c_Tw_goal 16 = .ok (.invokestatic 9, 3) := by decide +kernel
theorem d_Tw_goal_19 : decode c_Tw_goal 19 = .ok (.if_icmp .ge 8, 3) := by decide +kernel
theorem d_Tw_goal_22 : decode c_Tw_goal 22 = .ok (.iload 4, 2) := by decide +kernel
theorem d_Tw_goal_24 : decode c_Tw_goal 24 = .ok (.goto 4, 3) := by decide +kernel
theorem d_Tw_goal_27 : decode c_Tw_goal 27 = .ok (.iload_n 1, 1) := by decide +kernel
theorem d_Tw_goal_28 : decode c_Tw_goal 28 = .ok (.ireturn, 1) := by decide +kernel
theorem d_Tw_price_0 : decode c_Tw_price 0 = .ok (.iconst 2, 1) := by decide +kernel
theorem d_Tw_price_1 : decode c_Tw_price 1 = .ok (.aload_n 0, 1) := by decide +kernel
theorem d_Tw_price_2 : decode c_Tw_price 2 = .ok (.iload_n 1, 1) := by decide +kernel
theorem d_Tw_price_3 : decode c_Tw_price 3 = .ok (.invokespecial 15, 3) := by decide +kernel
theorem d_Tw_price_6 : decode c_Tw_price 6 = .ok (.imul, 1) := by decide +kernel
theorem d_Tw_price_7 : decode c_Tw_price 7 = .ok (.ireturn, 1) := by decide +kernel
theorem d_Tw_fail_0 : decode c_Tw_fail 0 = .ok (.iload_n 1, 1) := by decide +kernel
theorem d_Tw_fail_1 : decode c_Tw_fail 1 = .ok (.ifCond .eq 13, 3) := by decide +kernel
theorem d_Tw_fail_4 : decode c_Tw_fail 4 = .ok (.new 18, 3) := by decide +kernel
theorem d_Tw_fail_7 : decode c_Tw_fail 7 = .ok (.dup, 1) := by decide +kernel
theorem d_Tw_fail_8 : decode c_Tw_fail 8 = .ok (.ldc 20, 2) := by decide +kernel
theorem d_Tw_fail_10 : decode c_Tw_fail 10 = .ok (.invokespecial 22, 3) := by decide +kernel
theorem d_Tw_fail_13 : decode c_Tw_fail 13 = .ok (.athrow, 1) := by decide +kernel
theorem d_Tw_fail_14 : decode c_Tw_fail 14 = .ok (.return_, 1) := by decide +kernel
theorem d_Hb_init_0 : decode c_Hb_init 0 = .ok (.aload_n 0, 1) := by decide +kernel
theorem d_Hb_init_1 : decode c_Hb_init 1 = .ok (.invokespecial 1, 3) := by decide +kernel
theorem d_Hb_init_4 : decode c_Hb_init 4 = .ok (.aload_n 0, 1) := by decide +kernel
theorem d_Hb_init_5 : decode c_Hb_init 5 = .ok (.bipush 8, 2) := by decide +kernel
theorem d_Hb_init_7 : decode c_Hb_init 7 = .ok (.anewarray 7, 3) := by decide +kernel
theorem d_Hb_init_10 : decode c_Hb_init 10 = .ok (.dup, 1) := by decide +kernel
theorem d_Hb_init_11 : decode c_Hb_init 11 = .ok (.iconst 0, 1) := by decide +kernel
theorem d_Hb_init_12 : decode c_Hb_init 12 = .ok (.new 7, 3) := by decide +kernel
theorem d_Hb_init_15 : decode c_Hb_init 15 = .ok (.dup, 1) := by decide +kernel
theorem d_Hb_init_16 : decode c_Hb_init 16 = .ok (.invokespecial 9, 3) := by decide +kernel
theorem d_Hb_init_19 : decode c_Hb_init 19 = .ok (.aastore, 1) := by decide +kernel
theorem d_Hb_init_20 : decode c_Hb_init 20 = .ok (.dup, 1) := by decide +kernel
theorem d_Hb_init_21 : decode c_Hb_init 21 = .ok (.iconst 1, 1) := by decide +kernel
theorem d_Hb_init_22 : decode c_Hb_init 22 = .ok (.new 10, 3) := by decide +kernel
theorem d_Hb_init_25 : decode c_Hb_init 25 = .ok (.dup, 1) := by decide +kernel
theorem d_Hb_init_26 : decode c_Hb_init 26 = .ok (.invokespecial 12, 3) := by decide +kernel
theorem d_Hb_init_29 : decode c_Hb_init 29 = .ok (.aastore, 1) := by decide +kernel
theorem d_Hb_init_30 : decode c_Hb_init 30 = .ok (.dup, 1) := by decide +kernel
theorem d_Hb_init_31 : decode c_Hb_init 31 = .ok (.iconst 2, 1) := by decide +kernel
theorem d_Hb_init_32 : decode c_Hb_init 32 = .ok (.new 13, 3) := by decide +kernel
theorem d_Hb_init_35 : decode c_Hb_init 35 = .ok (.dup, 1) := by decide +kernel
theorem d_Hb_init_36 : decode c_Hb_init 36 = .ok (.invokespecial 15, 3) := by decide +kernel
theorem d_Hb_init_39 : decode c_Hb_init 39 = .ok (.aastore, 1) := by decide +kernel
theorem d_Hb_init_40 : decode c_Hb_init 40 = .ok (.dup, 1) := by decide +kernel
theorem d_Hb_init_41 : decode c_Hb_init 41 = .ok (.iconst 3, 1) := by decide +kernel
theorem d_Hb_init_42 : decode c_Hb_init 42 = .ok (.new 16, 3) := by decide +kernel
theorem d_Hb_init_45 : decode c_Hb_init 45 = .ok (.dup, 1) := by decide +kernel
theorem d_Hb_init_46 : decode c_Hb_init 46 = .ok (.invokespecial 18, 3) := by decide +kernel
theorem d_Hb_init_49 : decode c_Hb_init 49 = .ok (.aastore, 1) := by decide +kernel
theorem d_Hb_init_50 : decode c_Hb_init 50 = .ok (.dup, 1) := by decide +kernel
theorem d_Hb_init_51 : decode c_Hb_init 51 = .ok (.iconst 4, 1) := by decide +kernel
theorem d_Hb_init_52 : decode c_Hb_init 52 = .ok (.new 19, 3) := by decide +kernel
theorem d_Hb_init_55 : decode c_Hb_init 55 = .ok (.dup, 1) := by decide +kernel
theorem d_Hb_init_56 : decode c_Hb_init 56 = .ok (.invokespecial 21, 3) := by decide +kernel
theorem d_Hb_init_59 : decode c_Hb_init 59 = .ok (.aastore, 1) := by decide +kernel
theorem d_Hb_init_60 : decode c_Hb_init 60 = .ok (.dup, 1) := by decide +kernel
theorem d_Hb_init_61 : decode c_Hb_init 61 = .ok (.iconst 5, 1) := by decide +kernel
theorem d_Hb_init_62 : decode c_Hb_init 62 = .ok (.new 22, 3) := by decide +kernel
theorem d_Hb_init_65 : decode c_Hb_init 65 = .ok (.dup, 1) := by decide +kernel
theorem d_Hb_init_66 : decode c_Hb_init 66 = .ok (.invokespecial 24, 3) := by decide +kernel
theorem d_Hb_init_69 : decode c_Hb_init 69 = .ok (.aastore, 1) := by decide +kernel
theorem d_Hb_init_70 : decode c_Hb_init 70 = .ok (.dup, 1) := by decide +kernel
theorem d_Hb_init_71 : decode c_Hb_init 71 = .ok (.bipush 6, 2) := by decide +kernel
theorem d_Hb_init_73 : decode c_Hb_init 73 = .ok (.new 25, 3) := by decide +kernel
theorem d_Hb_init_76 : decode c_Hb_init 76 = .ok (.dup, 1) := by decide +kernel
theorem d_Hb_init_77 : decode c_Hb_init 77 = .ok (.invokespecial 27, 3) := by decide +kernel
theorem d_Hb_init_80 : decode c_Hb_init 80 = .ok (.aastore, 1) := by decide +kernel
theorem d_Hb_init_81 : decode c_Hb_init 81 = .ok (.dup, 1) := by decide +kernel
theorem d_Hb_init_82 : decode c_Hb_init 82 = .ok (.bipush 7, 2) := by decide +kernel
theorem d_Hb_init_84 : decode c_Hb_init 84 = .ok (.new 28, 3) := by decide +kernel
theorem d_Hb_init_87 : decode c_Hb_init 87 = .ok (.dup, 1) := by decide +kernel
theorem d_Hb_init_88 : decode c_Hb_init 88 = .ok (.invokespecial 30, 3) := by decide +kernel
theorem d_Hb_init_91 : decode c_Hb_init 91 = .ok (.aastore, 1) := by decide +kernel
theorem d_Hb_init_92 : decode c_Hb_init 92 = .ok (.putfield 31, 3) := by decide +kernel
theorem d_Hb_init_95 : decode c_Hb_init 95 = .ok (.aload_n 0, 1) := by decide +kernel
theorem d_Hb_init_96 : decode c_Hb_init 96 = .ok (.new 37, 3) := by decide +kernel
theorem d_Hb_init_99 : decode c_Hb_init 99 = .ok (.dup, 1) := by decide +kernel
theorem d_Hb_init_100 : decode c_Hb_init 100 = .ok (.aload_n 0, 1) := by decide +kernel
theorem d_Hb_init_101 : decode c_Hb_init 101 = .ok (.getfield 31, 3) := by decide +kernel
theorem d_Hb_init_104 : decode c_Hb_init 104 = .ok (.invokespecial 39, 3) := by decide +kernel
theorem d_Hb_init_107 : decode c_Hb_init 107 = .ok (.putfield 42, 3) := by decide +kernel
theorem d_Hb_init_110 : decode c_Hb_init 110 = .ok (.aload_n 0, 1) := by decide +kernel
theorem d_Hb_init_111 : decode c_Hb_init 111 = .ok (.new 37, 3) := by decide +kernel
theorem d_Hb_init_114 : decode c_Hb_init 114 = .ok (.dup, 1) := by decide +kernel
theorem d_Hb_init_115 : decode c_Hb_init 115 = .ok (.aload_n 0, 1) := by decide +kernel
theorem d_Hb_init_116 : decode c_Hb_init 116 = .ok (.getfield 31, 3) := by decide +kernel
theorem d_Hb_init_119 : decode c_Hb_init 119 = .ok (.invokespecial 39, 3) := by decide +kernel
theorem d_Hb_init_122 : decode c_Hb_init 122 = .ok (.putfield 46, 3) := by decide +kernel
theorem d_Hb_init_125 : decode c_Hb_init 125 = .ok (.aload_n 0, 1) := by decide +kernel
theorem d_Hb_init_126 : decode c_Hb_init 126 = .ok (.iconst 4, 1) := by decide +kernel
theorem d_Hb_init_127 : decode c_Hb_init 127 = .ok (.anewarray 37, 3) := by decide +kernel
theorem d_Hb_init_130 : decode c_Hb_init 130 = .ok (.putfield 49, 3) := by decide +kernel
theorem d_Hb_init_133 : decode c_Hb_init 133 = .ok (.iconst 0, 1) := by decide +kernel
theorem d_Hb_init_134 : decode c_Hb_init 134 = .ok (.istore_n 1, 1) := by decide +kernel
theorem d_Hb_init_135 : decode c_Hb_init 135 = .ok (.iload_n 1, 1) := by decide +kernel
theorem d_Hb_init_136 : decode c_Hb_init 136 = .ok (.iconst 3, 1) := by decide +kernel
theorem d_Hb_init_137 : decode c_Hb_init 137 = .ok (.if_icmp .gt 26, 3) := by decide +kernel
theorem d_Hb_init_140 : decode c_Hb_init 140 = .ok (.aload_n 0, 1) := by decide +kernel
theorem d_Hb_init_141 : decode c_Hb_init 141 = .ok (.getfield 49, 3) := by decide +kernel
theorem d_Hb_init_144 : decode c_Hb_init 144 = .ok (.iload_n 1, 1) := by decide +kernel
theorem d_Hb_init_145 : decode c_Hb_init 145 = .ok (.new 37, 3) := by decide +kernel
theorem d_Hb_init_148 : decode c_Hb_init 148 = .ok (.dup, 1) := by decide +kernel
theorem d_Hb_init_149 : decode c_Hb_init 149 = .ok (.aload_n 0, 1) := by decide +kernel
theorem d_Hb_init_150 : decode c_Hb_init 150 = .ok (.getfield 31, 3) := by decide +kernel
theorem d_Hb_init_153 : decode c_Hb_init 153 = .ok (.invokespecial 39, 3) := by decide +kernel
theorem d_Hb_init_156 : decode c_Hb_init 156 = .ok (.aastore, 1) := by decide +kernel
theorem d_Hb_init_157 : decode c_Hb_init 157 = .ok (.iinc 1 1, 3) := by decide +kernel
theorem d_Hb_init_160 : decode c_Hb_init 160 = .ok (.goto (-25), 3) := by decide +kernel
theorem d_Hb_init_163 : decode c_Hb_init 163 = .ok (.aload_n 0, 1) := by decide +kernel
theorem d_Hb_init_164 : decode c_Hb_init 164 = .ok (.new 53, 3) := by decide +kernel
theorem d_Hb_init_167 : decode c_Hb_init 167 = .ok (.dup, 1) := by decide +kernel
theorem d_Hb_init_168 : decode c_Hb_init 168 = .ok (.aload_n 0, 1) := by decide +kernel
theorem d_Hb_init_169 : decode c_Hb_init 169 = .ok (.getfield 31, 3) := by decide +kernel
theorem d_Hb_init_172 : decode c_Hb_init 172 = .ok (.iconst 0, 1) := by decide +kernel
theorem d_Hb_init_173 : decode c_Hb_init 173 = .ok (.aaload, 1) := by decide +kernel
theorem d_Hb_init_174 : decode c_Hb_init 174 = .ok (.invokespecial 55, 3) := by decide +kernel
theorem d_Hb_init_177 : decode c_Hb_init 177 = .ok (.putfield 58, 3) := by decide +kernel
theorem d_Hb_init_180 : decode c_Hb_init 180 = .ok (.aload_n 0, 1) := by decide +kernel
theorem d_Hb_init_181 : decode c_Hb_init 181 = .ok (.bipush 8, 2) := by decide +kernel
theorem d_Hb_init_183 : decode c_Hb_init 183 = .ok (.anewarray 62, 3) := by decide +kernel
theorem d_Hb_init_186 : decode c_Hb_init 186 = .ok (.putfield 64, 3) := by decide +kernel
theorem d_Hb_init_189 : decode c_Hb_init 189 = .ok (.iconst 0, 1) := by decide +kernel
theorem d_Hb_init_190 : decode c_Hb_init 190 = .ok (.istore_n 1, 1) := by decide +kernel
theorem d_Hb_init_191 : decode c_Hb_init 191 = .ok (.iload_n 1, 1) := by decide +kernel
theorem d_Hb_init_192 : decode c_Hb_init 192 = .ok (.bipush 8, 2) := by decide +kernel
theorem d_Hb_init_194 : decode c_Hb_init 194 = .ok (.if_icmp .ge 28, 3) := by decide +kernel
theorem d_Hb_init_197 : decode c_Hb_init 197 = .ok (.aload_n 0, 1) := by decide +kernel
theorem d_Hb_init_198 : decode c_Hb_init 198 = .ok (.getfield 64, 3) := by decide +kernel
theorem d_Hb_init_201 : decode c_Hb_init 201 = .ok (.iload_n 1, 1) := by decide +kernel
theorem d_Hb_init_202 : decode c_Hb_init 202 = .ok (.new 62, 3) := by decide +kernel
theorem d_Hb_init_205 : decode c_Hb_init 205 = .ok (.dup, 1) := by decide +kernel
theorem d_Hb_init_206 : decode c_Hb_init 206 = .ok (.aload_n 0, 1) := by decide +kernel
theorem d_Hb_init_207 : decode c_Hb_init 207 = .ok (.getfield 31, 3) := by decide +kernel
theorem d_Hb_init_210 : decode c_Hb_init 210 = .ok (.iconst 0, 1) := by decide +kernel
theorem d_Hb_init_211 : decode c_Hb_init 211 = .ok (.aaload, 1) := by decide +kernel
theorem d_Hb_init_212 : decode c_Hb_init 212 = .ok (.invokespecial 68, 3) := by decide +kernel
theorem d_Hb_init_215 : decode c_Hb_init 215 = .ok (.aastore, 1) := by decide +kernel
theorem d_Hb_init_216 : decode c_Hb_init 216 = .ok (.iinc 1 1, 3) := by decide +kernel
theorem d_Hb_init_219 : decode c_Hb_init 219 = .ok (.goto (-28), 3) := by decide +kernel
theorem d_Hb_init_222 : decode c_Hb_init 222 = .ok (.aload_n 0, 1) := by decide +kernel
theorem d_Hb_init_223 : decode c_Hb_init 223 = .ok (.iconst 0, 1) := by decide +kernel
theorem d_Hb_init_224 : decode c_Hb_init 224 = .ok (.putfield 69, 3) := by decide +kernel
theorem d_Hb_init_227 : decode c_Hb_init 227 = .ok (.return_, 1) := by decide +kernel
theorem d_Hb_land_0 : decode c_Hb_land 0 = .ok (.aload_n 0, 1) := by decide +kernel
theorem d_Hb_land_1 : decode c_Hb_land 1 = .ok (.iload_n 1, 1) := by decide +kernel
theorem d_Hb_land_2 : decode c_Hb_land 2 = .ok (.invokevirtual 73, 3) := by decide +kernel
theorem d_Hb_land_5 : decode c_Hb_land 5 = .ok (.istore_n 2, 1) := by decide +kernel
theorem d_Hb_land_6 : decode c_Hb_land 6 = .ok (.iload_n 2, 1) := by decide +kernel
theorem d_Hb_land_7 : decode c_Hb_land 7 = .ok (.ifCond .eq 5, 3) := by decide +kernel
theorem d_Hb_land_10 : decode c_Hb_land 10 = .ok (.iload_n 2, 1) := by decide +kernel
theorem d_Hb_land_11 : decode c_Hb_land 11 = .ok (.ireturn, 1) := by decide +kernel
theorem d_Hb_land_12 : decode c_Hb_land 12 = .ok (.aload_n 0, 1) := by decide +kernel
theorem d_Hb_land_13 : decode c_Hb_land 13 = .ok (.getfield 64, 3) := by decide +kernel
theorem d_Hb_land_16 : decode c_Hb_land 16 = .ok (.iload_n 1, 1) := by decide +kernel
theorem d_Hb_land_17 : decode c_Hb_land 17 = .ok (.aaload, 1) := by decide +kernel
theorem d_Hb_land_18 : decode c_Hb_land 18 = .ok (.astore_n 3, 1) := by decide +kernel
theorem d_Hb_land_19 : decode c_Hb_land 19 = .ok (.aload_n 3, 1) := by decide +kernel
theorem d_Hb_land_20 : decode c_Hb_land 20 = .ok (.getfield 77, 3) := by decide +kernel
theorem d_Hb_land_23 : decode c_Hb_land 23 = .ok (.ifCond .eq 6, 3) := by decide +kernel
theorem d_Hb_land_26 : decode c_Hb_land 26 = .ok (.bipush (-12), 2) := by decide +kernel
theorem d_Hb_land_28 : decode c_Hb_land 28 = .ok (.ireturn, 1) := by decide +kernel
theorem d_Hb_land_29 : decode c_Hb_land 29 = .ok (.aload_n 3, 1) := by decide +kernel
theorem d_Hb_land_30 : decode c_Hb_land 30 = .ok (.invokestatic 81, 3) := by decide +kernel
theorem d_Hb_land_33 : decode c_Hb_land 33 = .ok (.istore 4, 2) := by decide +kernel
theorem d_Hb_land_35 : decode c_Hb_land 35 = .ok (.iload 4, 2) := by decide +kernel
theorem d_Hb_land_37 : decode c_Hb_land 37 = .ok (.iconst (-1), 1) := by decide +kernel
theorem d_Hb_land_38 : decode c_Hb_land 38 = .ok (.if_icmp .eq 10, 3) := by decide +kernel
theorem d_Hb_land_41 : decode c_Hb_land 41 = .ok (.sipush (-1000), 3) := by decide +kernel
theorem d_Hb_land_44 : decode c_Hb_land 44 = .ok (.iload 4, 2) := by decide +kernel
theorem d_Hb_land_46 : decode c_Hb_land 46 = .ok (.isub, 1) := by decide +kernel
theorem d_Hb_land_47 : decode c_Hb_land 47 = .ok (.ireturn, 1) := by decide +kernel
theorem d_Hb_land_48 : decode c_Hb_land 48 = .ok (.aload_n 0, 1) := by decide +kernel
theorem d_Hb_land_49 : decode c_Hb_land 49 = .ok (.getfield 49, 3) := by decide +kernel
theorem d_Hb_land_52 : decode c_Hb_land 52 = .ok (.iconst 0, 1) := by decide +kernel
theorem d_Hb_land_53 : decode c_Hb_land 53 = .ok (.aaload, 1) := by decide +kernel
theorem d_Hb_land_54 : decode c_Hb_land 54 = .ok (.astore 5, 2) := by decide +kernel
theorem d_Hb_land_56 : decode c_Hb_land 56 = .ok (.aload 5, 2) := by decide +kernel
theorem d_Hb_land_58 : decode c_Hb_land 58 = .ok (.aload_n 0, 1) := by decide +kernel
theorem d_Hb_land_59 : decode c_Hb_land 59 = .ok (.getfield 42, 3) := by decide +kernel
theorem d_Hb_land_62 : decode c_Hb_land 62 = .ok (.invokevirtual 85, 3) := by decide +kernel
theorem d_Hb_land_65 : decode c_Hb_land 65 = .ok (.iconst 0, 1) := by decide +kernel
theorem d_Hb_land_66 : decode c_Hb_land 66 = .ok (.istore 6, 2) := by decide +kernel
theorem d_Hb_land_68 : decode c_Hb_land 68 = .ok (.iconst 0, 1) := by decide +kernel
theorem d_Hb_land_69 : decode c_Hb_land 69 = .ok (.istore 7, 2) := by decide +kernel
theorem d_Hb_land_71 : decode c_Hb_land 71 = .ok (.iload 7, 2) := by decide +kernel
theorem d_Hb_land_73 : decode c_Hb_land 73 = .ok (.aload_n 3, 1) := by decide +kernel
theorem d_Hb_land_74 : decode c_Hb_land 74 = .ok (.getfield 89, 3) := by decide +kernel
theorem d_Hb_land_77 : decode c_Hb_land 77 = .ok (.if_icmp .ge 44, 3) := by decide +kernel
theorem d_Hb_land_80 : decode c_Hb_land 80 = .ok (.aload 5, 2) := by decide +kernel
theorem d_Hb_land_82 : decode c_Hb_land 82 = .ok (.aload_n 3, 1) := by decide +kernel
theorem d_Hb_land_83 : decode c_Hb_land 83 = .ok (.iload 7, 2) := by decide +kernel
theorem d_Hb_land_85 : decode c_Hb_land 85 = .ok (.invokevirtual 92, 3) := by decide +kernel
theorem d_Hb_land_88 : decode c_Hb_land 88 = .ok (.ifCond .ne 10, 3) := by decide +kernel
theorem d_Hb_land_91 : decode c_Hb_land 91 = .ok (.sipush (-2000), 3) := by decide +kernel
theorem d_Hb_land_94 : decode c_Hb_land 94 = .ok (.iload 7, 2) := by decide +kernel
theorem d_Hb_land_96 : decode c_Hb_land 96 = .ok (.isub, 1) := by decide +kernel
theorem d_Hb_land_97 : decode c_Hb_land 97 = .ok (.ireturn, 1) := by decide +kernel
theorem d_Hb_land_98 : decode c_Hb_land 98 = .ok (.iinc 6 1, 3) := by decide +kernel
theorem d_Hb_land_101 : decode c_Hb_land 101 = .ok (.iload 7, 2) := by decide +kernel
theorem d_Hb_land_103 : decode c_Hb_land 103 = .ok (.aload_n 3, 1) := by decide +kernel
theorem d_Hb_land_104 : decode c_Hb_land 104 = .ok (.getfield 96, 3) := by decide +kernel
theorem d_Hb_land_107 : decode c_Hb_land 107 = .ok (.iload 7, 2) := by decide +kernel
theorem d_Hb_land_109 : decode c_Hb_land 109 = .ok (.iaload, 1) := by decide +kernel
theorem d_Hb_land_110 : decode c_Hb_land 110 = .ok (.invokestatic 100, 3) := by decide +kernel
theorem d_Hb_land_113 : decode c_Hb_land 113 = .ok (.iconst 2, 1) := by decide +kernel
theorem d_Hb_land_114 : decode c_Hb_land 114 = .ok (.iadd, 1) := by decide +kernel
theorem d_Hb_land_115 : decode c_Hb_land 115 = .ok (.iadd, 1) := by decide +kernel
theorem d_Hb_land_116 : decode c_Hb_land 116 = .ok (.istore 7, 2) := by decide +kernel
theorem d_Hb_land_118 : decode c_Hb_land 118 = .ok (.goto (-47), 3) := by decide +kernel
theorem d_Hb_land_121 : decode c_Hb_land 121 = .ok (.aload_n 0, 1) := by decide +kernel
theorem d_Hb_land_122 : decode c_Hb_land 122 = .ok (.getfield 42, 3) := by decide +kernel
theorem d_Hb_land_125 : decode c_Hb_land 125 = .ok (.aload 5, 2) := by decide +kernel
theorem d_Hb_land_127 : decode c_Hb_land 127 = .ok (.invokevirtual 85, 3) := by decide +kernel
theorem d_Hb_land_130 : decode c_Hb_land 130 = .ok (.iload 6, 2) := by decide +kernel
theorem d_Hb_land_132 : decode c_Hb_land 132 = .ok (.ireturn, 1) := by decide +kernel
theorem d_Hb_horse_0 : decode c_Hb_horse 0 = .ok (.aload_n 0, 1) := by decide +kernel
theorem d_Hb_horse_1 : decode c_Hb_horse 1 = .ok (.iload_n 1, 1) := by decide +kernel
theorem d_Hb_horse_2 : decode c_Hb_horse 2 = .ok (.invokevirtual 103, 3) := by decide +kernel
theorem d_Hb_horse_5 : decode c_Hb_horse 5 = .ok (.ifCond .ne 5, 3) := by decide +kernel
theorem d_Hb_horse_8 : decode c_Hb_horse 8 = .ok (.iconst (-1), 1) := by decide +kernel
theorem d_Hb_horse_9 : decode c_Hb_horse 9 = .ok (.ireturn, 1) := by decide +kernel
theorem d_Hb_horse_10 : decode c_Hb_horse 10 = .ok (.aload_n 0, 1) := by decide +kernel
theorem d_Hb_horse_11 : decode c_Hb_horse 11 = .ok (.getfield 42, 3) := by decide +kernel
theorem d_Hb_horse_14 : decode c_Hb_horse 14 = .ok (.getfield 107, 3) := by decide +kernel
theorem d_Hb_horse_17 : decode c_Hb_horse 17 = .ok (.iload_n 1, 1) := by decide +kernel
theorem d_Hb_horse_18 : decode c_Hb_horse 18 = .ok (.aaload, 1) := by decide +kernel
theorem d_Hb_horse_19 : decode c_Hb_horse 19 = .ok (.astore_n 3, 1) := by decide +kernel
theorem d_Hb_horse_20 : decode c_Hb_horse 20 = .ok (.iload_n 2, 1) := by decide +kernel
theorem d_Hb_horse_21 : decode c_Hb_horse 21 = .ok (.tableswitch 100 0 7 #[47, 55, 60, 65, 70, 75, 87, 92], 47) := by decide +kernel
theorem d_Hb_horse_68 : decode c_Hb_horse 68 = .ok (.aload_n 3, 1) := by decide +kernel
theorem d_Hb_horse_69 : decode c_Hb_horse 69 = .ok (.getfield 111, 3) := by decide +kernel
theorem d_Hb_horse_72 : decode c_Hb_horse 72 = .ok (.invokevirtual 115, 3) := by decide +kernel
theorem d_Hb_horse_75 : decode c_Hb_horse 75 = .ok (.ireturn, 1) := by decide +kernel
theorem d_Hb_horse_76 : decode c_Hb_horse 76 = .ok (.aload_n 3, 1) := by decide +kernel
theorem d_Hb_horse_77 : decode c_Hb_horse 77 = .ok (.getfield 119, 3) := by decide +kernel
theorem d_Hb_horse_80 : decode c_Hb_horse 80 = .ok (.ireturn, 1) := by decide +kernel
theorem d_Hb_horse_81 : decode c_Hb_horse 81 = .ok (.aload_n 3, 1) := by decide +kernel
theorem d_Hb_horse_82 : decode c_Hb_horse 82 = .ok (.getfield 122, 3) := by decide +kernel
theorem d_Hb_horse_85 : decode c_Hb_horse 85 = .ok (.ireturn, 1) := by decide +kernel
theorem d_Hb_horse_86 : decode c_Hb_horse 86 = .ok (.aload_n 3, 1) := by decide +kernel
theorem d_Hb_horse_87 : decode c_Hb_horse 87 = .ok (.getfield 125, 3) := by decide +kernel
theorem d_Hb_horse_90 : decode c_Hb_horse 90 = .ok (.ireturn, 1) := by decide +kernel
theorem d_Hb_horse_91 : decode c_Hb_horse 91 = .ok (.aload_n 3, 1) := by decide +kernel
theorem d_Hb_horse_92 : decode c_Hb_horse 92 = .ok (.getfield 128, 3) := by decide +kernel
theorem d_Hb_horse_95 : decode c_Hb_horse 95 = .ok (.ireturn, 1) := by decide +kernel
theorem d_Hb_horse_96 : decode c_Hb_horse 96 = .ok (.aload_n 3, 1) := by decide +kernel
theorem d_Hb_horse_97 : decode c_Hb_horse 97 = .ok (.aload_n 0, 1) := by decide +kernel
theorem d_Hb_horse_98 : decode c_Hb_horse 98 = .ok (.getfield 42, 3) := by decide +kernel
theorem d_Hb_horse_101 : decode c_Hb_horse 101 = .ok (.getfield 131, 3) := by decide +kernel
theorem d_Hb_horse_104 : decode c_Hb_horse 104 = .ok (.invokevirtual 134, 3) := by decide +kernel
theorem d_Hb_horse_107 : decode c_Hb_horse 107 = .ok (.ireturn, 1) := by decide +kernel
theorem d_Hb_horse_108 : decode c_Hb_horse 108 = .ok (.aload_n 3, 1) := by decide +kernel
theorem d_Hb_horse_109 : decode c_Hb_horse 109 = .ok (.invokevirtual 137, 3) := by decide +kernel
theorem d_Hb_horse_112 : decode c_Hb_horse 112 = .ok (.ireturn, 1) := by decide +kernel
theorem d_Hb_horse_113 : decode c_Hb_horse 113 = .ok (.aload_n 3, 1) := by decide +kernel
theorem d_Hb_horse_114 : decode c_Hb_horse 114 = .ok (.getfield 111, 3) := by decide +kernel
theorem d_Hb_horse_117 : decode c_Hb_horse 117 = .ok (.invokevirtual 140, 3) := by decide +kernel
theorem d_Hb_horse_120 : decode c_Hb_horse 120 = .ok (.ireturn, 1) := by decide +kernel
theorem d_Hb_horse_121 : decode c_Hb_horse 121 = .ok (.iconst (-1), 1) := by decide +kernel
theorem d_Hb_horse_122 : decode c_Hb_horse 122 = .ok (.ireturn, 1) := by decide +kernel
theorem d_Hb_comes_0 : decode c_Hb_comes 0 = .ok (.iload_n 2, 1) := by decide +kernel
theorem d_Hb_comes_1 : decode c_Hb_comes 1 = .ok (.invokestatic 143, 3) := by decide +kernel
theorem d_Hb_comes_4 : decode c_Hb_comes 4 = .ok (.ifCond .eq 10, 3) := by decide +kernel
theorem d_Hb_comes_7 : decode c_Hb_comes 7 = .ok (.iload_n 3, 1) := by decide +kernel
theorem d_Hb_comes_8 : decode c_Hb_comes 8 = .ok (.invokestatic 143, 3) := by decide +kernel
theorem d_Hb_comes_11 : decode c_Hb_comes 11 = .ok (.ifCond .ne 5, 3) := by decide +kernel
theorem d_Hb_comes_14 : decode c_Hb_comes 14 = .ok (.iconst (-1), 1) := by decide +kernel
theorem d_Hb_comes_15 : decode c_Hb_comes 15 = .ok (.ireturn, 1) := by decide +kernel
theorem d_Hb_comes_16 : decode c_Hb_comes 16 = .ok (.aload_n 0, 1) := by decide +kernel
theorem d_Hb_comes_17 : decode c_Hb_comes 17 = .ok (.iload_n 1, 1) := by decide +kernel
theorem d_Hb_comes_18 : decode c_Hb_comes 18 = .ok (.invokevirtual 146, 3) := by decide +kernel
theorem d_Hb_comes_21 : decode c_Hb_comes 21 = .ok (.istore 4, 2) := by decide +kernel
theorem d_Hb_comes_23 : decode c_Hb_comes 23 = .ok (.iload 4, 2) := by decide +kernel
theorem d_Hb_comes_25 : decode c_Hb_comes 25 = .ok (.ifCond .eq 6, 3) := by decide +kernel
theorem d_Hb_comes_28 : decode c_Hb_comes 28 = .ok (.iload 4, 2) := by decide +kernel
theorem d_Hb_comes_30 : decode c_Hb_comes 30 = .ok (.ireturn, 1) := by decide +kernel
theorem d_Hb_comes_31 : decode c_Hb_comes 31 = .ok (.aload_n 0, 1) := by decide +kernel
theorem d_Hb_comes_32 : decode c_Hb_comes 32 = .ok (.getfield 42, 3) := by decide +kernel
theorem d_Hb_comes_35 : decode c_Hb_comes 35 = .ok (.getfield 149, 3) := by decide +kernel
theorem d_Hb_comes_38 : decode c_Hb_comes 38 = .ok (.istore 5, 2) := by decide +kernel
theorem d_Hb_comes_40 : decode c_Hb_comes 40 = .ok (.aload_n 0, 1) := by decide +kernel
theorem d_Hb_comes_41 : decode c_Hb_comes 41 = .ok (.getfield 42, 3) := by decide +kernel
theorem d_Hb_comes_44 : decode c_Hb_comes 44 = .ok (.aload_n 0, 1) := by decide +kernel
theorem d_Hb_comes_45 : decode c_Hb_comes 45 = .ok (.getfield 64, 3) := by decide +kernel
theorem d_Hb_comes_48 : decode c_Hb_comes 48 = .ok (.iload_n 1, 1) := by decide +kernel
theorem d_Hb_comes_49 : decode c_Hb_comes 49 = .ok (.aaload, 1) := by decide +kernel
theorem d_Hb_comes_50 : decode c_Hb_comes 50 = .ok (.getfield 152, 3) := by decide +kernel
theorem d_Hb_comes_53 : decode c_Hb_comes 53 = .ok (.aload_n 0, 1) := by decide +kernel
theorem d_Hb_comes_54 : decode c_Hb_comes 54 = .ok (.getfield 64, 3) := by decide +kernel
theorem d_Hb_comes_57 : decode c_Hb_comes 57 = .ok (.iload_n 1, 1) := by decide +kernel
theorem d_Hb_comes_58 : decode c_Hb_comes 58 = .ok (.aaload, 1) := by decide +kernel
theorem d_Hb_comes_59 : decode c_Hb_comes 59 = .ok (.getfield 153, 3) := by decide +kernel
theorem d_Hb_comes_62 : decode c_Hb_comes 62 = .ok (.iload_n 2, 1) := by decide +kernel
theorem d_Hb_comes_63 : decode c_Hb_comes 63 = .ok (.iload_n 3, 1) := by decide +kernel
theorem d_Hb_comes_64 : decode c_Hb_comes 64 = .ok (.invokevirtual 154, 3) := by decide +kernel
theorem d_Hb_comes_67 : decode c_Hb_comes 67 = .ok (.ifCond .eq 8, 3) := by decide +kernel
theorem d_Hb_comes_70 : decode c_Hb_comes 70 = .ok (.iload 5, 2) := by decide +kernel
theorem d_Hb_comes_72 : decode c_Hb_comes 72 = .ok (.goto 5, 3) := by decide +kernel
theorem d_Hb_comes_75 : decode c_Hb_comes 75 = .ok (.bipush (-2), 2) := by decide +kernel
theorem d_Hb_comes_77 : decode c_Hb_comes 77 = .ok (.ireturn, 1) := by decide +kernel
theorem d_Hb_rides_0 : decode c_Hb_rides 0 = .ok (.aload_n 0, 1) := by decide +kernel
theorem d_Hb_rides_1 : decode c_Hb_rides 1 = .ok (.iload_n 1, 1) := by decide +kernel
theorem d_Hb_rides_2 : decode c_Hb_rides 2 = .ok (.invokevirtual 103, 3) := by decide +kernel
theorem d_Hb_rides_5 : decode c_Hb_rides 5 = .ok (.ifCond .eq 10, 3) := by decide +kernel
theorem d_Hb_rides_8 : decode c_Hb_rides 8 = .ok (.iload_n 2, 1) := by decide +kernel
theorem d_Hb_rides_9 : decode c_Hb_rides 9 = .ok (.invokestatic 143, 3) := by decide +kernel
theorem d_Hb_rides_12 : decode c_Hb_rides 12 = .ok (.ifCond .ne 5, 3) := by decide +kernel
theorem d_Hb_rides_15 : decode c_Hb_rides 15 = .ok (.iconst (-1), 1) := by decide +kernel
theorem d_Hb_rides_16 : decode c_Hb_rides 16 = .ok (.ireturn, 1) := by decide +kernel
theorem d_Hb_rides_17 : decode c_Hb_rides 17 = .ok (.aload_n 0, 1) := by decide +kernel
theorem d_Hb_rides_18 : decode c_Hb_rides 18 = .ok (.getfield 42, 3) := by decide +kernel
theorem d_Hb_rides_21 : decode c_Hb_rides 21 = .ok (.aload_n 0, 1) := by decide +kernel
theorem d_Hb_rides_22 : decode c_Hb_rides 22 = .ok (.aload_n 0, 1) := by decide +kernel
theorem d_Hb_rides_23 : decode c_Hb_rides 23 = .ok (.getfield 42, 3) := by decide +kernel
theorem d_Hb_rides_26 : decode c_Hb_rides 26 = .ok (.getfield 107, 3) := by decide +kernel
theorem d_Hb_rides_29 : decode c_Hb_rides 29 = .ok (.iload_n 1, 1) := by decide +kernel
theorem d_Hb_rides_30 : decode c_Hb_rides 30 = .ok (.aaload, 1) := by decide +kernel
theorem d_Hb_rides_31 : decode c_Hb_rides 31 = .ok (.iload_n 2, 1) := by decide +kernel
theorem d_Hb_rides_32 : decode c_Hb_rides 32 = .ok (.invokevirtual 158, 3) := by decide +kernel
theorem d_Hb_rides_35 : decode c_Hb_rides 35 = .ok (.invokevirtual 162, 3) := by decide +kernel
theorem d_Hb_rides_38 : decode c_Hb_rides 38 = .ok (.ifCond .ne 6, 3) := by decide +kernel
theorem d_Hb_rides_41 : decode c_Hb_rides 41 = .ok (.bipush (-3), 2) := by decide +kernel
theorem d_Hb_rides_43 : decode c_Hb_rides 43 = .ok (.ireturn, 1) := by decide +kernel
theorem d_Hb_rides_44 : decode c_Hb_rides 44 = .ok (.aload_n 0, 1) := by decide +kernel
theorem d_Hb_rides_45 : decode c_Hb_rides 45 = .ok (.getfield 42, 3) := by decide +kernel
theorem d_Hb_rides_48 : decode c_Hb_rides 48 = .ok (.iload_n 1, 1) := by decide +kernel
theorem d_Hb_rides_49 : decode c_Hb_rides 49 = .ok (.iload_n 2, 1) := by decide +kernel
theorem d_Hb_rides_50 : decode c_Hb_rides 50 = .ok (.invokevirtual 165, 3) := by decide +kernel
theorem d_Hb_rides_53 : decode c_Hb_rides 53 = .ok (.ireturn, 1) := by decide +kernel
theorem d_Hb_taken_0 : decode c_Hb_taken 0 = .ok (.aload_n 0, 1) := by decide +kernel
theorem d_Hb_taken_1 : decode c_Hb_taken 1 = .ok (.iload_n 1, 1) := by decide +kernel
theorem d_Hb_taken_2 : decode c_Hb_taken 2 = .ok (.invokevirtual 103, 3) := by decide +kernel
theorem d_Hb_taken_5 : decode c_Hb_taken 5 = .ok (.ifCond .eq 10, 3) := by decide +kernel
theorem d_Hb_taken_8 : decode c_Hb_taken 8 = .ok (.iload_n 2, 1) := by decide +kernel
theorem d_Hb_taken_9 : decode c_Hb_taken 9 = .ok (.invokestatic 143, 3) := by decide +kernel
theorem d_Hb_taken_12 : decode c_Hb_taken 12 = .ok (.ifCond .ne 5, 3) := by decide +kernel
theorem d_Hb_taken_15 : decode c_Hb_taken 15 = .ok (.iconst (-1), 1) := by decide +kernel
theorem d_Hb_taken_16 : decode c_Hb_taken 16 = .ok (.ireturn, 1) := by decide +kernel
theorem d_Hb_taken_17 : decode c_Hb_taken 17 = .ok (.aload_n 0, 1) := by decide +kernel
theorem d_Hb_taken_18 : decode c_Hb_taken 18 = .ok (.getfield 42, 3) := by decide +kernel
theorem d_Hb_taken_21 : decode c_Hb_taken 21 = .ok (.getfield 107, 3) := by decide +kernel
theorem d_Hb_taken_24 : decode c_Hb_taken 24 = .ok (.iload_n 1, 1) := by decide +kernel
theorem d_Hb_taken_25 : decode c_Hb_taken 25 = .ok (.aaload, 1) := by decide +kernel
theorem d_Hb_taken_26 : decode c_Hb_taken 26 = .ok (.getfield 125, 3) := by decide +kernel
theorem d_Hb_taken_29 : decode c_Hb_taken 29 = .ok (.istore_n 3, 1) := by decide +kernel
theorem d_Hb_taken_30 : decode c_Hb_taken 30 = .ok (.aload_n 0, 1) := by decide +kernel
theorem d_Hb_taken_31 : decode c_Hb_taken 31 = .ok (.getfield 42, 3) := by decide +kernel
theorem d_Hb_taken_34 : decode c_Hb_taken 34 = .ok (.getfield 107, 3) := by decide +kernel
theorem d_Hb_taken_37 : decode c_Hb_taken 37 = .ok (.iload_n 1, 1) := by decide +kernel
theorem d_Hb_taken_38 : decode c_Hb_taken 38 = .ok (.aaload, 1) := by decide +kernel
theorem d_Hb_taken_39 : decode c_Hb_taken 39 = .ok (.iload_n 2, 1) := by decide +kernel
theorem d_Hb_taken_40 : decode c_Hb_taken 40 = .ok (.putfield 125, 3) := by decide +kernel
theorem d_Hb_taken_43 : decode c_Hb_taken 43 = .ok (.iload_n 3, 1) := by decide +kernel
theorem d_Hb_taken_44 : decode c_Hb_taken 44 = .ok (.ireturn, 1) := by decide +kernel
theorem d_Hb_longs_0 : decode c_Hb_longs 0 = .ok (.aload_n 0, 1) := by decide +kernel
theorem d_Hb_longs_1 : decode c_Hb_longs 1 = .ok (.iload_n 1, 1) := by decide +kernel
theorem d_Hb_longs_2 : decode c_Hb_longs 2 = .ok (.invokevirtual 103, 3) := by decide +kernel
theorem d_Hb_longs_5 : decode c_Hb_longs 5 = .ok (.ifCond .eq 13, 3) := by decide +kernel
theorem d_Hb_longs_8 : decode c_Hb_longs 8 = .ok (.iload_n 2, 1) := by decide +kernel
theorem d_Hb_longs_9 : decode c_Hb_longs 9 = .ok (.iconst 0, 1) := by decide +kernel
theorem d_Hb_longs_10 : decode c_Hb_longs 10 = .ok (.bipush 99, 2) := by decide +kernel
theorem d_Hb_longs_12 : decode c_Hb_longs 12 = .ok (.invokestatic 169, 3) := by decide +kernel
theorem d_Hb_longs_15 : decode c_Hb_longs 15 = .ok (.ifCond .ne 5, 3) := by decide +kernel
theorem d_Hb_longs_18 : decode c_Hb_longs 18 = .ok (.iconst (-1), 1) := by decide +kernel
theorem d_Hb_longs_19 : decode c_Hb_longs 19 = .ok (.ireturn, 1) := by decide +kernel
theorem d_Hb_longs_20 : decode c_Hb_longs 20 = .ok (.aload_n 0, 1) := by decide +kernel
theorem d_Hb_longs_21 : decode c_Hb_longs 21 = .ok (.getfield 42, 3) := by decide +kernel
theorem d_Hb_longs_24 : decode c_Hb_longs 24 = .ok (.getfield 107, 3) := by decide +kernel
theorem d_Hb_longs_27 : decode c_Hb_longs 27 = .ok (.iload_n 1, 1) := by decide +kernel
theorem d_Hb_longs_28 : decode c_Hb_longs 28 = .ok (.aaload, 1) := by decide +kernel
theorem d_Hb_longs_29 : decode c_Hb_longs 29 = .ok (.getfield 128, 3) := by decide +kernel
theorem d_Hb_longs_32 : decode c_Hb_longs 32 = .ok (.istore_n 3, 1) := by decide +kernel
theorem d_Hb_longs_33 : decode c_Hb_longs 33 = .ok (.aload_n 0, 1) := by decide +kernel
theorem d_Hb_longs_34 : decode c_Hb_longs 34 = .ok (.getfield 42, 3) := by decide +kernel
theorem d_Hb_longs_37 : decode c_Hb_longs 37 = .ok (.getfield 107, 3) := by decide +kernel
theorem d_Hb_longs_40 : decode c_Hb_longs 40 = .ok (.iload_n 1, 1) := by decide +kernel
theorem d_Hb_longs_41 : decode c_Hb_longs 41 = .ok (.aaload, 1) := by decide +kernel
theorem d_Hb_longs_42 : decode c_Hb_longs 42 = .ok (.iload_n 2, 1) := by decide +kernel
theorem d_Hb_longs_43 : decode c_Hb_longs 43 = .ok (.putfield 128, 3) := by decide +kernel
theorem d_Hb_longs_46 : decode c_Hb_longs 46 = .ok (.iload_n 3, 1) := by decide +kernel
theorem d_Hb_longs_47 : decode c_Hb_longs 47 = .ok (.ireturn, 1) := by decide +kernel
theorem d_Hb_hangs_0 : decode c_Hb_hangs 0 = .ok (.iload_n 1, 1) := by decide +kernel
theorem d_Hb_hangs_1 : decode c_Hb_hangs 1 = .ok (.invokestatic 143, 3) := by decide +kernel
theorem d_Hb_hangs_4 : decode c_Hb_hangs 4 = .ok (.ifCond .ne 5, 3) := by decide +kernel
theorem d_Hb_hangs_7 : decode c_Hb_hangs 7 = .ok (.iconst (-1), 1) := by decide +kernel
theorem d_Hb_hangs_8 : decode c_Hb_hangs 8 = .ok (.ireturn, 1) := by decide +kernel
theorem d_Hb_hangs_9 : decode c_Hb_hangs 9 = .ok (.aload_n 0, 1) := by decide +kernel
theorem d_Hb_hangs_10 : decode c_Hb_hangs 10 = .ok (.getfield 42, 3) := by decide +kernel
theorem d_Hb_hangs_13 : decode c_Hb_hangs 13 = .ok (.getfield 131, 3) := by decide +kernel
theorem d_Hb_hangs_16 : decode c_Hb_hangs 16 = .ok (.istore_n 2, 1) := by decide +kernel
theorem d_Hb_hangs_17 : decode c_Hb_hangs 17 = .ok (.aload_n 0, 1) := by decide +kernel
theorem d_Hb_hangs_18 : decode c_Hb_hangs 18 = .ok (.getfield 42, 3) := by decide +kernel
theorem d_Hb_hangs_21 : decode c_Hb_hangs 21 = .ok (.iload_n 1, 1) := by decide +kernel
theorem d_Hb_hangs_22 : decode c_Hb_hangs 22 = .ok (.putfield 131, 3) := by decide +kernel
theorem d_Hb_hangs_25 : decode c_Hb_hangs 25 = .ok (.iload_n 2, 1) := by decide +kernel
theorem d_Hb_hangs_26 : decode c_Hb_hangs 26 = .ok (.ireturn, 1) := by decide +kernel
theorem d_Hb_days_0 : decode c_Hb_days 0 = .ok (.iload_n 1, 1) := by decide +kernel
theorem d_Hb_days_1 : decode c_Hb_days 1 = .ok (.iconst 1, 1) := by decide +kernel
theorem d_Hb_days_2 : decode c_Hb_days 2 = .ok (.bipush 60, 2) := by decide +kernel
theorem d_Hb_days_4 : decode c_Hb_days 4 = .ok (.invokestatic 169, 3) := by decide +kernel
theorem d_Hb_days_7 : decode c_Hb_days 7 = .ok (.ifCond .ne 5, 3) := by decide +kernel
theorem d_Hb_days_10 : decode c_Hb_days 10 = .ok (.iconst (-1), 1) := by decide +kernel
theorem d_Hb_days_11 : decode c_Hb_days 11 = .ok (.ireturn, 1) := by decide +kernel
theorem d_Hb_days_12 : decode c_Hb_days 12 = .ok (.aload_n 0, 1) := by decide +kernel
theorem d_Hb_days_13 : decode c_Hb_days 13 = .ok (.getfield 42, 3) := by decide +kernel
theorem d_Hb_days_16 : decode c_Hb_days 16 = .ok (.iload_n 1, 1) := by decide +kernel
theorem d_Hb_days_17 : decode c_Hb_days 17 = .ok (.invokevirtual 162, 3) := by decide +kernel
theorem d_Hb_days_20 : decode c_Hb_days 20 = .ok (.ifCond .ne 6, 3) := by decide +kernel
theorem d_Hb_days_23 : decode c_Hb_days 23 = .ok (.bipush (-3), 2) := by decide +kernel
theorem d_Hb_days_25 : decode c_Hb_days 25 = .ok (.ireturn, 1) := by decide +kernel
theorem d_Hb_days_26 : decode c_Hb_days 26 = .ok (.aload_n 0, 1) := by decide +kernel
theorem d_Hb_days_27 : decode c_Hb_days 27 = .ok (.getfield 42, 3) := by decide +kernel
theorem d_Hb_days_30 : decode c_Hb_days 30 = .ok (.iload_n 1, 1) := by decide +kernel
theorem d_Hb_days_31 : decode c_Hb_days 31 = .ok (.invokevirtual 173, 3) := by decide +kernel
theorem d_Hb_days_34 : decode c_Hb_days 34 = .ok (.aload_n 0, 1) := by decide +kernel
theorem d_Hb_days_35 : decode c_Hb_days 35 = .ok (.getfield 42, 3) := by decide +kernel
theorem d_Hb_days_38 : decode c_Hb_days 38 = .ok (.invokevirtual 177, 3) := by decide +kernel
theorem d_Hb_days_41 : decode c_Hb_days 41 = .ok (.ireturn, 1) := by decide +kernel
theorem d_Hb_howLong_0 : decode c_Hb_howLong 0 = .ok (.aload_n 0, 1) := by decide +kernel
theorem d_Hb_howLong_1 : decode c_Hb_howLong 1 = .ok (.iload_n 1, 1) := by decide +kernel
theorem d_Hb_howLong_2 : decode c_Hb_howLong 2 = .ok (.invokevirtual 103, 3) := by decide +kernel
theorem d_Hb_howLong_5 : decode c_Hb_howLong 5 = .ok (.ifCond .eq 10, 3) := by decide +kernel
theorem d_Hb_howLong_8 : decode c_Hb_howLong 8 = .ok (.iload_n 2, 1) := by decide +kernel
theorem d_Hb_howLong_9 : decode c_Hb_howLong 9 = .ok (.invokestatic 143, 3) := by decide +kernel
theorem d_Hb_howLong_12 : decode c_Hb_howLong 12 = .ok (.ifCond .ne 5, 3) := by decide +kernel
theorem d_Hb_howLong_15 : decode c_Hb_howLong 15 = .ok (.iconst (-1), 1) := by decide +kernel
theorem d_Hb_howLong_16 : decode c_Hb_howLong 16 = .ok (.ireturn, 1) := by decide +kernel
theorem d_Hb_howLong_17 : decode c_Hb_howLong 17 = .ok (.aload_n 0, 1) := by decide +kernel
theorem d_Hb_howLong_18 : decode c_Hb_howLong 18 = .ok (.aload_n 0, 1) := by decide +kernel
theorem d_Hb_howLong_19 : decode c_Hb_howLong 19 = .ok (.getfield 42, 3) := by decide +kernel
theorem d_Hb_howLong_22 : decode c_Hb_howLong 22 = .ok (.getfield 107, 3) := by decide +kernel
theorem d_Hb_howLong_25 : decode c_Hb_howLong 25 = .ok (.iload_n 1, 1) := by decide +kernel
theorem d_Hb_howLong_26 : decode c_Hb_howLong 26 = .ok (.aaload, 1) := by decide +kernel
theorem d_Hb_howLong_27 : decode c_Hb_howLong 27 = .ok (.iload_n 2, 1) := by decide +kernel
theorem d_Hb_howLong_28 : decode c_Hb_howLong 28 = .ok (.invokevirtual 158, 3) := by decide +kernel
theorem d_Hb_howLong_31 : decode c_Hb_howLong 31 = .ok (.ireturn, 1) := by decide +kernel
theorem d_Hb_behind_0 : decode c_Hb_behind 0 = .ok (.aload_n 0, 1) := by decide +kernel
theorem d_Hb_behind_1 : decode c_Hb_behind 1 = .ok (.iload_n 1, 1) := by decide +kernel
theorem d_Hb_behind_2 : decode c_Hb_behind 2 = .ok (.invokevirtual 103, 3) := by decide +kernel
theorem d_Hb_behind_5 : decode c_Hb_behind 5 = .ok (.ifCond .eq 20, 3) := by decide +kernel
theorem d_Hb_behind_8 : decode c_Hb_behind 8 = .ok (.iload_n 2, 1) := by decide +kernel
theorem d_Hb_behind_9 : decode c_Hb_behind 9 = .ok (.iconst 0, 1) := by decide +kernel
theorem d_Hb_behind_10 : decode c_Hb_behind 10 = .ok (.bipush 60, 2) := by decide +kernel
theorem d_Hb_behind_12 : decode c_Hb_behind 12 = .ok (.invokestatic 169, 3) := by decide +kernel
theorem d_Hb_behind_15 : decode c_Hb_behind 15 = .ok (.ifCond .eq 10, 3) := by decide +kernel
theorem d_Hb_behind_18 : decode c_Hb_behind 18 = .ok (.iload_n 3, 1) := by decide +kernel
theorem d_Hb_behind_19 : decode c_Hb_behind 19 = .ok (.invokestatic 180, 3) := by decide +kernel
theorem d_Hb_behind_22 : decode c_Hb_behind 22 = .ok (.ifCond .ne 5, 3) := by decide +kernel
theorem d_Hb_behind_25 : decode c_Hb_behind 25 = .ok (.iconst (-1), 1) := by decide +kernel
theorem d_Hb_behind_26 : decode c_Hb_behind 26 = .ok (.ireturn, 1) := by decide +kernel
theorem d_Hb_behind_27 : decode c_Hb_behind 27 = .ok (.aload_n 0, 1) := by decide +kernel
theorem d_Hb_behind_28 : decode c_Hb_behind 28 = .ok (.getfield 58, 3) := by decide +kernel
theorem d_Hb_behind_31 : decode c_Hb_behind 31 = .ok (.aload_n 0, 1) := by decide +kernel
theorem d_Hb_behind_32 : decode c_Hb_behind 32 = .ok (.getfield 42, 3) := by decide +kernel
theorem d_Hb_behind_35 : decode c_Hb_behind 35 = .ok (.getfield 107, 3) := by decide +kernel
theorem d_Hb_behind_38 : decode c_Hb_behind 38 = .ok (.iload_n 1, 1) := by decide +kernel
theorem d_Hb_behind_39 : decode c_Hb_behind 39 = .ok (.aaload, 1) := by decide +kernel
theorem d_Hb_behind_40 : decode c_Hb_behind 40 = .ok (.invokevirtual 183, 3) := by decide +kernel
theorem d_Hb_behind_43 : decode c_Hb_behind 43 = .ok (.aload_n 0, 1) := by decide +kernel
theorem d_Hb_behind_44 : decode c_Hb_behind 44 = .ok (.getfield 58, 3) := by decide +kernel
theorem d_Hb_behind_47 : decode c_Hb_behind 47 = .ok (.iload_n 2, 1) := by decide +kernel
theorem d_Hb_behind_48 : decode c_Hb_behind 48 = .ok (.aload_n 0, 1) := by decide +kernel
theorem d_Hb_behind_49 : decode c_Hb_behind 49 = .ok (.getfield 42, 3) := by decide +kernel
theorem d_Hb_behind_52 : decode c_Hb_behind 52 = .ok (.getfield 131, 3) := by decide +kernel
theorem d_Hb_behind_55 : decode c_Hb_behind 55 = .ok (.invokevirtual 186, 3) := by decide +kernel
theorem d_Hb_behind_58 : decode c_Hb_behind 58 = .ok (.iload_n 3, 1) := by decide +kernel
theorem d_Hb_behind_59 : decode c_Hb_behind 59 = .ok (.ifCond .ne 13, 3) := by decide +kernel
theorem d_Hb_behind_62 : decode c_Hb_behind 62 = .ok (.aload_n 0, 1) := by decide +kernel
theorem d_Hb_behind_63 : decode c_Hb_behind 63 = .ok (.getfield 58, 3) := by decide +kernel
theorem d_Hb_behind_66 : decode c_Hb_behind 66 = .ok (.getfield 128, 3) := by decide +kernel
theorem d_Hb_behind_69 : decode c_Hb_behind 69 = .ok (.goto 10, 3) := by decide +kernel
theorem d_Hb_behind_72 : decode c_Hb_behind 72 = .ok (.aload_n 0, 1) := by decide +kernel
theorem d_Hb_behind_73 : decode c_Hb_behind 73 = .ok (.getfield 58, 3) := by decide +kernel
theorem d_Hb_behind_76 : decode c_Hb_behind 76 = .ok (.invokevirtual 137, 3) := by decide +kernel
theorem d_Hb_behind_79 : decode c_Hb_behind 79 = .ok (.ireturn, 1) := by decide +kernel
theorem d_Hb_chain_0 : decode c_Hb_chain 0 = .ok (.iload_n 1, 1) := by decide +kernel
theorem d_Hb_chain_1 : decode c_Hb_chain 1 = .ok (.invokestatic 143, 3) := by decide +kernel
theorem d_Hb_chain_4 : decode c_Hb_chain 4 = .ok (.ifCond .eq 17, 3) := by decide +kernel
theorem d_Hb_chain_7 : decode c_Hb_chain 7 = .ok (.iload_n 2, 1) := by decide +kernel
theorem d_Hb_chain_8 : decode c_Hb_chain 8 = .ok (.invokestatic 143, 3) := by decide +kernel
theorem d_Hb_chain_11 : decode c_Hb_chain 11 = .ok (.ifCond .eq 10, 3) := by decide +kernel
theorem d_Hb_chain_14 : decode c_Hb_chain 14 = .ok (.iload_n 3, 1) := by decide +kernel
theorem d_Hb_chain_15 : decode c_Hb_chain 15 = .ok (.invokestatic 180, 3) := by decide +kernel
theorem d_Hb_chain_18 : decode c_Hb_chain 18 = .ok (.ifCond .ne 5, 3) := by decide +kernel
theorem d_Hb_chain_21 : decode c_Hb_chain 21 = .ok (.iconst (-1), 1) := by decide +kernel
theorem d_Hb_chain_22 : decode c_Hb_chain 22 = .ok (.ireturn, 1) := by decide +kernel
theorem d_Hb_chain_23 : decode c_Hb_chain 23 = .ok (.iload_n 1, 1) := by decide +kernel
theorem d_Hb_chain_24 : decode c_Hb_chain 24 = .ok (.iload_n 2, 1) := by decide +kernel
theorem d_Hb_chain_25 : decode c_Hb_chain 25 = .ok (.if_icmp .ne 14, 3) := by decide +kernel
theorem d_Hb_chain_28 : decode c_Hb_chain 28 = .ok (.iload_n 3, 1) := by decide +kernel
theorem d_Hb_chain_29 : decode c_Hb_chain 29 = .ok (.ifCond .ne 7, 3) := by decide +kernel
theorem d_Hb_chain_32 : decode c_Hb_chain 32 = .ok (.iconst 0, 1) := by decide +kernel
theorem d_Hb_chain_33 : decode c_Hb_chain 33 = .ok (.goto 5, 3) := by decide +kernel
theorem d_Hb_chain_36 : decode c_Hb_chain 36 = .ok (.bipush (-4), 2) := by decide +kernel
theorem d_Hb_chain_38 : decode c_Hb_chain 38 = .ok (.ireturn, 1) := by decide +kernel
theorem d_Hb_chain_39 : decode c_Hb_chain 39 = .ok (.aload_n 0, 1) := by decide +kernel
theorem d_Hb_chain_40 : decode c_Hb_chain 40 = .ok (.getfield 49, 3) := by decide +kernel
theorem d_Hb_chain_43 : decode c_Hb_chain 43 = .ok (.iconst 0, 1) := by decide +kernel
theorem d_Hb_chain_44 : decode c_Hb_chain 44 = .ok (.aaload, 1) := by decide +kernel
theorem d_Hb_chain_45 : decode c_Hb_chain 45 = .ok (.aload_n 0, 1) := by decide +kernel
theorem d_Hb_chain_46 : decode c_Hb_chain 46 = .ok (.getfield 42, 3) := by decide +kernel
theorem d_Hb_chain_49 : decode c_Hb_chain 49 = .ok (.invokevirtual 85, 3) := by decide +kernel
theorem d_Hb_chain_52 : decode c_Hb_chain 52 = .ok (.sipush 1000, 3) := by decide +kernel
theorem d_Hb_chain_55 : decode c_Hb_chain 55 = .ok (.istore 4, 2) := by decide +kernel
theorem d_Hb_chain_57 : decode c_Hb_chain 57 = .ok (.bipush (-4), 2) := by decide +kernel
theorem d_Hb_chain_59 : decode c_Hb_chain 59 = .ok (.istore 5, 2) := by decide +kernel
theorem d_Hb_chain_61 : decode c_Hb_chain 61 = .ok (.iconst 0, 1) := by decide +kernel
theorem d_Hb_chain_62 : decode c_Hb_chain 62 = .ok (.istore 6, 2) := by decide +kernel
theorem d_Hb_chain_64 : decode c_Hb_chain 64 = .ok (.iload 6, 2) := by decide +kernel
theorem d_Hb_chain_66 : decode c_Hb_chain 66 = .ok (.aload_n 0, 1) := by decide +kernel
theorem d_Hb_chain_67 : decode c_Hb_chain 67 = .ok (.getfield 42, 3) := by decide +kernel
theorem d_Hb_chain_70 : decode c_Hb_chain 70 = .ok (.getfield 149, 3) := by decide +kernel
theorem d_Hb_chain_73 : decode c_Hb_chain 73 = .ok (.if_icmp .ge 64, 3) := by decide +kernel
theorem d_Hb_chain_76 : decode c_Hb_chain 76 = .ok (.aload_n 0, 1) := by decide +kernel
theorem d_Hb_chain_77 : decode c_Hb_chain 77 = .ok (.getfield 42, 3) := by decide +kernel
theorem d_Hb_chain_80 : decode c_Hb_chain 80 = .ok (.getfield 107, 3) := by decide +kernel
theorem d_Hb_chain_83 : decode c_Hb_chain 83 = .ok (.iload 6, 2) := by decide +kernel
theorem d_Hb_chain_85 : decode c_Hb_chain 85 = .ok (.aaload, 1) := by decide +kernel
theorem d_Hb_chain_86 : decode c_Hb_chain 86 = .ok (.getfield 125, 3) := by decide +kernel
theorem d_Hb_chain_89 : decode c_Hb_chain 89 = .ok (.iload_n 1, 1) := by decide +kernel
theorem d_Hb_chain_90 : decode c_Hb_chain 90 = .ok (.if_icmp .ne 21, 3) := by decide +kernel
theorem d_Hb_chain_93 : decode c_Hb_chain 93 = .ok (.aload_n 0, 1) := by decide +kernel
theorem d_Hb_chain_94 : decode c_Hb_chain 94 = .ok (.getfield 49, 3) := by decide +kernel
theorem d_Hb_chain_97 : decode c_Hb_chain 97 = .ok (.iconst 0, 1) := by decide +kernel
theorem d_Hb_chain_98 : decode c_Hb_chain 98 = .ok (.iload 6, 2) := by decide +kernel
theorem d_Hb_chain_100 : decode c_Hb_chain 100 = .ok (.iload_n 2, 1) := by decide +kernel
theorem d_Hb_chain_101 : decode c_Hb_chain 101 = .ok (.iconst 1, 1) := by decide +kernel
theorem d_Hb_chain_102 : decode c_Hb_chain 102 = .ok (.iload 6, 2) := by decide +kernel
theorem d_Hb_chain_104 : decode c_Hb_chain 104 = .ok (.ishl, 1) := by decide +kernel
theorem d_Hb_chain_105 : decode c_Hb_chain 105 = .ok (.invokestatic 190, 3) := by decide +kernel
theorem d_Hb_chain_108 : decode c_Hb_chain 108 = .ok (.goto 6, 3) := by decide +kernel
theorem d_Hb_chain_111 : decode c_Hb_chain 111 = .ok (.sipush 1000, 3) := by decide +kernel
theorem d_Hb_chain_114 : decode c_Hb_chain 114 = .ok (.istore 7, 2) := by decide +kernel
theorem d_Hb_chain_116 : decode c_Hb_chain 116 = .ok (.iload 7, 2) := by decide +kernel
theorem d_Hb_chain_118 : decode c_Hb_chain 118 = .ok (.iload 4, 2) := by decide +kernel
theorem d_Hb_chain_120 : decode c_Hb_chain 120 = .ok (.if_icmp .ge 11, 3) := by decide +kernel
theorem d_Hb_chain_123 : decode c_Hb_chain 123 = .ok (.iload 7, 2) := by decide +kernel
theorem d_Hb_chain_125 : decode c_Hb_chain 125 = .ok (.istore 4, 2) := by decide +kernel
theorem d_Hb_chain_127 : decode c_Hb_chain 127 = .ok (.iload 6, 2) := by decide +kernel
theorem d_Hb_chain_129 : decode c_Hb_chain 129 = .ok (.istore 5, 2) := by decide +kernel
theorem d_Hb_chain_131 : decode c_Hb_chain 131 = .ok (.iinc 6 1, 3) := by decide +kernel
theorem d_Hb_chain_134 : decode c_Hb_chain 134 = .ok (.goto (-70), 3) := by decide +kernel
theorem d_Hb_chain_137 : decode c_Hb_chain 137 = .ok (.iload 4, 2) := by decide +kernel
theorem d_Hb_chain_139 : decode c_Hb_chain 139 = .ok (.sipush 1000, 3) := by decide +kernel
theorem d_Hb_chain_142 : decode c_Hb_chain 142 = .ok (.if_icmp .lt 6, 3) := by decide +kernel
theorem d_Hb_chain_145 : decode c_Hb_chain 145 = .ok (.bipush (-4), 2) := by decide +kernel
theorem d_Hb_chain_147 : decode c_Hb_chain 147 = .ok (.ireturn, 1) := by decide +kernel
theorem d_Hb_chain_148 : decode c_Hb_chain 148 = .ok (.iload_n 3, 1) := by decide +kernel
theorem d_Hb_chain_149 : decode c_Hb_chain 149 = .ok (.ifCond .ne 8, 3) := by decide +kernel
theorem d_Hb_chain_152 : decode c_Hb_chain 152 = .ok (.iload 4, 2) := by decide +kernel
theorem d_Hb_chain_154 : decode c_Hb_chain 154 = .ok (.goto 5, 3) := by decide +kernel
theorem d_Hb_chain_157 : decode c_Hb_chain 157 = .ok (.iload 5, 2) := by decide +kernel
theorem d_Hb_chain_159 : decode c_Hb_chain 159 = .ok (.ireturn, 1) := by decide +kernel
theorem d_Hb_hurry_0 : decode c_Hb_hurry 0 = .ok (.iload_n 1, 1) := by decide +kernel
theorem d_Hb_hurry_1 : decode c_Hb_hurry 1 = .ok (.invokestatic 143, 3) := by decide +kernel
theorem d_Hb_hurry_4 : decode c_Hb_hurry 4 = .ok (.ifCond .eq 10, 3) := by decide +kernel
theorem d_Hb_hurry_7 : decode c_Hb_hurry 7 = .ok (.iload_n 2, 1) := by decide +kernel
theorem d_Hb_hurry_8 : decode c_Hb_hurry 8 = .ok (.invokestatic 180, 3) := by decide +kernel
theorem d_Hb_hurry_11 : decode c_Hb_hurry 11 = .ok (.ifCond .ne 5, 3) := by decide +kernel
theorem d_Hb_hurry_14 : decode c_Hb_hurry 14 = .ok (.iconst (-1), 1) := by decide +kernel
theorem d_Hb_hurry_15 : decode c_Hb_hurry 15 = .ok (.ireturn, 1) := by decide +kernel
theorem d_Hb_hurry_16 : decode c_Hb_hurry 16 = .ok (.bipush (-4), 2) := by decide +kernel
theorem d_Hb_hurry_18 : decode c_Hb_hurry 18 = .ok (.istore_n 3, 1) := by decide +kernel
theorem d_Hb_hurry_19 : decode c_Hb_hurry 19 = .ok (.sipush 1000, 3) := by decide +kernel
theorem d_Hb_hurry_22 : decode c_Hb_hurry 22 = .ok (.istore 4, 2) := by decide +kernel
theorem d_Hb_hurry_24 : decode c_Hb_hurry 24 = .ok (.iconst 0, 1) := by decide +kernel
theorem d_Hb_hurry_25 : decode c_Hb_hurry 25 = .ok (.istore 5, 2) := by decide +kernel
theorem d_Hb_hurry_27 : decode c_Hb_hurry 27 = .ok (.iload 5, 2) := by decide +kernel
theorem d_Hb_hurry_29 : decode c_Hb_hurry 29 = .ok (.aload_n 0, 1) := by decide +kernel
theorem d_Hb_hurry_30 : decode c_Hb_hurry 30 = .ok (.getfield 42, 3) := by decide +kernel
theorem d_Hb_hurry_33 : decode c_Hb_hurry 33 = .ok (.getfield 149, 3) := by decide +kernel
theorem d_Hb_hurry_36 : decode c_Hb_hurry 36 = .ok (.if_icmp .ge 40, 3) := by decide +kernel
theorem d_Hb_hurry_39 : decode c_Hb_hurry 39 = .ok (.aload_n 0, 1) := by decide +kernel
theorem d_Hb_hurry_40 : decode c_Hb_hurry 40 = .ok (.aload_n 0, 1) := by decide +kernel
theorem d_Hb_hurry_41 : decode c_Hb_hurry 41 = .ok (.getfield 42, 3) := by decide +kernel
theorem d_Hb_hurry_44 : decode c_Hb_hurry 44 = .ok (.getfield 107, 3) := by decide +kernel
theorem d_Hb_hurry_47 : decode c_Hb_hurry 47 = .ok (.iload 5, 2) := by decide +kernel
theorem d_Hb_hurry_49 : decode c_Hb_hurry 49 = .ok (.aaload, 1) := by decide +kernel
theorem d_Hb_hurry_50 : decode c_Hb_hurry 50 = .ok (.iload_n 1, 1) := by decide +kernel
theorem d_Hb_hurry_51 : decode c_Hb_hurry 51 = .ok (.invokevirtual 158, 3) := by decide +kernel
theorem d_Hb_hurry_54 : decode c_Hb_hurry 54 = .ok (.istore 6, 2) := by decide +kernel
theorem d_Hb_hurry_56 : decode c_Hb_hurry 56 = .ok (.iload 6, 2) := by decide +kernel
theorem d_Hb_hurry_58 : decode c_Hb_hurry 58 = .ok (.iload 4, 2) := by decide +kernel
theorem d_Hb_hurry_60 : decode c_Hb_hurry 60 = .ok (.if_icmp .ge 10, 3) := by decide +kernel
theorem d_Hb_hurry_63 : decode c_Hb_hurry 63 = .ok (.iload 6, 2) := by decide +kernel
theorem d_Hb_hurry_65 : decode c_Hb_hurry 65 = .ok (.istore 4, 2) := by decide +kernel
theorem d_Hb_hurry_67 : decode c_Hb_hurry 67 = .ok (.iload 5, 2) := by decide +kernel
theorem d_Hb_hurry_69 : decode c_Hb_hurry 69 = .ok (.istore_n 3, 1) := by decide +kernel
theorem d_Hb_hurry_70 : decode c_Hb_hurry 70 = .ok (.iinc 5 1, 3) := by decide +kernel
theorem d_Hb_hurry_73 : decode c_Hb_hurry 73 = .ok (.goto (-46), 3) := by decide +kernel
theorem d_Hb_hurry_76 : decode c_Hb_hurry 76 = .ok (.iload_n 3, 1) := by decide +kernel
theorem d_Hb_hurry_77 : decode c_Hb_hurry 77 = .ok (.bipush (-4), 2) := by decide +kernel
theorem d_Hb_hurry_79 : decode c_Hb_hurry 79 = .ok (.if_icmp .ne 6, 3) := by decide +kernel
theorem d_Hb_hurry_82 : decode c_Hb_hurry 82 = .ok (.bipush (-4), 2) := by decide +kernel
theorem d_Hb_hurry_84 : decode c_Hb_hurry 84 = .ok (.ireturn, 1) := by decide +kernel
theorem d_Hb_hurry_85 : decode c_Hb_hurry 85 = .ok (.iload_n 2, 1) := by decide +kernel
theorem d_Hb_hurry_86 : decode c_Hb_hurry 86 = .ok (.ifCond .ne 7, 3) := by decide +kernel
theorem d_Hb_hurry_89 : decode c_Hb_hurry 89 = .ok (.iload_n 3, 1) := by decide +kernel
theorem d_Hb_hurry_90 : decode c_Hb_hurry 90 = .ok (.goto 5, 3) := by decide +kernel
theorem d_Hb_hurry_93 : decode c_Hb_hurry 93 = .ok (.iload 4, 2) := by decide +kernel
theorem d_Hb_hurry_95 : decode c_Hb_hurry 95 = .ok (.ireturn, 1) := by decide +kernel
theorem d_Hb_fastest_0 : decode c_Hb_fastest 0 = .ok (.iload_n 1, 1) := by decide +kernel
theorem d_Hb_fastest_1 : decode c_Hb_fastest 1 = .ok (.iconst 0, 1) := by decide +kernel
theorem d_Hb_fastest_2 : decode c_Hb_fastest 2 = .ok (.bipush 60, 2) := by decide +kernel
theorem d_Hb_fastest_4 : decode c_Hb_fastest 4 = .ok (.invokestatic 169, 3) := by decide +kernel
theorem d_Hb_fastest_7 : decode c_Hb_fastest 7 = .ok (.ifCond .ne 5, 3) := by decide +kernel
theorem d_Hb_fastest_10 : decode c_Hb_fastest 10 = .ok (.iconst (-1), 1) := by decide +kernel
theorem d_Hb_fastest_11 : decode c_Hb_fastest 11 = .ok (.ireturn, 1) := by decide +kernel
theorem d_Hb_fastest_12 : decode c_Hb_fastest 12 = .ok (.bipush (-4), 2) := by decide +kernel
theorem d_Hb_fastest_14 : decode c_Hb_fastest 14 = .ok (.istore_n 2, 1) := by decide +kernel
theorem d_Hb_fastest_15 : decode c_Hb_fastest 15 = .ok (.iconst 0, 1) := by decide +kernel
theorem d_Hb_fastest_16 : decode c_Hb_fastest 16 = .ok (.istore_n 3, 1) := by decide +kernel
theorem d_Hb_fastest_17 : decode c_Hb_fastest 17 = .ok (.iconst 0, 1) := by decide +kernel
theorem d_Hb_fastest_18 : decode c_Hb_fastest 18 = .ok (.istore 4, 2) := by decide +kernel
theorem d_Hb_fastest_20 : decode c_Hb_fastest 20 = .ok (.iload 4, 2) := by decide +kernel
theorem d_Hb_fastest_22 : decode c_Hb_fastest 22 = .ok (.aload_n 0, 1) := by decide +kernel
theorem d_Hb_fastest_23 : decode c_Hb_fastest 23 = .ok (.getfield 42, 3) := by decide +kernel
theorem d_Hb_fastest_26 : decode c_Hb_fastest 26 = .ok (.getfield 149, 3) := by decide +kernel
theorem d_Hb_fastest_29 : decode c_Hb_fastest 29 = .ok (.if_icmp .ge 63, 3) := by decide +kernel
theorem d_Hb_fastest_32 : decode c_Hb_fastest 32 = .ok (.aload_n 0, 1) := by decide +kernel
theorem d_Hb_fastest_33 : decode c_Hb_fastest 33 = .ok (.getfield 58, 3) := by decide +kernel
theorem d_Hb_fastest_36 : decode c_Hb_fastest 36 = .ok (.aload_n 0, 1) := by decide +kernel
theorem d_Hb_fastest_37 : decode c_Hb_fastest 37 = .ok (.getfield 42, 3) := by decide +kernel
theorem d_Hb_fastest_40 : decode c_Hb_fastest 40 = .ok (.getfield 107, 3) := by decide +kernel
theorem d_Hb_fastest_43 : decode c_Hb_fastest 43 = .ok (.iload 4, 2) := by decide +kernel
theorem d_Hb_fastest_45 : decode c_Hb_fastest 45 = .ok (.aaload, 1) := by decide +kernel
theorem d_Hb_fastest_46 : decode c_Hb_fastest 46 = .ok (.invokevirtual 183, 3) := by decide +kernel
theorem d_Hb_fastest_49 : decode c_Hb_fastest 49 = .ok (.aload_n 0, 1) := by decide +kernel
theorem d_Hb_fastest_50 : decode c_Hb_fastest 50 = .ok (.getfield 58, 3) := by decide +kernel
theorem d_Hb_fastest_53 : decode c_Hb_fastest 53 = .ok (.iload_n 1, 1) := by decide +kernel
theorem d_Hb_fastest_54 : decode c_Hb_fastest 54 = .ok (.aload_n 0, 1) := by decide +kernel
theorem d_Hb_fastest_55 : decode c_Hb_fastest 55 = .ok (.getfield 42, 3) := by decide +kernel
theorem d_Hb_fastest_58 : decode c_Hb_fastest 58 = .ok (.getfield 131, 3) := by decide +kernel
theorem d_Hb_fastest_61 : decode c_Hb_fastest 61 = .ok (.invokevirtual 186, 3) := by decide +kernel
theorem d_Hb_fastest_64 : decode c_Hb_fastest 64 = .ok (.aload_n 0, 1) := by decide +kernel
theorem d_Hb_fastest_65 : decode c_Hb_fastest 65 = .ok (.getfield 58, 3) := by decide +kernel
theorem d_Hb_fastest_68 : decode c_Hb_fastest 68 = .ok (.invokevirtual 137, 3) := by decide +kernel
theorem d_Hb_fastest_71 : decode c_Hb_fastest 71 = .ok (.iload_n 3, 1) := by decide +kernel
theorem d_Hb_fastest_72 : decode c_Hb_fastest 72 = .ok (.if_icmp .le 14, 3) := by decide +kernel
theorem d_Hb_fastest_75 : decode c_Hb_fastest 75 = .ok (.aload_n 0, 1) := by decide +kernel
theorem d_Hb_fastest_76 : decode c_Hb_fastest 76 = .ok (.getfield 58, 3) := by decide +kernel
theorem d_Hb_fastest_79 : decode c_Hb_fastest 79 = .ok (.invokevirtual 137, 3) := by decide +kernel
theorem d_Hb_fastest_82 : decode c_Hb_fastest 82 = .ok (.istore_n 3, 1) := by decide +kernel
theorem d_Hb_fastest_83 : decode c_Hb_fastest 83 = .ok (.iload 4, 2) := by decide +kernel
theorem d_Hb_fastest_85 : decode c_Hb_fastest 85 = .ok (.istore_n 2, 1) := by decide +kernel
theorem d_Hb_fastest_86 : decode c_Hb_fastest 86 = .ok (.iinc 4 1, 3) := by decide +kernel
theorem d_Hb_fastest_89 : decode c_Hb_fastest 89 = .ok (.goto (-69), 3) := by decide +kernel
theorem d_Hb_fastest_92 : decode c_Hb_fastest 92 = .ok (.iload_n 2, 1) := by decide +kernel
theorem d_Hb_fastest_93 : decode c_Hb_fastest 93 = .ok (.ireturn, 1) := by decide +kernel
theorem d_Hb_away_0 : decode c_Hb_away 0 = .ok (.iconst 0, 1) := by decide +kernel
theorem d_Hb_away_1 : decode c_Hb_away 1 = .ok (.istore_n 1, 1) := by decide +kernel
theorem d_Hb_away_2 : decode c_Hb_away 2 = .ok (.iconst 0, 1) := by decide +kernel
theorem d_Hb_away_3 : decode c_Hb_away 3 = .ok (.istore_n 2, 1) := by decide +kernel
theorem d_Hb_away_4 : decode c_Hb_away 4 = .ok (.iload_n 2, 1) := by decide +kernel
theorem d_Hb_away_5 : decode c_Hb_away 5 = .ok (.aload_n 0, 1) := by decide +kernel
theorem d_Hb_away_6 : decode c_Hb_away 6 = .ok (.getfield 42, 3) := by decide +kernel
theorem d_Hb_away_9 : decode c_Hb_away 9 = .ok (.getfield 149, 3) := by decide +kernel
theorem d_Hb_away_12 : decode c_Hb_away 12 = .ok (.if_icmp .ge 37, 3) := by decide +kernel
theorem d_Hb_away_15 : decode c_Hb_away 15 = .ok (.aload_n 0, 1) := by decide +kernel
theorem d_Hb_away_16 : decode c_Hb_away 16 = .ok (.getfield 42, 3) := by decide +kernel
theorem d_Hb_away_19 : decode c_Hb_away 19 = .ok (.getfield 107, 3) := by decide +kernel
theorem d_Hb_away_22 : decode c_Hb_away 22 = .ok (.iload_n 2, 1) := by decide +kernel
theorem d_Hb_away_23 : decode c_Hb_away 23 = .ok (.aaload, 1) := by decide +kernel
theorem d_Hb_away_24 : decode c_Hb_away 24 = .ok (.aload_n 0, 1) := by decide +kernel
theorem d_Hb_away_25 : decode c_Hb_away 25 = .ok (.getfield 42, 3) := by decide +kernel
theorem d_Hb_away_28 : decode c_Hb_away 28 = .ok (.getfield 131, 3) := by decide +kernel
theorem d_Hb_away_31 : decode c_Hb_away 31 = .ok (.invokevirtual 194, 3) := by decide +kernel
theorem d_Hb_away_34 : decode c_Hb_away 34 = .ok (.ifCond .ne 9, 3) := by decide +kernel
theorem d_Hb_away_37 : decode c_Hb_away 37 = .ok (.iload_n 1, 1) := by decide +kernel
theorem d_Hb_away_38 : decode c_Hb_away 38 = .ok (.iconst 1, 1) := by decide +kernel
theorem d_Hb_away_39 : decode c_Hb_away 39 = .ok (.iload_n 2, 1) := by decide +kernel
theorem d_Hb_away_40 : decode c_Hb_away 40 = .ok (.ishl, 1) := by decide +kernel
theorem d_Hb_away_41 : decode c_Hb_away 41 = .ok (.ior, 1) := by decide +kernel
theorem d_Hb_away_42 : decode c_Hb_away 42 = .ok (.istore_n 1, 1) := by decide +kernel
theorem d_Hb_away_43 : decode c_Hb_away 43 = .ok (.iinc 2 1, 3) := by decide +kernel
theorem d_Hb_away_46 : decode c_Hb_away 46 = .ok (.goto (-42), 3) := by decide +kernel
theorem d_Hb_away_49 : decode c_Hb_away 49 = .ok (.iload_n 1, 1) := by decide +kernel
theorem d_Hb_away_50 : decode c_Hb_away 50 = .ok (.ireturn, 1) := by decide +kernel
theorem d_Hb_ripe_0 : decode c_Hb_ripe 0 = .ok (.aload_n 0, 1) := by decide +kernel
theorem d_Hb_ripe_1 : decode c_Hb_ripe 1 = .ok (.iload_n 1, 1) := by decide +kernel
theorem d_Hb_ripe_2 : decode c_Hb_ripe 2 = .ok (.invokevirtual 103, 3) := by decide +kernel
theorem d_Hb_ripe_5 : decode c_Hb_ripe 5 = .ok (.ifCond .eq 13, 3) := by decide +kernel
theorem d_Hb_ripe_8 : decode c_Hb_ripe 8 = .ok (.iload_n 2, 1) := by decide +kernel
theorem d_Hb_ripe_9 : decode c_Hb_ripe 9 = .ok (.iconst 1, 1) := by decide +kernel
theorem d_Hb_ripe_10 : decode c_Hb_ripe 10 = .ok (.bipush 60, 2) := by decide +kernel
theorem d_Hb_ripe_12 : decode c_Hb_ripe 12 = .ok (.invokestatic 169, 3) := by decide +kernel
theorem d_Hb_ripe_15 : decode c_Hb_ripe 15 = .ok (.ifCond .ne 5, 3) := by decide +kernel
theorem d_Hb_ripe_18 : decode c_Hb_ripe 18 = .ok (.iconst (-1), 1) := by decide +kernel
theorem d_Hb_ripe_19 : decode c_Hb_ripe 19 = .ok (.ireturn, 1) := by decide +kernel
theorem d_Hb_ripe_20 : decode c_Hb_ripe 20 = .ok (.aload_n 0, 1) := by decide +kernel
theorem d_Hb_ripe_21 : decode c_Hb_ripe 21 = .ok (.getfield 58, 3) := by decide +kernel
theorem d_Hb_ripe_24 : decode c_Hb_ripe 24 = .ok (.aload_n 0, 1) := by decide +kernel
theorem d_Hb_ripe_25 : decode c_Hb_ripe 25 = .ok (.getfield 42, 3) := by decide +kernel
theorem d_Hb_ripe_28 : decode c_Hb_ripe 28 = .ok (.getfield 107, 3) := by decide +kernel
theorem d_Hb_ripe_31 : decode c_Hb_ripe 31 = .ok (.iload_n 1, 1) := by decide +kernel
theorem d_Hb_ripe_32 : decode c_Hb_ripe 32 = .ok (.aaload, 1) := by decide +kernel
theorem d_Hb_ripe_33 : decode c_Hb_ripe 33 = .ok (.invokevirtual 183, 3) := by decide +kernel
theorem d_Hb_ripe_36 : decode c_Hb_ripe 36 = .ok (.iconst 0, 1) := by decide +kernel
theorem d_Hb_ripe_37 : decode c_Hb_ripe 37 = .ok (.istore_n 3, 1) := by decide +kernel
theorem d_Hb_ripe_38 : decode c_Hb_ripe 38 = .ok (.iload_n 3, 1) := by decide +kernel
theorem d_Hb_ripe_39 : decode c_Hb_ripe 39 = .ok (.bipush 60, 2) := by decide +kernel
theorem d_Hb_ripe_41 : decode c_Hb_ripe 41 = .ok (.if_icmp .gt 37, 3) := by decide +kernel
theorem d_Hb_ripe_44 : decode c_Hb_ripe 44 = .ok (.aload_n 0, 1) := by decide +kernel
theorem d_Hb_ripe_45 : decode c_Hb_ripe 45 = .ok (.getfield 58, 3) := by decide +kernel
theorem d_Hb_ripe_48 : decode c_Hb_ripe 48 = .ok (.invokevirtual 137, 3) := by decide +kernel
theorem d_Hb_ripe_51 : decode c_Hb_ripe 51 = .ok (.iload_n 2, 1) := by decide +kernel
theorem d_Hb_ripe_52 : decode c_Hb_ripe 52 = .ok (.if_icmp .lt 5, 3) := by decide +kernel
theorem d_Hb_ripe_55 : decode c_Hb_ripe 55 = .ok (.iload_n 3, 1) := by decide +kernel
theorem d_Hb_ripe_56 : decode c_Hb_ripe 56 = .ok (.ireturn, 1) := by decide +kernel
theorem d_Hb_ripe_57 : decode c_Hb_ripe 57 = .ok (.aload_n 0, 1) := by decide +kernel
theorem d_Hb_ripe_58 : decode c_Hb_ripe 58 = .ok (.getfield 58, 3) := by decide +kernel
theorem d_Hb_ripe_61 : decode c_Hb_ripe 61 = .ok (.iconst 1, 1) := by decide +kernel
theorem d_Hb_ripe_62 : decode c_Hb_ripe 62 = .ok (.aload_n 0, 1) := by decide +kernel
theorem d_Hb_ripe_63 : decode c_Hb_ripe 63 = .ok (.getfield 42, 3) := by decide +kernel
theorem d_Hb_ripe_66 : decode c_Hb_ripe 66 = .ok (.getfield 131, 3) := by decide +kernel
theorem d_Hb_ripe_69 : decode c_Hb_ripe 69 = .ok (.invokevirtual 186, 3) := by decide +kernel
theorem d_Hb_ripe_72 : decode c_Hb_ripe 72 = .ok (.iinc 3 1, 3) := by decide +kernel
theorem d_Hb_ripe_75 : decode c_Hb_ripe 75 = .ok (.goto (-37), 3) := by decide +kernel
theorem d_Hb_ripe_78 : decode c_Hb_ripe 78 = .ok (.bipush (-4), 2) := by decide +kernel
theorem d_Hb_ripe_80 : decode c_Hb_ripe 80 = .ok (.ireturn, 1) := by decide +kernel
theorem d_Hb_leastLonging_0 : decode c_Hb_leastLonging 0 = .ok (.aload_n 0, 1) := by decide +kernel
theorem d_Hb_leastLonging_1 : decode c_Hb_leastLonging 1 = .ok (.iload_n 1, 1) := by decide +kernel
theorem d_Hb_leastLonging_2 : decode c_Hb_leastLonging 2 = .ok (.invokevirtual 103, 3) := by decide +kernel
theorem d_Hb_leastLonging_5 : decode c_Hb_leastLonging 5 = .ok (.ifCond .eq 20, 3) := by decide +kernel
theorem d_Hb_leastLonging_8 : decode c_Hb_leastLonging 8 = .ok (.iload_n 2, 1) := by decide +kernel
theorem d_Hb_leastLonging_9 : decode c_Hb_leastLonging 9 = .ok (.invokestatic 143, 3) := by decide +kernel
theorem d_Hb_leastLonging_12 : decode c_Hb_leastLonging 12 = .ok (.ifCond .eq 13, 3) := by decide +kernel
theorem d_Hb_leastLonging_15 : decode c_Hb_leastLonging 15 = .ok (.iload_n 3, 1) := by decide +kernel
theorem d_Hb_leastLonging_16 : decode c_Hb_leastLonging 16 = .ok (.iconst 0, 1) := by decide +kernel
theorem d_Hb_leastLonging_17 : decode c_Hb_leastLonging 17 = .ok (.bipush 20, 2) := by decide +kernel
theorem d_Hb_leastLonging_19 : decode c_Hb_leastLonging 19 = .ok (.invokestatic 169, 3) := by decide +kernel
theorem d_Hb_leastLonging_22 : decode c_Hb_leastLonging 22 = .ok (.ifCond .ne 5, 3) := by decide +kernel
theorem d_Hb_leastLonging_25 : decode c_Hb_leastLonging 25 = .ok (.iconst (-1), 1) := by decide +kernel
theorem d_Hb_leastLonging_26 : decode c_Hb_leastLonging 26 = .ok (.ireturn, 1) := by decide +kernel
theorem d_Hb_leastLonging_27 : decode c_Hb_leastLonging 27 = .ok (.iconst 0, 1) := by decide +kernel
theorem d_Hb_leastLonging_28 : decode c_Hb_leastLonging 28 = .ok (.istore 4, 2) := by decide +kernel
theorem d_Hb_leastLonging_30 : decode c_Hb_leastLonging 30 = .ok (.iload 4, 2) := by decide +kernel
theorem d_Hb_leastLonging_32 : decode c_Hb_leastLonging 32 = .ok (.bipush 99, 2) := by decide +kernel
theorem d_Hb_leastLonging_34 : decode c_Hb_leastLonging 34 = .ok (.if_icmp .gt 56, 3) := by decide +kernel
theorem d_Hb_leastLonging_37 : decode c_Hb_leastLonging 37 = .ok (.aload_n 0, 1) := by decide +kernel
theorem d_Hb_leastLonging_38 : decode c_Hb_leastLonging 38 = .ok (.getfield 58, 3) := by decide +kernel
theorem d_Hb_leastLonging_41 : decode c_Hb_leastLonging 41 = .ok (.aload_n 0, 1) := by decide +kernel
theorem d_Hb_leastLonging_42 : decode c_Hb_leastLonging 42 = .ok (.getfield 42, 3) := by decide +kernel
theorem d_Hb_leastLonging_45 : decode c_Hb_leastLonging 45 = .ok (.getfield 107, 3) := by decide +kernel
theorem d_Hb_leastLonging_48 : decode c_Hb_leastLonging 48 = .ok (.iload_n 1, 1) := by decide +kernel
theorem d_Hb_leastLonging_49 : decode c_Hb_leastLonging 49 = .ok (.aaload, 1) := by decide +kernel
theorem d_Hb_leastLonging_50 : decode c_Hb_leastLonging 50 = .ok (.invokevirtual 183, 3) := by decide +kernel
theorem d_Hb_leastLonging_53 : decode c_Hb_leastLonging 53 = .ok (.aload_n 0, 1) := by decide +kernel
theorem d_Hb_leastLonging_54 : decode c_Hb_leastLonging 54 = .ok (.getfield 58, 3) := by decide +kernel
theorem d_Hb_leastLonging_57 : decode c_Hb_leastLonging 57 = .ok (.iload 4, 2) := by decide +kernel
theorem d_Hb_leastLonging_59 : decode c_Hb_leastLonging 59 = .ok (.putfield 128, 3) := by decide +kernel
theorem d_Hb_leastLonging_62 : decode c_Hb_leastLonging 62 = .ok (.aload_n 0, 1) := by decide +kernel
theorem d_Hb_leastLonging_63 : decode c_Hb_leastLonging 63 = .ok (.getfield 58, 3) := by decide +kernel
theorem d_Hb_leastLonging_66 : decode c_Hb_leastLonging 66 = .ok (.iload_n 2, 1) := by decide +kernel
theorem d_Hb_leastLonging_67 : decode c_Hb_leastLonging 67 = .ok (.aload_n 0, 1) := by decide +kernel
theorem d_Hb_leastLonging_68 : decode c_Hb_leastLonging 68 = .ok (.getfield 42, 3) := by decide +kernel
theorem d_Hb_leastLonging_71 : decode c_Hb_leastLonging 71 = .ok (.getfield 131, 3) := by decide +kernel
theorem d_Hb_leastLonging_74 : decode c_Hb_leastLonging 74 = .ok (.invokevirtual 197, 3) := by decide +kernel
theorem d_Hb_leastLonging_77 : decode c_Hb_leastLonging 77 = .ok (.iload_n 3, 1) := by decide +kernel
theorem d_Hb_leastLonging_78 : decode c_Hb_leastLonging 78 = .ok (.if_icmp .gt 6, 3) := by decide +kernel
theorem d_Hb_leastLonging_81 : decode c_Hb_leastLonging 81 = .ok (.iload 4, 2) := by decide +kernel
theorem d_Hb_leastLonging_83 : decode c_Hb_leastLonging 83 = .ok (.ireturn, 1) := by decide +kernel
theorem d_Hb_leastLonging_84 : decode c_Hb_leastLonging 84 = .ok (.iinc 4 1, 3) := by decide +kernel
theorem d_Hb_leastLonging_87 : decode c_Hb_leastLonging 87 = .ok (.goto (-57), 3) := by decide +kernel
theorem d_Hb_leastLonging_90 : decode c_Hb_leastLonging 90 = .ok (.bipush (-4), 2) := by decide +kernel
theorem d_Hb_leastLonging_92 : decode c_Hb_leastLonging 92 = .ok (.ireturn, 1) := by decide +kernel
theorem d_Hb_soonest_0 : decode c_Hb_soonest 0 = .ok (.aload_n 0, 1) := by decide +kernel
theorem d_Hb_soonest_1 : decode c_Hb_soonest 1 = .ok (.iload_n 1, 1) := by decide +kernel
theorem d_Hb_soonest_2 : decode c_Hb_soonest 2 = .ok (.invokevirtual 103, 3) := by decide +kernel
theorem d_Hb_soonest_5 : decode c_Hb_soonest 5 = .ok (.ifCond .eq 17, 3) := by decide +kernel
theorem d_Hb_soonest_8 : decode c_Hb_soonest 8 = .ok (.iload_n 2, 1) := by decide +kernel
theorem d_Hb_soonest_9 : decode c_Hb_soonest 9 = .ok (.invokestatic 143, 3) := by decide +kernel
theorem d_Hb_soonest_12 : decode c_Hb_soonest 12 = .ok (.ifCond .eq 10, 3) := by decide +kernel
theorem d_Hb_soonest_15 : decode c_Hb_soonest 15 = .ok (.iload_n 3, 1) := by decide +kernel
theorem d_Hb_soonest_16 : decode c_Hb_soonest 16 = .ok (.invokestatic 180, 3) := by decide +kernel
theorem d_Hb_soonest_19 : decode c_Hb_soonest 19 = .ok (.ifCond .ne 5, 3) := by decide +kernel
theorem d_Hb_soonest_22 : decode c_Hb_soonest 22 = .ok (.iconst (-1), 1) := by decide +kernel
theorem d_Hb_soonest_23 : decode c_Hb_soonest 23 = .ok (.ireturn, 1) := by decide +kernel
theorem d_Hb_soonest_24 : decode c_Hb_soonest 24 = .ok (.iconst 0, 1) := by decide +kernel
theorem d_Hb_soonest_25 : decode c_Hb_soonest 25 = .ok (.istore 4, 2) := by decide +kernel
theorem d_Hb_soonest_27 : decode c_Hb_soonest 27 = .ok (.sipush 1000, 3) := by decide +kernel
theorem d_Hb_soonest_30 : decode c_Hb_soonest 30 = .ok (.istore 5, 2) := by decide +kernel
theorem d_Hb_soonest_32 : decode c_Hb_soonest 32 = .ok (.iconst 0, 1) := by decide +kernel
theorem d_Hb_soonest_33 : decode c_Hb_soonest 33 = .ok (.istore 6, 2) := by decide +kernel
theorem d_Hb_soonest_35 : decode c_Hb_soonest 35 = .ok (.iload 6, 2) := by decide +kernel
theorem d_Hb_soonest_37 : decode c_Hb_soonest 37 = .ok (.bipush 30, 2) := by decide +kernel
theorem d_Hb_soonest_39 : decode c_Hb_soonest 39 = .ok (.if_icmp .gt 42, 3) := by decide +kernel
theorem d_Hb_soonest_42 : decode c_Hb_soonest 42 = .ok (.aload_n 0, 1) := by decide +kernel
theorem d_Hb_soonest_43 : decode c_Hb_soonest 43 = .ok (.aload_n 0, 1) := by decide +kernel
theorem d_Hb_soonest_44 : decode c_Hb_soonest 44 = .ok (.getfield 42, 3) := by decide +kernel
theorem d_Hb_soonest_47 : decode c_Hb_soonest 47 = .ok (.getfield 107, 3) := by decide +kernel
theorem d_Hb_soonest_50 : decode c_Hb_soonest 50 = .ok (.iload_n 1, 1) := by decide +kernel
theorem d_Hb_soonest_51 : decode c_Hb_soonest 51 = .ok (.aaload, 1) := by decide +kernel
theorem d_Hb_soonest_52 : decode c_Hb_soonest 52 = .ok (.iload 6, 2) := by decide +kernel
theorem d_Hb_soonest_54 : decode c_Hb_soonest 54 = .ok (.iload_n 2, 1) := by decide +kernel
theorem d_Hb_soonest_55 : decode c_Hb_soonest 55 = .ok (.invokevirtual 198, 3) := by decide +kernel
theorem d_Hb_soonest_58 : decode c_Hb_soonest 58 = .ok (.istore 7, 2) := by decide +kernel
theorem d_Hb_soonest_60 : decode c_Hb_soonest 60 = .ok (.iload 7, 2) := by decide +kernel
theorem d_Hb_soonest_62 : decode c_Hb_soonest 62 = .ok (.iload 5, 2) := by decide +kernel
theorem d_Hb_soonest_64 : decode c_Hb_soonest 64 = .ok (.if_icmp .ge 11, 3) := by decide +kernel
theorem d_Hb_soonest_67 : decode c_Hb_soonest 67 = .ok (.iload 7, 2) := by decide +kernel
theorem d_Hb_soonest_69 : decode c_Hb_soonest 69 = .ok (.istore 5, 2) := by decide +kernel
theorem d_Hb_soonest_71 : decode c_Hb_soonest 71 = .ok (.iload 6, 2) := by decide +kernel
theorem d_Hb_soonest_73 : decode c_Hb_soonest 73 = .ok (.istore 4, 2) := by decide +kernel
theorem d_Hb_soonest_75 : decode c_Hb_soonest 75 = .ok (.iinc 6 1, 3) := by decide +kernel
theorem d_Hb_soonest_78 : decode c_Hb_soonest 78 = .ok (.goto (-43), 3) := by decide +kernel
theorem d_Hb_soonest_81 : decode c_Hb_soonest 81 = .ok (.iload_n 3, 1) := by decide +kernel
theorem d_Hb_soonest_82 : decode c_Hb_soonest 82 = .ok (.ifCond .ne 8, 3) := by decide +kernel
theorem d_Hb_soonest_85 : decode c_Hb_soonest 85 = .ok (.iload 4, 2) := by decide +kernel
theorem d_Hb_soonest_87 : decode c_Hb_soonest 87 = .ok (.goto 5, 3) := by decide +kernel
theorem d_Hb_soonest_90 : decode c_Hb_soonest 90 = .ok (.iload 5, 2) := by decide +kernel
theorem d_Hb_soonest_92 : decode c_Hb_soonest 92 = .ok (.ireturn, 1) := by decide +kernel
theorem d_Hb_race_0 : decode c_Hb_race 0 = .ok (.aload_n 0, 1) := by decide +kernel
theorem d_Hb_race_1 : decode c_Hb_race 1 = .ok (.iload_n 1, 1) := by decide +kernel
theorem d_Hb_race_2 : decode c_Hb_race 2 = .ok (.invokevirtual 103, 3) := by decide +kernel
theorem d_Hb_race_5 : decode c_Hb_race 5 = .ok (.ifCond .eq 23, 3) := by decide +kernel
theorem d_Hb_race_8 : decode c_Hb_race 8 = .ok (.aload_n 0, 1) := by decide +kernel
theorem d_Hb_race_9 : decode c_Hb_race 9 = .ok (.iload_n 2, 1) := by decide +kernel
theorem d_Hb_race_10 : decode c_Hb_race 10 = .ok (.invokevirtual 103, 3) := by decide +kernel
theorem d_Hb_race_13 : decode c_Hb_race 13 = .ok (.ifCond .eq 15, 3) := by decide +kernel
theorem d_Hb_race_16 : decode c_Hb_race 16 = .ok (.iload_n 1, 1) := by decide +kernel
theorem d_Hb_race_17 : decode c_Hb_race 17 = .ok (.iload_n 2, 1) := by decide +kernel
theorem d_Hb_race_18 : decode c_Hb_race 18 = .ok (.if_icmp .eq 10, 3) := by decide +kernel
theorem d_Hb_race_21 : decode c_Hb_race 21 = .ok (.iload_n 3, 1) := by decide +kernel
theorem d_Hb_race_22 : decode c_Hb_race 22 = .ok (.invokestatic 143, 3) := by decide +kernel
theorem d_Hb_race_25 : decode c_Hb_race 25 = .ok (.ifCond .ne 5, 3) := by decide +kernel
theorem d_Hb_race_28 : decode c_Hb_race 28 = .ok (.iconst (-1), 1) := by decide +kernel
theorem d_Hb_race_29 : decode c_Hb_race 29 = .ok (.ireturn, 1) := by decide +kernel
theorem d_Hb_race_30 : decode c_Hb_race 30 = .ok (.aload_n 0, 1) := by decide +kernel
theorem d_Hb_race_31 : decode c_Hb_race 31 = .ok (.aload_n 0, 1) := by decide +kernel
theorem d_Hb_race_32 : decode c_Hb_race 32 = .ok (.getfield 42, 3) := by decide +kernel
theorem d_Hb_race_35 : decode c_Hb_race 35 = .ok (.getfield 107, 3) := by decide +kernel
theorem d_Hb_race_38 : decode c_Hb_race 38 = .ok (.iload_n 1, 1) := by decide +kernel
theorem d_Hb_race_39 : decode c_Hb_race 39 = .ok (.aaload, 1) := by decide +kernel
theorem d_Hb_race_40 : decode c_Hb_race 40 = .ok (.iload_n 3, 1) := by decide +kernel
theorem d_Hb_race_41 : decode c_Hb_race 41 = .ok (.invokevirtual 158, 3) := by decide +kernel
theorem d_Hb_race_44 : decode c_Hb_race 44 = .ok (.istore 4, 2) := by decide +kernel
theorem d_Hb_race_46 : decode c_Hb_race 46 = .ok (.aload_n 0, 1) := by decide +kernel
theorem d_Hb_race_47 : decode c_Hb_race 47 = .ok (.aload_n 0, 1) := by decide +kernel
theorem d_Hb_race_48 : decode c_Hb_race 48 = .ok (.getfield 42, 3) := by decide +kernel
theorem d_Hb_race_51 : decode c_Hb_race 51 = .ok (.getfield 107, 3) := by decide +kernel
theorem d_Hb_race_54 : decode c_Hb_race 54 = .ok (.iload_n 2, 1) := by decide +kernel
theorem d_Hb_race_55 : decode c_Hb_race 55 = .ok (.aaload, 1) := by decide +kernel
theorem d_Hb_race_56 : decode c_Hb_race 56 = .ok (.iload_n 3, 1) := by decide +kernel
theorem d_Hb_race_57 : decode c_Hb_race 57 = .ok (.invokevirtual 158, 3) := by decide +kernel
theorem d_Hb_race_60 : decode c_Hb_race 60 = .ok (.istore 5, 2) := by decide +kernel
theorem d_Hb_race_62 : decode c_Hb_race 62 = .ok (.iload 4, 2) := by decide +kernel
theorem d_Hb_race_64 : decode c_Hb_race 64 = .ok (.iload 5, 2) := by decide +kernel
theorem d_Hb_race_66 : decode c_Hb_race 66 = .ok (.if_icmp .ne 6, 3) := by decide +kernel
theorem d_Hb_race_69 : decode c_Hb_race 69 = .ok (.bipush (-4), 2) := by decide +kernel
theorem d_Hb_race_71 : decode c_Hb_race 71 = .ok (.ireturn, 1) := by decide +kernel
theorem d_Hb_race_72 : decode c_Hb_race 72 = .ok (.iload 4, 2) := by decide +kernel
theorem d_Hb_race_74 : decode c_Hb_race 74 = .ok (.iload 5, 2) := by decide +kernel
theorem d_Hb_race_76 : decode c_Hb_race 76 = .ok (.if_icmp .ge 7, 3) := by decide +kernel
theorem d_Hb_race_79 : decode c_Hb_race 79 = .ok (.iload_n 1, 1) := by decide +kernel
theorem d_Hb_race_80 : decode c_Hb_race 80 = .ok (.goto 4, 3) := by decide +kernel
theorem d_Hb_race_83 : decode c_Hb_race 83 = .ok (.iload_n 2, 1) := by decide +kernel
theorem d_Hb_race_84 : decode c_Hb_race 84 = .ok (.ireturn, 1) := by decide +kernel
theorem d_Hb_walkAhead_0 : decode c_Hb_walkAhead 0 = .ok (.aload_n 0, 1) := by decide +kernel
theorem d_Hb_walkAhead_1 : decode c_Hb_walkAhead 1 = .ok (.iload_n 1, 1) := by decide +kernel
theorem d_Hb_walkAhead_2 : decode c_Hb_walkAhead 2 = .ok (.invokevirtual 103, 3) := by decide +kernel
theorem d_Hb_walkAhead_5 : decode c_Hb_walkAhead 5 = .ok (.ifCond .eq 28, 3) := by decide +kernel
theorem d_Hb_walkAhead_8 : decode c_Hb_walkAhead 8 = .ok (.iload_n 2, 1) := by decide +kernel
theorem d_Hb_walkAhead_9 : decode c_Hb_walkAhead 9 = .ok (.invokestatic 143, 3) := by decide +kernel
theorem d_Hb_walkAhead_12 : decode c_Hb_walkAhead 12 = .ok (.ifCond .eq 21, 3) := by decide +kernel
theorem d_Hb_walkAhead_15 : decode c_Hb_walkAhead 15 = .ok (.iload_n 3, 1) := by decide +kernel
theorem d_Hb_walkAhead_16 : decode c_Hb_walkAhead 16 = .ok (.iconst 0, 1) := by decide +kernel
theorem d_Hb_walkAhead_17 : decode c_Hb_walkAhead 17 = .ok (.bipush 30, 2) := by decide +kernel
theorem d_Hb_walkAhead_19 : decode c_Hb_walkAhead 19 = .ok (.invokestatic 169, 3) := by decide +kernel
theorem d_Hb_walkAhead_22 : decode c_Hb_walkAhead 22 = .ok (.ifCond .eq 11, 3) := by decide +kernel
theorem d_Hb_walkAhead_25 : decode c_Hb_walkAhead 25 = .ok (.iload 4, 2) := by decide +kernel
theorem d_Hb_walkAhead_27 : decode c_Hb_walkAhead 27 = .ok (.invokestatic 180, 3) := by decide +kernel
theorem d_Hb_walkAhead_30 : decode c_Hb_walkAhead 30 = .ok (.ifCond .ne 5, 3) := by decide +kernel
theorem d_Hb_walkAhead_33 : decode c_Hb_walkAhead 33 = .ok (.iconst (-1), 1) := by decide +kernel
theorem d_Hb_walkAhead_34 : decode c_Hb_walkAhead 34 = .ok (.ireturn, 1) := by decide +kernel
theorem d_Hb_walkAhead_35 : decode c_Hb_walkAhead 35 = .ok (.iconst 0, 1) := by decide +kernel
theorem d_Hb_walkAhead_36 : decode c_Hb_walkAhead 36 = .ok (.istore 5, 2) := by decide +kernel
theorem d_Hb_walkAhead_38 : decode c_Hb_walkAhead 38 = .ok (.sipush 1000, 3) := by decide +kernel
theorem d_Hb_walkAhead_41 : decode c_Hb_walkAhead 41 = .ok (.istore 6, 2) := by decide +kernel
theorem d_Hb_walkAhead_43 : decode c_Hb_walkAhead 43 = .ok (.iconst 0, 1) := by decide +kernel
theorem d_Hb_walkAhead_44 : decode c_Hb_walkAhead 44 = .ok (.istore 7, 2) := by decide +kernel
theorem d_Hb_walkAhead_46 : decode c_Hb_walkAhead 46 = .ok (.iload 7, 2) := by decide +kernel
theorem d_Hb_walkAhead_48 : decode c_Hb_walkAhead 48 = .ok (.bipush 21, 2) := by decide +kernel
theorem d_Hb_walkAhead_50 : decode c_Hb_walkAhead 50 = .ok (.if_icmp .ge 81, 3) := by decide +kernel
theorem d_Hb_walkAhead_53 : decode c_Hb_walkAhead 53 = .ok (.aload_n 0, 1) := by decide +kernel
theorem d_Hb_walkAhead_54 : decode c_Hb_walkAhead 54 = .ok (.getfield 58, 3) := by decide +kernel
theorem d_Hb_walkAhead_57 : decode c_Hb_walkAhead 57 = .ok (.aload_n 0, 1) := by decide +kernel
theorem d_Hb_walkAhead_58 : decode c_Hb_walkAhead 58 = .ok (.getfield 42, 3) := by decide +kernel
theorem d_Hb_walkAhead_61 : decode c_Hb_walkAhead 61 = .ok (.getfield 107, 3) := by decide +kernel
theorem d_Hb_walkAhead_64 : decode c_Hb_walkAhead 64 = .ok (.iload_n 1, 1) := by decide +kernel
theorem d_Hb_walkAhead_65 : decode c_Hb_walkAhead 65 = .ok (.aaload, 1) := by decide +kernel
theorem d_Hb_walkAhead_66 : decode c_Hb_walkAhead 66 = .ok (.invokevirtual 183, 3) := by decide +kernel
theorem d_Hb_walkAhead_69 : decode c_Hb_walkAhead 69 = .ok (.aload_n 0, 1) := by decide +kernel
theorem d_Hb_walkAhead_70 : decode c_Hb_walkAhead 70 = .ok (.getfield 58, 3) := by decide +kernel
theorem d_Hb_walkAhead_73 : decode c_Hb_walkAhead 73 = .ok (.iload 7, 2) := by decide +kernel
theorem d_Hb_walkAhead_75 : decode c_Hb_walkAhead 75 = .ok (.putfield 125, 3) := by decide +kernel
theorem d_Hb_walkAhead_78 : decode c_Hb_walkAhead 78 = .ok (.aload_n 0, 1) := by decide +kernel
theorem d_Hb_walkAhead_79 : decode c_Hb_walkAhead 79 = .ok (.getfield 58, 3) := by decide +kernel
theorem d_Hb_walkAhead_82 : decode c_Hb_walkAhead 82 = .ok (.iload_n 3, 1) := by decide +kernel
theorem d_Hb_walkAhead_83 : decode c_Hb_walkAhead 83 = .ok (.aload_n 0, 1) := by decide +kernel
theorem d_Hb_walkAhead_84 : decode c_Hb_walkAhead 84 = .ok (.getfield 42, 3) := by decide +kernel
theorem d_Hb_walkAhead_87 : decode c_Hb_walkAhead 87 = .ok (.getfield 131, 3) := by decide +kernel
theorem d_Hb_walkAhead_90 : decode c_Hb_walkAhead 90 = .ok (.invokevirtual 186, 3) := by decide +kernel
theorem d_Hb_walkAhead_93 : decode c_Hb_walkAhead 93 = .ok (.aload_n 0, 1) := by decide +kernel
theorem d_Hb_walkAhead_94 : decode c_Hb_walkAhead 94 = .ok (.getfield 58, 3) := by decide +kernel
theorem d_Hb_walkAhead_97 : decode c_Hb_walkAhead 97 = .ok (.iload_n 2, 1) := by decide +kernel
theorem d_Hb_walkAhead_98 : decode c_Hb_walkAhead 98 = .ok (.aload_n 0, 1) := by decide +kernel
theorem d_Hb_walkAhead_99 : decode c_Hb_walkAhead 99 = .ok (.getfield 42, 3) := by decide +kernel
theorem d_Hb_walkAhead_102 : decode c_Hb_walkAhead 102 = .ok (.getfield 131, 3) := by decide +kernel
theorem d_Hb_walkAhead_105 : decode c_Hb_walkAhead 105 = .ok (.invokevirtual 197, 3) := by decide +kernel
theorem d_Hb_walkAhead_108 : decode c_Hb_walkAhead 108 = .ok (.istore 8, 2) := by decide +kernel
theorem d_Hb_walkAhead_110 : decode c_Hb_walkAhead 110 = .ok (.iload 8, 2) := by decide +kernel
theorem d_Hb_walkAhead_112 : decode c_Hb_walkAhead 112 = .ok (.iload 6, 2) := by decide +kernel
theorem d_Hb_walkAhead_114 : decode c_Hb_walkAhead 114 = .ok (.if_icmp .ge 11, 3) := by decide +kernel
theorem d_Hb_walkAhead_117 : decode c_Hb_walkAhead 117 = .ok (.iload 8, 2) := by decide +kernel
theorem d_Hb_walkAhead_119 : decode c_Hb_walkAhead 119 = .ok (.istore 6, 2) := by decide +kernel
theorem d_Hb_walkAhead_121 : decode c_Hb_walkAhead 121 = .ok (.iload 7, 2) := by decide +kernel
theorem d_Hb_walkAhead_123 : decode c_Hb_walkAhead 123 = .ok (.istore 5, 2) := by decide +kernel
theorem d_Hb_walkAhead_125 : decode c_Hb_walkAhead 125 = .ok (.iinc 7 1, 3) := by decide +kernel
theorem d_Hb_walkAhead_128 : decode c_Hb_walkAhead 128 = .ok (.goto (-82), 3) := by decide +kernel
theorem d_Hb_walkAhead_131 : decode c_Hb_walkAhead 131 = .ok (.iload 4, 2) := by decide +kernel
theorem d_Hb_walkAhead_133 : decode c_Hb_walkAhead 133 = .ok (.ifCond .ne 8, 3) := by decide +kernel
theorem d_Hb_walkAhead_136 : decode c_Hb_walkAhead 136 = .ok (.iload 5, 2) := by decide +kernel
theorem d_Hb_walkAhead_138 : decode c_Hb_walkAhead 138 = .ok (.goto 5, 3) := by decide +kernel
theorem d_Hb_walkAhead_141 : decode c_Hb_walkAhead 141 = .ok (.iload 6, 2) := by decide +kernel
theorem d_Hb_walkAhead_143 : decode c_Hb_walkAhead 143 = .ok (.ireturn, 1) := by decide +kernel
theorem d_Hb_hang_0 : decode c_Hb_hang 0 = .ok (.iload_n 1, 1) := by decide +kernel
theorem d_Hb_hang_1 : decode c_Hb_hang 1 = .ok (.iconst 0, 1) := by decide +kernel
theorem d_Hb_hang_2 : decode c_Hb_hang 2 = .ok (.bipush 60, 2) := by decide +kernel
theorem d_Hb_hang_4 : decode c_Hb_hang 4 = .ok (.invokestatic 169, 3) := by decide +kernel
theorem d_Hb_hang_7 : decode c_Hb_hang 7 = .ok (.ifCond .eq 10, 3) := by decide +kernel
theorem d_Hb_hang_10 : decode c_Hb_hang 10 = .ok (.iload_n 2, 1) := by decide +kernel
theorem d_Hb_hang_11 : decode c_Hb_hang 11 = .ok (.invokestatic 180, 3) := by decide +kernel
theorem d_Hb_hang_14 : decode c_Hb_hang 14 = .ok (.ifCond .ne 5, 3) := by decide +kernel
theorem d_Hb_hang_17 : decode c_Hb_hang 17 = .ok (.iconst (-1), 1) := by decide +kernel
theorem d_Hb_hang_18 : decode c_Hb_hang 18 = .ok (.ireturn, 1) := by decide +kernel
theorem d_Hb_hang_19 : decode c_Hb_hang 19 = .ok (.aload_n 0, 1) := by decide +kernel
theorem d_Hb_hang_20 : decode c_Hb_hang 20 = .ok (.getfield 49, 3) := by decide +kernel
theorem d_Hb_hang_23 : decode c_Hb_hang 23 = .ok (.iconst 0, 1) := by decide +kernel
theorem d_Hb_hang_24 : decode c_Hb_hang 24 = .ok (.aaload, 1) := by decide +kernel
theorem d_Hb_hang_25 : decode c_Hb_hang 25 = .ok (.astore_n 3, 1) := by decide +kernel
theorem d_Hb_hang_26 : decode c_Hb_hang 26 = .ok (.iconst 0, 1) := by decide +kernel
theorem d_Hb_hang_27 : decode c_Hb_hang 27 = .ok (.istore 4, 2) := by decide +kernel
theorem d_Hb_hang_29 : decode c_Hb_hang 29 = .ok (.iconst (-1), 1) := by decide +kernel
theorem d_Hb_hang_30 : decode c_Hb_hang 30 = .ok (.istore 5, 2) := by decide +kernel
theorem d_Hb_hang_32 : decode c_Hb_hang 32 = .ok (.iconst 0, 1) := by decide +kernel
theorem d_Hb_hang_33 : decode c_Hb_hang 33 = .ok (.istore 6, 2) := by decide +kernel
theorem d_Hb_hang_35 : decode c_Hb_hang 35 = .ok (.iload 6, 2) := by decide +kernel
theorem d_Hb_hang_37 : decode c_Hb_hang 37 = .ok (.bipush 21, 2) := by decide +kernel
theorem d_Hb_hang_39 : decode c_Hb_hang 39 = .ok (.if_icmp .ge 47, 3) := by decide +kernel
theorem d_Hb_hang_42 : decode c_Hb_hang 42 = .ok (.aload_n 3, 1) := by decide +kernel
theorem d_Hb_hang_43 : decode c_Hb_hang 43 = .ok (.aload_n 0, 1) := by decide +kernel
theorem d_Hb_hang_44 : decode c_Hb_hang 44 = .ok (.getfield 42, 3) := by decide +kernel
theorem d_Hb_hang_47 : decode c_Hb_hang 47 = .ok (.invokevirtual 85, 3) := by decide +kernel
theorem d_Hb_hang_50 : decode c_Hb_hang 50 = .ok (.aload_n 3, 1) := by decide +kernel
theorem d_Hb_hang_51 : decode c_Hb_hang 51 = .ok (.iload 6, 2) := by decide +kernel
theorem d_Hb_hang_53 : decode c_Hb_hang 53 = .ok (.putfield 131, 3) := by decide +kernel
theorem d_Hb_hang_56 : decode c_Hb_hang 56 = .ok (.aload_n 3, 1) := by decide +kernel
theorem d_Hb_hang_57 : decode c_Hb_hang 57 = .ok (.iload_n 1, 1) := by decide +kernel
theorem d_Hb_hang_58 : decode c_Hb_hang 58 = .ok (.invokevirtual 173, 3) := by decide +kernel
theorem d_Hb_hang_61 : decode c_Hb_hang 61 = .ok (.aload_n 3, 1) := by decide +kernel
theorem d_Hb_hang_62 : decode c_Hb_hang 62 = .ok (.invokevirtual 177, 3) := by decide +kernel
theorem d_Hb_hang_65 : decode c_Hb_hang 65 = .ok (.iload 5, 2) := by decide +kernel
theorem d_Hb_hang_67 : decode c_Hb_hang 67 = .ok (.if_icmp .le 13, 3) := by decide +kernel
theorem d_Hb_hang_70 : decode c_Hb_hang 70 = .ok (.aload_n 3, 1) := by decide +kernel
theorem d_Hb_hang_71 : decode c_Hb_hang 71 = .ok (.invokevirtual 177, 3) := by decide +kernel
theorem d_Hb_hang_74 : decode c_Hb_hang 74 = .ok (.istore 5, 2) := by decide +kernel
theorem d_Hb_hang_76 : decode c_Hb_hang 76 = .ok (.iload 6, 2) := by decide +kernel
theorem d_Hb_hang_78 : decode c_Hb_hang 78 = .ok (.istore 4, 2) := by decide +kernel
theorem d_Hb_hang_80 : decode c_Hb_hang 80 = .ok (.iinc 6 1, 3) := by decide +kernel
theorem d_Hb_hang_83 : decode c_Hb_hang 83 = .ok (.goto (-48), 3) := by decide +kernel
theorem d_Hb_hang_86 : decode c_Hb_hang 86 = .ok (.iload_n 2, 1) := by decide +kernel
theorem d_Hb_hang_87 : decode c_Hb_hang 87 = .ok (.ifCond .ne 8, 3) := by decide +kernel
theorem d_Hb_hang_90 : decode c_Hb_hang 90 = .ok (.iload 4, 2) := by decide +kernel
theorem d_Hb_hang_92 : decode c_Hb_hang 92 = .ok (.goto 5, 3) := by decide +kernel
theorem d_Hb_hang_95 : decode c_Hb_hang 95 = .ok (.iload 5, 2) := by decide +kernel
theorem d_Hb_hang_97 : decode c_Hb_hang 97 = .ok (.ireturn, 1) := by decide +kernel
theorem d_Hb_meet_0 : decode c_Hb_meet 0 = .ok (.iload_n 1, 1) := by decide +kernel
theorem d_Hb_meet_1 : decode c_Hb_meet 1 = .ok (.invokestatic 180, 3) := by decide +kernel
theorem d_Hb_meet_4 : decode c_Hb_meet 4 = .ok (.ifCond .ne 5, 3) := by decide +kernel
theorem d_Hb_meet_7 : decode c_Hb_meet 7 = .ok (.iconst (-1), 1) := by decide +kernel
theorem d_Hb_meet_8 : decode c_Hb_meet 8 = .ok (.ireturn, 1) := by decide +kernel
theorem d_Hb_meet_9 : decode c_Hb_meet 9 = .ok (.iconst 0, 1) := by decide +kernel
theorem d_Hb_meet_10 : decode c_Hb_meet 10 = .ok (.istore_n 2, 1) := by decide +kernel
theorem d_Hb_meet_11 : decode c_Hb_meet 11 = .ok (.sipush 1000, 3) := by decide +kernel
theorem d_Hb_meet_14 : decode c_Hb_meet 14 = .ok (.istore_n 3, 1) := by decide +kernel
theorem d_Hb_meet_15 : decode c_Hb_meet 15 = .ok (.iconst 0, 1) := by decide +kernel
theorem d_Hb_meet_16 : decode c_Hb_meet 16 = .ok (.istore 4, 2) := by decide +kernel
theorem d_Hb_meet_18 : decode c_Hb_meet 18 = .ok (.iload 4, 2) := by decide +kernel
theorem d_Hb_meet_20 : decode c_Hb_meet 20 = .ok (.bipush 21, 2) := by decide +kernel
theorem d_Hb_meet_22 : decode c_Hb_meet 22 = .ok (.if_icmp .ge 66, 3) := by decide +kernel
theorem d_Hb_meet_25 : decode c_Hb_meet 25 = .ok (.iconst 0, 1) := by decide +kernel
theorem d_Hb_meet_26 : decode c_Hb_meet 26 = .ok (.istore 5, 2) := by decide +kernel
theorem d_Hb_meet_28 : decode c_Hb_meet 28 = .ok (.iconst 0, 1) := by decide +kernel
theorem d_Hb_meet_29 : decode c_Hb_meet 29 = .ok (.istore 6, 2) := by decide +kernel
theorem d_Hb_meet_31 : decode c_Hb_meet 31 = .ok (.iload 6, 2) := by decide +kernel
theorem d_Hb_meet_33 : decode c_Hb_meet 33 = .ok (.aload_n 0, 1) := by decide +kernel
theorem d_Hb_meet_34 : decode c_Hb_meet 34 = .ok (.getfield 42, 3) := by decide +kernel
theorem d_Hb_meet_37 : decode c_Hb_meet 37 = .ok (.getfield 149, 3) := by decide +kernel
theorem d_Hb_meet_40 : decode c_Hb_meet 40 = .ok (.if_icmp .ge 30, 3) := by decide +kernel
theorem d_Hb_meet_43 : decode c_Hb_meet 43 = .ok (.iload 5, 2) := by decide +kernel
theorem d_Hb_meet_45 : decode c_Hb_meet 45 = .ok (.aload_n 0, 1) := by decide +kernel
theorem d_Hb_meet_46 : decode c_Hb_meet 46 = .ok (.aload_n 0, 1) := by decide +kernel
theorem d_Hb_meet_47 : decode c_Hb_meet 47 = .ok (.getfield 42, 3) := by decide +kernel
theorem d_Hb_meet_50 : decode c_Hb_meet 50 = .ok (.getfield 107, 3) := by decide +kernel
theorem d_Hb_meet_53 : decode c_Hb_meet 53 = .ok (.iload 6, 2) := by decide +kernel
theorem d_Hb_meet_55 : decode c_Hb_meet 55 = .ok (.aaload, 1) := by decide +kernel
theorem d_Hb_meet_56 : decode c_Hb_meet 56 = .ok (.iload 4, 2) := by decide +kernel
theorem d_Hb_meet_58 : decode c_Hb_meet 58 = .ok (.invokevirtual 158, 3) := by decide +kernel
theorem d_Hb_meet_61 : decode c_Hb_meet 61 = .ok (.iadd, 1) := by decide +kernel
theorem d_Hb_meet_62 : decode c_Hb_meet 62 = .ok (.istore 5, 2) := by decide +kernel
theorem d_Hb_meet_64 : decode c_Hb_meet 64 = .ok (.iinc 6 1, 3) := by decide +kernel
theorem d_Hb_meet_67 : decode c_Hb_meet 67 = .ok (.goto (-36), 3) := by decide +kernel
theorem d_Hb_meet_70 : decode c_Hb_meet 70 = .ok (.iload 5, 2) := by decide +kernel
theorem d_Hb_meet_72 : decode c_Hb_meet 72 = .ok (.iload_n 3, 1) := by decide +kernel
theorem d_Hb_meet_73 : decode c_Hb_meet 73 = .ok (.if_icmp .ge 9, 3) := by decide +kernel
theorem d_Hb_meet_76 : decode c_Hb_meet 76 = .ok (.iload 5, 2) := by decide +kernel
theorem d_Hb_meet_78 : decode c_Hb_meet 78 = .ok (.istore_n 3, 1) := by decide +kernel
theorem d_Hb_meet_79 : decode c_Hb_meet 79 = .ok (.iload 4, 2) := by decide +kernel
theorem d_Hb_meet_81 : decode c_Hb_meet 81 = .ok (.istore_n 2, 1) := by decide +kernel
theorem d_Hb_meet_82 : decode c_Hb_meet 82 = .ok (.iinc 4 1, 3) := by decide +kernel
theorem d_Hb_meet_85 : decode c_Hb_meet 85 = .ok (.goto (-67), 3) := by decide +kernel
theorem d_Hb_meet_88 : decode c_Hb_meet 88 = .ok (.iload_n 1, 1) := by decide +kernel
theorem d_Hb_meet_89 : decode c_Hb_meet 89 = .ok (.ifCond .ne 7, 3) := by decide +kernel
theorem d_Hb_meet_92 : decode c_Hb_meet 92 = .ok (.iload_n 2, 1) := by decide +kernel
theorem d_Hb_meet_93 : decode c_Hb_meet 93 = .ok (.goto 4, 3) := by decide +kernel
theorem d_Hb_meet_96 : decode c_Hb_meet 96 = .ok (.iload_n 3, 1) := by decide +kernel
theorem d_Hb_meet_97 : decode c_Hb_meet 97 = .ok (.ireturn, 1) := by decide +kernel
theorem d_Hb_spread_0 : decode c_Hb_spread 0 = .ok (.bipush (-4), 2) := by decide +kernel
theorem d_Hb_spread_2 : decode c_Hb_spread 2 = .ok (.istore_n 1, 1) := by decide +kernel
theorem d_Hb_spread_3 : decode c_Hb_spread 3 = .ok (.iconst (-1), 1) := by decide +kernel
theorem d_Hb_spread_4 : decode c_Hb_spread 4 = .ok (.istore_n 2, 1) := by decide +kernel
theorem d_Hb_spread_5 : decode c_Hb_spread 5 = .ok (.iconst 0, 1) := by decide +kernel
theorem d_Hb_spread_6 : decode c_Hb_spread 6 = .ok (.istore_n 3, 1) := by decide +kernel
theorem d_Hb_spread_7 : decode c_Hb_spread 7 = .ok (.iload_n 3, 1) := by decide +kernel
theorem d_Hb_spread_8 : decode c_Hb_spread 8 = .ok (.aload_n 0, 1) := by decide +kernel
theorem d_Hb_spread_9 : decode c_Hb_spread 9 = .ok (.getfield 42, 3) := by decide +kernel
theorem d_Hb_spread_12 : decode c_Hb_spread 12 = .ok (.getfield 149, 3) := by decide +kernel
theorem d_Hb_spread_15 : decode c_Hb_spread 15 = .ok (.if_icmp .ge 80, 3) := by decide +kernel
theorem d_Hb_spread_18 : decode c_Hb_spread 18 = .ok (.iload_n 3, 1) := by decide +kernel
theorem d_Hb_spread_19 : decode c_Hb_spread 19 = .ok (.iconst 1, 1) := by decide +kernel
theorem d_Hb_spread_20 : decode c_Hb_spread 20 = .ok (.iadd, 1) := by decide +kernel
theorem d_Hb_spread_21 : decode c_Hb_spread 21 = .ok (.istore 4, 2) := by decide +kernel
theorem d_Hb_spread_23 : decode c_Hb_spread 23 = .ok (.iload 4, 2) := by decide +kernel
theorem d_Hb_spread_25 : decode c_Hb_spread 25 = .ok (.aload_n 0, 1) := by decide +kernel
theorem d_Hb_spread_26 : decode c_Hb_spread 26 = .ok (.getfield 42, 3) := by decide +kernel
theorem d_Hb_spread_29 : decode c_Hb_spread 29 = .ok (.getfield 149, 3) := by decide +kernel
theorem d_Hb_spread_32 : decode c_Hb_spread 32 = .ok (.if_icmp .ge 57, 3) := by decide +kernel
theorem d_Hb_spread_35 : decode c_Hb_spread 35 = .ok (.aload_n 0, 1) := by decide +kernel
theorem d_Hb_spread_36 : decode c_Hb_spread 36 = .ok (.getfield 42, 3) := by decide +kernel
theorem d_Hb_spread_39 : decode c_Hb_spread 39 = .ok (.getfield 107, 3) := by decide +kernel
theorem d_Hb_spread_42 : decode c_Hb_spread 42 = .ok (.iload_n 3, 1) := by decide +kernel
theorem d_Hb_spread_43 : decode c_Hb_spread 43 = .ok (.aaload, 1) := by decide +kernel
theorem d_Hb_spread_44 : decode c_Hb_spread 44 = .ok (.getfield 125, 3) := by decide +kernel
theorem d_Hb_spread_47 : decode c_Hb_spread 47 = .ok (.aload_n 0, 1) := by decide +kernel
theorem d_Hb_spread_48 : decode c_Hb_spread 48 = .ok (.getfield 42, 3) := by decide +kernel
theorem d_Hb_spread_51 : decode c_Hb_spread 51 = .ok (.getfield 107, 3) := by decide +kernel
theorem d_Hb_spread_54 : decode c_Hb_spread 54 = .ok (.iload 4, 2) := by decide +kernel
theorem d_Hb_spread_56 : decode c_Hb_spread 56 = .ok (.aaload, 1) := by decide +kernel
theorem d_Hb_spread_57 : decode c_Hb_spread 57 = .ok (.getfield 125, 3) := by decide +kernel
theorem d_Hb_spread_60 : decode c_Hb_spread 60 = .ok (.isub, 1) := by decide +kernel
theorem d_Hb_spread_61 : decode c_Hb_spread 61 = .ok (.invokestatic 202, 3) := by decide +kernel
theorem d_Hb_spread_64 : decode c_Hb_spread 64 = .ok (.istore 5, 2) := by decide +kernel
theorem d_Hb_spread_66 : decode c_Hb_spread 66 = .ok (.iload 5, 2) := by decide +kernel
theorem d_Hb_spread_68 : decode c_Hb_spread 68 = .ok (.iload_n 2, 1) := by decide +kernel
theorem d_Hb_spread_69 : decode c_Hb_spread 69 = .ok (.if_icmp .le 14, 3) := by decide +kernel
theorem d_Hb_spread_72 : decode c_Hb_spread 72 = .ok (.iload 5, 2) := by decide +kernel
theorem d_Hb_spread_74 : decode c_Hb_spread 74 = .ok (.istore_n 2, 1) := by decide +kernel
theorem d_Hb_spread_75 : decode c_Hb_spread 75 = .ok (.bipush 10, 2) := by decide +kernel
theorem d_Hb_spread_77 : decode c_Hb_spread 77 = .ok (.iload_n 3, 1) := by decide +kernel
theorem d_Hb_spread_78 : decode c_Hb_spread 78 = .ok (.imul, 1) := by decide +kernel
theorem d_Hb_spread_79 : decode c_Hb_spread 79 = .ok (.iload 4, 2) := by decide +kernel
theorem d_Hb_spread_81 : decode c_Hb_spread 81 = .ok (.iadd, 1) := by decide +kernel
theorem d_Hb_spread_82 : decode c_Hb_spread 82 = .ok (.istore_n 1, 1) := by decide +kernel
theorem d_Hb_spread_83 : decode c_Hb_spread 83 = .ok (.iinc 4 1, 3) := by decide +kernel
theorem d_Hb_spread_86 : decode c_Hb_spread 86 = .ok (.goto (-63), 3) := by decide +kernel
theorem d_Hb_spread_89 : decode c_Hb_spread 89 = .ok (.iinc 3 1, 3) := by decide +kernel
theorem d_Hb_spread_92 : decode c_Hb_spread 92 = .ok (.goto (-85), 3) := by decide +kernel
theorem d_Hb_spread_95 : decode c_Hb_spread 95 = .ok (.iload_n 1, 1) := by decide +kernel
theorem d_Hb_spread_96 : decode c_Hb_spread 96 = .ok (.ireturn, 1) := by decide +kernel
theorem d_Hb_fees_0 : decode c_Hb_fees 0 = .ok (.iload_n 2, 1) := by decide +kernel
theorem d_Hb_fees_1 : decode c_Hb_fees 1 = .ok (.invokestatic 143, 3) := by decide +kernel
theorem d_Hb_fees_4 : decode c_Hb_fees 4 = .ok (.ifCond .eq 16, 3) := by decide +kernel
theorem d_Hb_fees_7 : decode c_Hb_fees 7 = .ok (.iload_n 1, 1) := by decide +kernel
theorem d_Hb_fees_8 : decode c_Hb_fees 8 = .ok (.iconst (-1), 1) := by decide +kernel
theorem d_Hb_fees_9 : decode c_Hb_fees 9 = .ok (.if_icmp .eq 13, 3) := by decide +kernel
theorem d_Hb_fees_12 : decode c_Hb_fees 12 = .ok (.aload_n 0, 1) := by decide +kernel
theorem d_Hb_fees_13 : decode c_Hb_fees 13 = .ok (.iload_n 1, 1) := by decide +kernel
theorem d_Hb_fees_14 : decode c_Hb_fees 14 = .ok (.invokevirtual 103, 3) := by decide +kernel
theorem d_Hb_fees_17 : decode c_Hb_fees 17 = .ok (.ifCond .ne 5, 3) := by decide +kernel
theorem d_Hb_fees_20 : decode c_Hb_fees 20 = .ok (.iconst (-1), 1) := by decide +kernel
theorem d_Hb_fees_21 : decode c_Hb_fees 21 = .ok (.ireturn, 1) := by decide +kernel
theorem d_Hb_fees_22 : decode c_Hb_fees 22 = .ok (.iload_n 1, 1) := by decide +kernel
theorem d_Hb_fees_23 : decode c_Hb_fees 23 = .ok (.ifCond .lt 18, 3) := by decide +kernel
theorem d_Hb_fees_26 : decode c_Hb_fees 26 = .ok (.aload_n 0, 1) := by decide +kernel
theorem d_Hb_fees_27 : decode c_Hb_fees 27 = .ok (.aload_n 0, 1) := by decide +kernel
theorem d_Hb_fees_28 : decode c_Hb_fees 28 = .ok (.getfield 42, 3) := by decide +kernel
theorem d_Hb_fees_31 : decode c_Hb_fees 31 = .ok (.getfield 107, 3) := by decide +kernel
theorem d_Hb_fees_34 : decode c_Hb_fees 34 = .ok (.iload_n 1, 1) := by decide +kernel
theorem d_Hb_fees_35 : decode c_Hb_fees 35 = .ok (.aaload, 1) := by decide +kernel
theorem d_Hb_fees_36 : decode c_Hb_fees 36 = .ok (.iload_n 2, 1) := by decide +kernel
theorem d_Hb_fees_37 : decode c_Hb_fees 37 = .ok (.invokevirtual 207, 3) := by decide +kernel
theorem d_Hb_fees_40 : decode c_Hb_fees 40 = .ok (.ireturn, 1) := by decide +kernel
theorem d_Hb_fees_41 : decode c_Hb_fees 41 = .ok (.bipush (-4), 2) := by decide +kernel
theorem d_Hb_fees_43 : decode c_Hb_fees 43 = .ok (.istore_n 3, 1) := by decide +kernel
theorem d_Hb_fees_44 : decode c_Hb_fees 44 = .ok (.iconst 0, 1) := by decide +kernel
theorem d_Hb_fees_45 : decode c_Hb_fees 45 = .ok (.istore 4, 2) := by decide +kernel
theorem d_Hb_fees_47 : decode c_Hb_fees 47 = .ok (.iconst 0, 1) := by decide +kernel
theorem d_Hb_fees_48 : decode c_Hb_fees 48 = .ok (.istore 5, 2) := by decide +kernel
theorem d_Hb_fees_50 : decode c_Hb_fees 50 = .ok (.iload 5, 2) := by decide +kernel
theorem d_Hb_fees_52 : decode c_Hb_fees 52 = .ok (.aload_n 0, 1) := by decide +kernel
theorem d_Hb_fees_53 : decode c_Hb_fees 53 = .ok (.getfield 42, 3) := by decide +kernel
theorem d_Hb_fees_56 : decode c_Hb_fees 56 = .ok (.getfield 149, 3) := by decide +kernel
theorem d_Hb_fees_59 : decode c_Hb_fees 59 = .ok (.if_icmp .ge 46, 3) := by decide +kernel
theorem d_Hb_fees_62 : decode c_Hb_fees 62 = .ok (.aload_n 0, 1) := by decide +kernel
theorem d_Hb_fees_63 : decode c_Hb_fees 63 = .ok (.aload_n 0, 1) := by decide +kernel
theorem d_Hb_fees_64 : decode c_Hb_fees 64 = .ok (.getfield 42, 3) := by decide +kernel
theorem d_Hb_fees_67 : decode c_Hb_fees 67 = .ok (.getfield 107, 3) := by decide +kernel
theorem d_Hb_fees_70 : decode c_Hb_fees 70 = .ok (.iload 5, 2) := by decide +kernel
theorem d_Hb_fees_72 : decode c_Hb_fees 72 = .ok (.aaload, 1) := by decide +kernel
theorem d_Hb_fees_73 : decode c_Hb_fees 73 = .ok (.iload_n 2, 1) := by decide +kernel
theorem d_Hb_fees_74 : decode c_Hb_fees 74 = .ok (.invokevirtual 207, 3) := by decide +kernel
theorem d_Hb_fees_77 : decode c_Hb_fees 77 = .ok (.istore 6, 2) := by decide +kernel
theorem d_Hb_fees_79 : decode c_Hb_fees 79 = .ok (.iload_n 3, 1) := by decide +kernel
theorem d_Hb_fees_80 : decode c_Hb_fees 80 = .ok (.bipush (-4), 2) := by decide +kernel
theorem d_Hb_fees_82 : decode c_Hb_fees 82 = .ok (.if_icmp .eq 10, 3) := by decide +kernel
theorem d_Hb_fees_85 : decode c_Hb_fees 85 = .ok (.iload 6, 2) := by decide +kernel
theorem d_Hb_fees_87 : decode c_Hb_fees 87 = .ok (.iload 4, 2) := by decide +kernel
theorem d_Hb_fees_89 : decode c_Hb_fees 89 = .ok (.if_icmp .ge 10, 3) := by decide +kernel
theorem d_Hb_fees_92 : decode c_Hb_fees 92 = .ok (.iload 6, 2) := by decide +kernel
theorem d_Hb_fees_94 : decode c_Hb_fees 94 = .ok (.istore 4, 2) := by decide +kernel
theorem d_Hb_fees_96 : decode c_Hb_fees 96 = .ok (.iload 5, 2) := by decide +kernel
theorem d_Hb_fees_98 : decode c_Hb_fees 98 = .ok (.istore_n 3, 1) := by decide +kernel
theorem d_Hb_fees_99 : decode c_Hb_fees 99 = .ok (.iinc 5 1, 3) := by decide +kernel
theorem d_Hb_fees_102 : decode c_Hb_fees 102 = .ok (.goto (-52), 3) := by decide +kernel
theorem d_Hb_fees_105 : decode c_Hb_fees 105 = .ok (.iload_n 3, 1) := by decide +kernel
theorem d_Hb_fees_106 : decode c_Hb_fees 106 = .ok (.ireturn, 1) := by decide +kernel
theorem d_Hb_homes_0 : decode c_Hb_homes 0 = .ok (.aload_n 0, 1) := by decide +kernel
theorem d_Hb_homes_1 : decode c_Hb_homes 1 = .ok (.iload_n 2, 1) := by decide +kernel
theorem d_Hb_homes_2 : decode c_Hb_homes 2 = .ok (.invokevirtual 103, 3) := by decide +kernel
theorem d_Hb_homes_5 : decode c_Hb_homes 5 = .ok (.ifCond .eq 18, 3) := by decide +kernel
theorem d_Hb_homes_8 : decode c_Hb_homes 8 = .ok (.iload_n 3, 1) := by decide +kernel
theorem d_Hb_homes_9 : decode c_Hb_homes 9 = .ok (.invokestatic 143, 3) := by decide +kernel
theorem d_Hb_homes_12 : decode c_Hb_homes 12 = .ok (.ifCond .eq 11, 3) := by decide +kernel
theorem d_Hb_homes_15 : decode c_Hb_homes 15 = .ok (.iload 4, 2) := by decide +kernel
theorem d_Hb_homes_17 : decode c_Hb_homes 17 = .ok (.invokestatic 180, 3) := by decide +kernel
theorem d_Hb_homes_20 : decode c_Hb_homes 20 = .ok (.ifCond .ne 5, 3) := by decide +kernel
theorem d_Hb_homes_23 : decode c_Hb_homes 23 = .ok (.iconst (-1), 1) := by decide +kernel
theorem d_Hb_homes_24 : decode c_Hb_homes 24 = .ok (.ireturn, 1) := by decide +kernel
theorem d_Hb_homes_25 : decode c_Hb_homes 25 = .ok (.aload_n 0, 1) := by decide +kernel
theorem d_Hb_homes_26 : decode c_Hb_homes 26 = .ok (.iload_n 1, 1) := by decide +kernel
theorem d_Hb_homes_27 : decode c_Hb_homes 27 = .ok (.invokevirtual 73, 3) := by decide +kernel
theorem d_Hb_homes_30 : decode c_Hb_homes 30 = .ok (.istore 5, 2) := by decide +kernel
theorem d_Hb_homes_32 : decode c_Hb_homes 32 = .ok (.iload 5, 2) := by decide +kernel
theorem d_Hb_homes_34 : decode c_Hb_homes 34 = .ok (.ifCond .eq 6, 3) := by decide +kernel
theorem d_Hb_homes_37 : decode c_Hb_homes 37 = .ok (.iload 5, 2) := by decide +kernel
theorem d_Hb_homes_39 : decode c_Hb_homes 39 = .ok (.ireturn, 1) := by decide +kernel
theorem d_Hb_homes_40 : decode c_Hb_homes 40 = .ok (.iconst 0, 1) := by decide +kernel
theorem d_Hb_homes_41 : decode c_Hb_homes 41 = .ok (.istore 6, 2) := by decide +kernel
theorem d_Hb_homes_43 : decode c_Hb_homes 43 = .ok (.iconst 0, 1) := by decide +kernel
theorem d_Hb_homes_44 : decode c_Hb_homes 44 = .ok (.istore 7, 2) := by decide +kernel
theorem d_Hb_homes_46 : decode c_Hb_homes 46 = .ok (.iload 7, 2) := by decide +kernel
theorem d_Hb_homes_48 : decode c_Hb_homes 48 = .ok (.bipush 21, 2) := by decide +kernel
theorem d_Hb_homes_50 : decode c_Hb_homes 50 = .ok (.if_icmp .ge 61, 3) := by decide +kernel
theorem d_Hb_homes_53 : decode c_Hb_homes 53 = .ok (.aload_n 0, 1) := by decide +kernel
theorem d_Hb_homes_54 : decode c_Hb_homes 54 = .ok (.getfield 58, 3) := by decide +kernel
theorem d_Hb_homes_57 : decode c_Hb_homes 57 = .ok (.aload_n 0, 1) := by decide +kernel
theorem d_Hb_homes_58 : decode c_Hb_homes 58 = .ok (.getfield 42, 3) := by decide +kernel
theorem d_Hb_homes_61 : decode c_Hb_homes 61 = .ok (.getfield 107, 3) := by decide +kernel
theorem d_Hb_homes_64 : decode c_Hb_homes 64 = .ok (.iload_n 2, 1) := by decide +kernel
theorem d_Hb_homes_65 : decode c_Hb_homes 65 = .ok (.aaload, 1) := by decide +kernel
theorem d_Hb_homes_66 : decode c_Hb_homes 66 = .ok (.invokevirtual 183, 3) := by decide +kernel
theorem d_Hb_homes_69 : decode c_Hb_homes 69 = .ok (.aload_n 0, 1) := by decide +kernel
theorem d_Hb_homes_70 : decode c_Hb_homes 70 = .ok (.getfield 58, 3) := by decide +kernel
theorem d_Hb_homes_73 : decode c_Hb_homes 73 = .ok (.iload 7, 2) := by decide +kernel
theorem d_Hb_homes_75 : decode c_Hb_homes 75 = .ok (.putfield 122, 3) := by decide +kernel
theorem d_Hb_homes_78 : decode c_Hb_homes 78 = .ok (.aload_n 0, 1) := by decide +kernel
theorem d_Hb_homes_79 : decode c_Hb_homes 79 = .ok (.aload_n 0, 1) := by decide +kernel
theorem d_Hb_homes_80 : decode c_Hb_homes 80 = .ok (.getfield 58, 3) := by decide +kernel
theorem d_Hb_homes_83 : decode c_Hb_homes 83 = .ok (.aload_n 0, 1) := by decide +kernel
theorem d_Hb_homes_84 : decode c_Hb_homes 84 = .ok (.getfield 64, 3) := by decide +kernel
theorem d_Hb_homes_87 : decode c_Hb_homes 87 = .ok (.iload_n 1, 1) := by decide +kernel
theorem d_Hb_homes_88 : decode c_Hb_homes 88 = .ok (.aaload, 1) := by decide +kernel
theorem d_Hb_homes_89 : decode c_Hb_homes 89 = .ok (.iload_n 3, 1) := by decide +kernel
theorem d_Hb_homes_90 : decode c_Hb_homes 90 = .ok (.invokevirtual 210, 3) := by decide +kernel
theorem d_Hb_homes_93 : decode c_Hb_homes 93 = .ok (.ifCond .eq 12, 3) := by decide +kernel
theorem d_Hb_homes_96 : decode c_Hb_homes 96 = .ok (.iload 6, 2) := by decide +kernel
theorem d_Hb_homes_98 : decode c_Hb_homes 98 = .ok (.iconst 1, 1) := by decide +kernel
theorem d_Hb_homes_99 : decode c_Hb_homes 99 = .ok (.iload 7, 2) := by decide +kernel
theorem d_Hb_homes_101 : decode c_Hb_homes 101 = .ok (.ishl, 1) := by decide +kernel
theorem d_Hb_homes_102 : decode c_Hb_homes 102 = .ok (.ior, 1) := by decide +kernel
theorem d_Hb_homes_103 : decode c_Hb_homes 103 = .ok (.istore 6, 2) := by decide +kernel
theorem d_Hb_homes_105 : decode c_Hb_homes 105 = .ok (.iinc 7 1, 3) := by decide +kernel
theorem d_Hb_homes_108 : decode c_Hb_homes 108 = .ok (.goto (-62), 3) := by decide +kernel
theorem d_Hb_homes_111 : decode c_Hb_homes 111 = .ok (.iload 4, 2) := by decide +kernel
theorem d_Hb_homes_113 : decode c_Hb_homes 113 = .ok (.ifCond .ne 8, 3) := by decide +kernel
theorem d_Hb_homes_116 : decode c_Hb_homes 116 = .ok (.iload 6, 2) := by decide +kernel
theorem d_Hb_homes_118 : decode c_Hb_homes 118 = .ok (.goto 8, 3) := by decide +kernel
theorem d_Hb_homes_121 : decode c_Hb_homes 121 = .ok (.iload 6, 2) := by decide +kernel
theorem d_Hb_homes_123 : decode c_Hb_homes 123 = .ok (.invokestatic 214, 3) := by decide +kernel
theorem d_Hb_homes_126 : decode c_Hb_homes 126 = .ok (.ireturn, 1) := by decide +kernel
theorem d_Hb_whatIs_0 : decode c_Hb_whatIs 0 = .ok (.aload_n 0, 1) := by decide +kernel
theorem d_Hb_whatIs_1 : decode c_Hb_whatIs 1 = .ok (.iload_n 2, 1) := by decide +kernel
theorem d_Hb_whatIs_2 : decode c_Hb_whatIs 2 = .ok (.invokevirtual 103, 3) := by decide +kernel
theorem d_Hb_whatIs_5 : decode c_Hb_whatIs 5 = .ok (.ifCond .eq 18, 3) := by decide +kernel
theorem d_Hb_whatIs_8 : decode c_Hb_whatIs 8 = .ok (.iload_n 3, 1) := by decide +kernel
theorem d_Hb_whatIs_9 : decode c_Hb_whatIs 9 = .ok (.invokestatic 143, 3) := by decide +kernel
theorem d_Hb_whatIs_12 : decode c_Hb_whatIs 12 = .ok (.ifCond .eq 11, 3) := by decide +kernel
theorem d_Hb_whatIs_15 : decode c_Hb_whatIs 15 = .ok (.iload 4, 2) := by decide +kernel
theorem d_Hb_whatIs_17 : decode c_Hb_whatIs 17 = .ok (.invokestatic 180, 3) := by decide +kernel
theorem d_Hb_whatIs_20 : decode c_Hb_whatIs 20 = .ok (.ifCond .ne 5, 3) := by decide +kernel
theorem d_Hb_whatIs_23 : decode c_Hb_whatIs 23 = .ok (.iconst (-1), 1) := by decide +kernel
theorem d_Hb_whatIs_24 : decode c_Hb_whatIs 24 = .ok (.ireturn, 1) := by decide +kernel
theorem d_Hb_whatIs_25 : decode c_Hb_whatIs 25 = .ok (.aload_n 0, 1) := by decide +kernel
theorem d_Hb_whatIs_26 : decode c_Hb_whatIs 26 = .ok (.iload_n 1, 1) := by decide +kernel
theorem d_Hb_whatIs_27 : decode c_Hb_whatIs 27 = .ok (.invokevirtual 73, 3) := by decide +kernel
theorem d_Hb_whatIs_30 : decode c_Hb_whatIs 30 = .ok (.istore 5, 2) := by decide +kernel
theorem d_Hb_whatIs_32 : decode c_Hb_whatIs 32 = .ok (.iload 5, 2) := by decide +kernel
theorem d_Hb_whatIs_34 : decode c_Hb_whatIs 34 = .ok (.ifCond .eq 6, 3) := by decide +kernel
theorem d_Hb_whatIs_37 : decode c_Hb_whatIs 37 = .ok (.iload 5, 2) := by decide +kernel
theorem d_Hb_whatIs_39 : decode c_Hb_whatIs 39 = .ok (.ireturn, 1) := by decide +kernel
theorem d_Hb_whatIs_40 : decode c_Hb_whatIs 40 = .ok (.iload 4, 2) := by decide +kernel
theorem d_Hb_whatIs_42 : decode c_Hb_whatIs 42 = .ok (.ifCond .ne 18, 3) := by decide +kernel
theorem d_Hb_whatIs_45 : decode c_Hb_whatIs 45 = .ok (.aload_n 0, 1) := by decide +kernel
theorem d_Hb_whatIs_46 : decode c_Hb_whatIs 46 = .ok (.aload_n 0, 1) := by decide +kernel
theorem d_Hb_whatIs_47 : decode c_Hb_whatIs 47 = .ok (.getfield 64, 3) := by decide +kernel
theorem d_Hb_whatIs_50 : decode c_Hb_whatIs 50 = .ok (.iload_n 1, 1) := by decide +kernel
theorem d_Hb_whatIs_51 : decode c_Hb_whatIs 51 = .ok (.aaload, 1) := by decide +kernel
theorem d_Hb_whatIs_52 : decode c_Hb_whatIs 52 = .ok (.iload_n 2, 1) := by decide +kernel
theorem d_Hb_whatIs_53 : decode c_Hb_whatIs 53 = .ok (.iload_n 3, 1) := by decide +kernel
theorem d_Hb_whatIs_54 : decode c_Hb_whatIs 54 = .ok (.invokevirtual 219, 3) := by decide +kernel
theorem d_Hb_whatIs_57 : decode c_Hb_whatIs 57 = .ok (.goto 15, 3) := by decide +kernel
theorem d_Hb_whatIs_60 : decode c_Hb_whatIs 60 = .ok (.aload_n 0, 1) := by decide +kernel
theorem d_Hb_whatIs_61 : decode c_Hb_whatIs 61 = .ok (.aload_n 0, 1) := by decide +kernel
theorem d_Hb_whatIs_62 : decode c_Hb_whatIs 62 = .ok (.getfield 64, 3) := by decide +kernel
theorem d_Hb_whatIs_65 : decode c_Hb_whatIs 65 = .ok (.iload_n 1, 1) := by decide +kernel
theorem d_Hb_whatIs_66 : decode c_Hb_whatIs 66 = .ok (.aaload, 1) := by decide +kernel
theorem d_Hb_whatIs_67 : decode c_Hb_whatIs 67 = .ok (.iload_n 2, 1) := by decide +kernel
theorem d_Hb_whatIs_68 : decode c_Hb_whatIs 68 = .ok (.iload_n 3, 1) := by decide +kernel
theorem d_Hb_whatIs_69 : decode c_Hb_whatIs 69 = .ok (.invokevirtual 223, 3) := by decide +kernel
theorem d_Hb_whatIs_72 : decode c_Hb_whatIs 72 = .ok (.ireturn, 1) := by decide +kernel
theorem d_Hb_two_0 : decode c_Hb_two 0 = .ok (.aload_n 0, 1) := by decide +kernel
theorem d_Hb_two_1 : decode c_Hb_two 1 = .ok (.iload_n 1, 1) := by decide +kernel
theorem d_Hb_two_2 : decode c_Hb_two 2 = .ok (.invokevirtual 103, 3) := by decide +kernel
theorem d_Hb_two_5 : decode c_Hb_two 5 = .ok (.ifCond .eq 23, 3) := by decide +kernel
theorem d_Hb_two_8 : decode c_Hb_two 8 = .ok (.aload_n 0, 1) := by decide +kernel
theorem d_Hb_two_9 : decode c_Hb_two 9 = .ok (.iload_n 2, 1) := by decide +kernel
theorem d_Hb_two_10 : decode c_Hb_two 10 = .ok (.invokevirtual 103, 3) := by decide +kernel
theorem d_Hb_two_13 : decode c_Hb_two 13 = .ok (.ifCond .eq 15, 3) := by decide +kernel
theorem d_Hb_two_16 : decode c_Hb_two 16 = .ok (.iload_n 1, 1) := by decide +kernel
theorem d_Hb_two_17 : decode c_Hb_two 17 = .ok (.iload_n 2, 1) := by decide +kernel
theorem d_Hb_two_18 : decode c_Hb_two 18 = .ok (.if_icmp .eq 10, 3) := by decide +kernel
theorem d_Hb_two_21 : decode c_Hb_two 21 = .ok (.iload_n 3, 1) := by decide +kernel
theorem d_Hb_two_22 : decode c_Hb_two 22 = .ok (.invokestatic 143, 3) := by decide +kernel
theorem d_Hb_two_25 : decode c_Hb_two 25 = .ok (.ifCond .ne 5, 3) := by decide +kernel
theorem d_Hb_two_28 : decode c_Hb_two 28 = .ok (.iconst (-1), 1) := by decide +kernel
theorem d_Hb_two_29 : decode c_Hb_two 29 = .ok (.ireturn, 1) := by decide +kernel
theorem d_Hb_two_30 : decode c_Hb_two 30 = .ok (.iconst 0, 1) := by decide +kernel
theorem d_Hb_two_31 : decode c_Hb_two 31 = .ok (.istore 4, 2) := by decide +kernel
theorem d_Hb_two_33 : decode c_Hb_two 33 = .ok (.iload 4, 2) := by decide +kernel
theorem d_Hb_two_35 : decode c_Hb_two 35 = .ok (.iconst 4, 1) := by decide +kernel
theorem d_Hb_two_36 : decode c_Hb_two 36 = .ok (.if_icmp .ge 58, 3) := by decide +kernel
theorem d_Hb_two_39 : decode c_Hb_two 39 = .ok (.iload 4, 2) := by decide +kernel
theorem d_Hb_two_41 : decode c_Hb_two 41 = .ok (.iconst 2, 1) := by decide +kernel
theorem d_Hb_two_42 : decode c_Hb_two 42 = .ok (.idiv, 1) := by decide +kernel
theorem d_Hb_two_43 : decode c_Hb_two 43 = .ok (.istore 5, 2) := by decide +kernel
theorem d_Hb_two_45 : decode c_Hb_two 45 = .ok (.iload 4, 2) := by decide +kernel
theorem d_Hb_two_47 : decode c_Hb_two 47 = .ok (.iconst 2, 1) := by decide +kernel
theorem d_Hb_two_48 : decode c_Hb_two 48 = .ok (.irem, 1) := by decide +kernel
theorem d_Hb_two_49 : decode c_Hb_two 49 = .ok (.istore 6, 2) := by decide +kernel
theorem d_Hb_two_51 : decode c_Hb_two 51 = .ok (.aload_n 0, 1) := by decide +kernel
theorem d_Hb_two_52 : decode c_Hb_two 52 = .ok (.iload_n 1, 1) := by decide +kernel
theorem d_Hb_two_53 : decode c_Hb_two 53 = .ok (.iload 5, 2) := by decide +kernel
theorem d_Hb_two_55 : decode c_Hb_two 55 = .ok (.iload_n 2, 1) := by decide +kernel
theorem d_Hb_two_56 : decode c_Hb_two 56 = .ok (.iload 6, 2) := by decide +kernel
theorem d_Hb_two_58 : decode c_Hb_two 58 = .ok (.iload_n 3, 1) := by decide +kernel
theorem d_Hb_two_59 : decode c_Hb_two 59 = .ok (.invokevirtual 226, 3) := by decide +kernel
theorem d_Hb_two_62 : decode c_Hb_two 62 = .ok (.ifCond .eq 26, 3) := by decide +kernel
theorem d_Hb_two_65 : decode c_Hb_two 65 = .ok (.aload_n 0, 1) := by decide +kernel
theorem d_Hb_two_66 : decode c_Hb_two 66 = .ok (.iload_n 2, 1) := by decide +kernel
theorem d_Hb_two_67 : decode c_Hb_two 67 = .ok (.iload 6, 2) := by decide +kernel
theorem d_Hb_two_69 : decode c_Hb_two 69 = .ok (.iload_n 1, 1) := by decide +kernel
theorem d_Hb_two_70 : decode c_Hb_two 70 = .ok (.iload 5, 2) := by decide +kernel
theorem d_Hb_two_72 : decode c_Hb_two 72 = .ok (.iload_n 3, 1) := by decide +kernel
theorem d_Hb_two_73 : decode c_Hb_two 73 = .ok (.invokevirtual 226, 3) := by decide +kernel
theorem d_Hb_two_76 : decode c_Hb_two 76 = .ok (.ifCond .eq 12, 3) := by decide +kernel
theorem d_Hb_two_79 : decode c_Hb_two 79 = .ok (.bipush 10, 2) := by decide +kernel
theorem d_Hb_two_81 : decode c_Hb_two 81 = .ok (.iload 5, 2) := by decide +kernel
theorem d_Hb_two_83 : decode c_Hb_two 83 = .ok (.imul, 1) := by decide +kernel
theorem d_Hb_two_84 : decode c_Hb_two 84 = .ok (.iload 6, 2) := by decide +kernel
theorem d_Hb_two_86 : decode c_Hb_two 86 = .ok (.iadd, 1) := by decide +kernel
theorem d_Hb_two_87 : decode c_Hb_two 87 = .ok (.ireturn, 1) := by decide +kernel
theorem d_Hb_two_88 : decode c_Hb_two 88 = .ok (.iinc 4 1, 3) := by decide +kernel
theorem d_Hb_two_91 : decode c_Hb_two 91 = .ok (.goto (-58), 3) := by decide +kernel
theorem d_Hb_two_94 : decode c_Hb_two 94 = .ok (.bipush (-4), 2) := by decide +kernel
theorem d_Hb_two_96 : decode c_Hb_two 96 = .ok (.ireturn, 1) := by decide +kernel
theorem d_Hb_storm_0 : decode c_Hb_storm 0 = .ok (.aload_n 0, 1) := by decide +kernel
theorem d_Hb_storm_1 : decode c_Hb_storm 1 = .ok (.iload_n 1, 1) := by decide +kernel
theorem d_Hb_storm_2 : decode c_Hb_storm 2 = .ok (.invokevirtual 103, 3) := by decide +kernel
theorem d_Hb_storm_5 : decode c_Hb_storm 5 = .ok (.ifCond .eq 42, 3) := by decide +kernel
theorem d_Hb_storm_8 : decode c_Hb_storm 8 = .ok (.iload_n 2, 1) := by decide +kernel
theorem d_Hb_storm_9 : decode c_Hb_storm 9 = .ok (.iconst 1, 1) := by decide +kernel
theorem d_Hb_storm_10 : decode c_Hb_storm 10 = .ok (.bipush 60, 2) := by decide +kernel
theorem d_Hb_storm_12 : decode c_Hb_storm 12 = .ok (.invokestatic 169, 3) := by decide +kernel
theorem d_Hb_storm_15 : decode c_Hb_storm 15 = .ok (.ifCond .eq 32, 3) := by decide +kernel
theorem d_Hb_storm_18 : decode c_Hb_storm 18 = .ok (.iload_n 3, 1) := by decide +kernel
theorem d_Hb_storm_19 : decode c_Hb_storm 19 = .ok (.iconst 0, 1) := by decide +kernel
theorem d_Hb_storm_20 : decode c_Hb_storm 20 = .ok (.bipush 7, 2) := by decide +kernel
theorem d_Hb_storm_22 : decode c_Hb_storm 22 = .ok (.invokestatic 169, 3) := by decide +kernel
theorem d_Hb_storm_25 : decode c_Hb_storm 25 = .ok (.ifCond .eq 22, 3) := by decide +kernel
theorem d_Hb_storm_28 : decode c_Hb_storm 28 = .ok (.iload 4, 2) := by decide +kernel
theorem d_Hb_storm_30 : decode c_Hb_storm 30 = .ok (.iconst 2, 1) := by decide +kernel
theorem d_Hb_storm_31 : decode c_Hb_storm 31 = .ok (.bipush 20, 2) := by decide +kernel
theorem d_Hb_storm_33 : decode c_Hb_storm 33 = .ok (.invokestatic 169, 3) := by decide +kernel
theorem d_Hb_storm_36 : decode c_Hb_storm 36 = .ok (.ifCond .eq 11, 3) := by decide +kernel
theorem d_Hb_storm_39 : decode c_Hb_storm 39 = .ok (.iload 5, 2) := by decide +kernel
theorem d_Hb_storm_41 : decode c_Hb_storm 41 = .ok (.invokestatic 180, 3) := by decide +kernel
theorem d_Hb_storm_44 : decode c_Hb_storm 44 = .ok (.ifCond .ne 7, 3) := by decide +kernel
theorem d_Hb_storm_47 : decode c_Hb_storm 47 = .ok (.ldc2_w 230, 3) := by decide +kernel
theorem d_Hb_storm_50 : decode c_Hb_storm 50 = .ok (.lreturn, 1) := by decide +kernel
theorem d_Hb_storm_51 : decode c_Hb_storm 51 = .ok (.lconst 0, 1) := by decide +kernel
theorem d_Hb_storm_52 : decode c_Hb_storm 52 = .ok (.lstore 6, 2) := by decide +kernel
theorem d_Hb_storm_54 : decode c_Hb_storm 54 = .ok (.lconst 1, 1) := by decide +kernel
theorem d_Hb_storm_55 : decode c_Hb_storm 55 = .ok (.lstore 8, 2) := by decide +kernel
theorem d_Hb_storm_57 : decode c_Hb_storm 57 = .ok (.lconst 1, 1) := by decide +kernel
theorem d_Hb_storm_58 : decode c_Hb_storm 58 = .ok (.lstore 10, 2) := by decide +kernel
theorem d_Hb_storm_60 : decode c_Hb_storm 60 = .ok (.aload_n 0, 1) := by decide +kernel
theorem d_Hb_storm_61 : decode c_Hb_storm 61 = .ok (.getfield 58, 3) := by decide +kernel
theorem d_Hb_storm_64 : decode c_Hb_storm 64 = .ok (.aload_n 0, 1) := by decide +kernel
theorem d_Hb_storm_65 : decode c_Hb_storm 65 = .ok (.getfield 42, 3) := by decide +kernel
theorem d_Hb_storm_68 : decode c_Hb_storm 68 = .ok (.getfield 107, 3) := by decide +kernel
theorem d_Hb_storm_71 : decode c_Hb_storm 71 = .ok (.iload_n 1, 1) := by decide +kernel
theorem d_Hb_storm_72 : decode c_Hb_storm 72 = .ok (.aaload, 1) := by decide +kernel
theorem d_Hb_storm_73 : decode c_Hb_storm 73 = .ok (.invokevirtual 183, 3) := by decide +kernel
theorem d_Hb_storm_76 : decode c_Hb_storm 76 = .ok (.iconst 0, 1) := by decide +kernel
theorem d_Hb_storm_77 : decode c_Hb_storm 77 = .ok (.istore 12, 2) := by decide +kernel
theorem d_Hb_storm_79 : decode c_Hb_storm 79 = .ok (.iload 12, 2) := by decide +kernel
theorem d_Hb_storm_81 : decode c_Hb_storm 81 = .ok (.iload_n 3, 1) := by decide +kernel
theorem d_Hb_storm_82 : decode c_Hb_storm 82 = .ok (.if_icmp .gt 64, 3) := by decide +kernel
theorem d_Hb_storm_85 : decode c_Hb_storm 85 = .ok (.aload_n 0, 1) := by decide +kernel
theorem d_Hb_storm_86 : decode c_Hb_storm 86 = .ok (.getfield 58, 3) := by decide +kernel
theorem d_Hb_storm_89 : decode c_Hb_storm 89 = .ok (.invokevirtual 137, 3) := by decide +kernel
theorem d_Hb_storm_92 : decode c_Hb_storm 92 = .ok (.iload_n 2, 1) := by decide +kernel
theorem d_Hb_storm_93 : decode c_Hb_storm 93 = .ok (.if_icmp .lt 10, 3) := by decide +kernel
theorem d_Hb_storm_96 : decode c_Hb_storm 96 = .ok (.lload 6, 2) := by decide +kernel
theorem d_Hb_storm_98 : decode c_Hb_storm 98 = .ok (.lload 10, 2) := by decide +kernel
theorem d_Hb_storm_100 : decode c_Hb_storm 100 = .ok (.ladd, 1) := by decide +kernel
theorem d_Hb_storm_101 : decode c_Hb_storm 101 = .ok (.lstore 6, 2) := by decide +kernel
theorem d_Hb_storm_103 : decode c_Hb_storm 103 = .ok (.lload 10, 2) := by decide +kernel
theorem d_Hb_storm_105 : decode c_Hb_storm 105 = .ok (.iload_n 3, 1) := by decide +kernel
theorem d_Hb_storm_106 : decode c_Hb_storm 106 = .ok (.iload 12, 2) := by decide +kernel
theorem d_Hb_storm_108 : decode c_Hb_storm 108 = .ok (.isub, 1) := by decide +kernel
theorem d_Hb_storm_109 : decode c_Hb_storm 109 = .ok (.i2l, 1) := by decide +kernel
theorem d_Hb_storm_110 : decode c_Hb_storm 110 = .ok (.lmul, 1) := by decide +kernel
theorem d_Hb_storm_111 : decode c_Hb_storm 111 = .ok (.iload 4, 2) := by decide +kernel
theorem d_Hb_storm_113 : decode c_Hb_storm 113 = .ok (.iconst 1, 1) := by decide +kernel
theorem d_Hb_storm_114 : decode c_Hb_storm 114 = .ok (.isub, 1) := by decide +kernel
theorem d_Hb_storm_115 : decode c_Hb_storm 115 = .ok (.i2l, 1) := by decide +kernel
theorem d_Hb_storm_116 : decode c_Hb_storm 116 = .ok (.lmul, 1) := by decide +kernel
theorem d_Hb_storm_117 : decode c_Hb_storm 117 = .ok (.iload 12, 2) := by decide +kernel
theorem d_Hb_storm_119 : decode c_Hb_storm 119 = .ok (.iconst 1, 1) := by decide +kernel
theorem d_Hb_storm_120 : decode c_Hb_storm 120 = .ok (.iadd, 1) := by decide +kernel
theorem d_Hb_storm_121 : decode c_Hb_storm 121 = .ok (.i2l, 1) := by decide +kernel
theorem d_Hb_storm_122 : decode c_Hb_storm 122 = .ok (.ldiv, 1) := by decide +kernel
theorem d_Hb_storm_123 : decode c_Hb_storm 123 = .ok (.lstore 10, 2) := by decide +kernel
theorem d_Hb_storm_125 : decode c_Hb_storm 125 = .ok (.aload_n 0, 1) := by decide +kernel
theorem d_Hb_storm_126 : decode c_Hb_storm 126 = .ok (.getfield 58, 3) := by decide +kernel
theorem d_Hb_storm_129 : decode c_Hb_storm 129 = .ok (.iconst 1, 1) := by decide +kernel
theorem d_Hb_storm_130 : decode c_Hb_storm 130 = .ok (.aload_n 0, 1) := by decide +kernel
theorem d_Hb_storm_131 : decode c_Hb_storm 131 = .ok (.getfield 42, 3) := by decide +kernel
theorem d_Hb_storm_134 : decode c_Hb_storm 134 = .ok (.getfield 131, 3) := by decide +kernel
theorem d_Hb_storm_137 : decode c_Hb_storm 137 = .ok (.invokevirtual 186, 3) := by decide +kernel
theorem d_Hb_storm_140 : decode c_Hb_storm 140 = .ok (.iinc 12 1, 3) := by decide +kernel
theorem d_Hb_storm_143 : decode c_Hb_storm 143 = .ok (.goto (-64), 3) := by decide +kernel
theorem d_Hb_storm_146 : decode c_Hb_storm 146 = .ok (.iconst 0, 1) := by decide +kernel
theorem d_Hb_storm_147 : decode c_Hb_storm 147 = .ok (.istore 12, 2) := by decide +kernel
theorem d_Hb_storm_149 : decode c_Hb_storm 149 = .ok (.iload 12, 2) := by decide +kernel
theorem d_Hb_storm_151 : decode c_Hb_storm 151 = .ok (.iload_n 3, 1) := by decide +kernel
theorem d_Hb_storm_152 : decode c_Hb_storm 152 = .ok (.if_icmp .ge 17, 3) := by decide +kernel
theorem d_Hb_storm_155 : decode c_Hb_storm 155 = .ok (.lload 8, 2) := by decide +kernel
theorem d_Hb_storm_157 : decode c_Hb_storm 157 = .ok (.iload 4, 2) := by decide +kernel
theorem d_Hb_storm_159 : decode c_Hb_storm 159 = .ok (.i2l, 1) := by decide +kernel
theorem d_Hb_storm_160 : decode c_Hb_storm 160 = .ok (.lmul, 1) := by decide +kernel
theorem d_Hb_storm_161 : decode c_Hb_storm 161 = .ok (.lstore 8, 2) := by decide +kernel
theorem d_Hb_storm_163 : decode c_Hb_storm 163 = .ok (.iinc 12 1, 3) := by decide +kernel
theorem d_Hb_storm_166 : decode c_Hb_storm 166 = .ok (.goto (-17), 3) := by decide +kernel
theorem d_Hb_storm_169 : decode c_Hb_storm 169 = .ok (.lload 6, 2) := by decide +kernel
theorem d_Hb_storm_171 : decode c_Hb_storm 171 = .ok (.lload 8, 2) := by decide +kernel
theorem d_Hb_storm_173 : decode c_Hb_storm 173 = .ok (.iload 5, 2) := by decide +kernel
theorem d_Hb_storm_175 : decode c_Hb_storm 175 = .ok (.invokestatic 232, 3) := by decide +kernel
theorem d_Hb_storm_178 : decode c_Hb_storm 178 = .ok (.lreturn, 1) := by decide +kernel
theorem d_Hb_mean_0 : decode c_Hb_mean 0 = .ok (.iload_n 1, 1) := by decide +kernel
theorem d_Hb_mean_1 : decode c_Hb_mean 1 = .ok (.invokestatic 180, 3) := by decide +kernel
theorem d_Hb_mean_4 : decode c_Hb_mean 4 = .ok (.ifCond .ne 7, 3) := by decide +kernel
theorem d_Hb_mean_7 : decode c_Hb_mean 7 = .ok (.ldc2_w 230, 3) := by decide +kernel
theorem d_Hb_mean_10 : decode c_Hb_mean 10 = .ok (.lreturn, 1) := by decide +kernel
theorem d_Hb_mean_11 : decode c_Hb_mean 11 = .ok (.aload_n 0, 1) := by decide +kernel
theorem d_Hb_mean_12 : decode c_Hb_mean 12 = .ok (.getfield 42, 3) := by decide +kernel
theorem d_Hb_mean_15 : decode c_Hb_mean 15 = .ok (.invokevirtual 177, 3) := by decide +kernel
theorem d_Hb_mean_18 : decode c_Hb_mean 18 = .ok (.i2l, 1) := by decide +kernel
theorem d_Hb_mean_19 : decode c_Hb_mean 19 = .ok (.iconst 1, 1) := by decide +kernel
theorem d_Hb_mean_20 : decode c_Hb_mean 20 = .ok (.aload_n 0, 1) := by decide +kernel
theorem d_Hb_mean_21 : decode c_Hb_mean 21 = .ok (.getfield 42, 3) := by decide +kernel
theorem d_Hb_mean_24 : decode c_Hb_mean 24 = .ok (.getfield 149, 3) := by decide +kernel
theorem d_Hb_mean_27 : decode c_Hb_mean 27 = .ok (.invokestatic 236, 3) := by decide +kernel
theorem d_Hb_mean_30 : decode c_Hb_mean 30 = .ok (.i2l, 1) := by decide +kernel
theorem d_Hb_mean_31 : decode c_Hb_mean 31 = .ok (.iload_n 1, 1) := by decide +kernel
theorem d_Hb_mean_32 : decode c_Hb_mean 32 = .ok (.invokestatic 232, 3) := by decide +kernel
theorem d_Hb_mean_35 : decode c_Hb_mean 35 = .ok (.lreturn, 1) := by decide +kernel
theorem d_Hb_forged_0 : decode c_Hb_forged 0 = .ok (.aload_n 0, 1) := by decide +kernel
theorem d_Hb_forged_1 : decode c_Hb_forged 1 = .ok (.iload_n 1, 1) := by decide +kernel
theorem d_Hb_forged_2 : decode c_Hb_forged 2 = .ok (.invokevirtual 73, 3) := by decide +kernel
theorem d_Hb_forged_5 : decode c_Hb_forged 5 = .ok (.istore_n 2, 1) := by decide +kernel
theorem d_Hb_forged_6 : decode c_Hb_forged 6 = .ok (.iload_n 2, 1) := by decide +kernel
theorem d_Hb_forged_7 : decode c_Hb_forged 7 = .ok (.ifCond .eq 5, 3) := by decide +kernel
theorem d_Hb_forged_10 : decode c_Hb_forged 10 = .ok (.iload_n 2, 1) := by decide +kernel
theorem d_Hb_forged_11 : decode c_Hb_forged 11 = .ok (.ireturn, 1) := by decide +kernel
theorem d_Hb_forged_12 : decode c_Hb_forged 12 = .ok (.aload_n 0, 1) := by decide +kernel
theorem d_Hb_forged_13 : decode c_Hb_forged 13 = .ok (.getfield 64, 3) := by decide +kernel
theorem d_Hb_forged_16 : decode c_Hb_forged 16 = .ok (.iload_n 1, 1) := by decide +kernel
theorem d_Hb_forged_17 : decode c_Hb_forged 17 = .ok (.aaload, 1) := by decide +kernel
theorem d_Hb_forged_18 : decode c_Hb_forged 18 = .ok (.astore_n 3, 1) := by decide +kernel
theorem d_Hb_forged_19 : decode c_Hb_forged 19 = .ok (.aload_n 3, 1) := by decide +kernel
theorem d_Hb_forged_20 : decode c_Hb_forged 20 = .ok (.getfield 89, 3) := by decide +kernel
theorem d_Hb_forged_23 : decode c_Hb_forged 23 = .ok (.iconst 2, 1) := by decide +kernel
theorem d_Hb_forged_24 : decode c_Hb_forged 24 = .ok (.irem, 1) := by decide +kernel
theorem d_Hb_forged_25 : decode c_Hb_forged 25 = .ok (.ifCond .eq 6, 3) := by decide +kernel
theorem d_Hb_forged_28 : decode c_Hb_forged 28 = .ok (.bipush (-13), 2) := by decide +kernel
theorem d_Hb_forged_30 : decode c_Hb_forged 30 = .ok (.ireturn, 1) := by decide +kernel
theorem d_Hb_forged_31 : decode c_Hb_forged 31 = .ok (.aload_n 0, 1) := by decide +kernel
theorem d_Hb_forged_32 : decode c_Hb_forged 32 = .ok (.getfield 49, 3) := by decide +kernel
theorem d_Hb_forged_35 : decode c_Hb_forged 35 = .ok (.iconst 0, 1) := by decide +kernel
theorem d_Hb_forged_36 : decode c_Hb_forged 36 = .ok (.aaload, 1) := by decide +kernel
theorem d_Hb_forged_37 : decode c_Hb_forged 37 = .ok (.astore 4, 2) := by decide +kernel
theorem d_Hb_forged_39 : decode c_Hb_forged 39 = .ok (.aload 4, 2) := by decide +kernel
theorem d_Hb_forged_41 : decode c_Hb_forged 41 = .ok (.aload_n 0, 1) := by decide +kernel
theorem d_Hb_forged_42 : decode c_Hb_forged 42 = .ok (.getfield 42, 3) := by decide +kernel
theorem d_Hb_forged_45 : decode c_Hb_forged 45 = .ok (.invokevirtual 85, 3) := by decide +kernel
theorem d_Hb_forged_48 : decode c_Hb_forged 48 = .ok (.iconst (-1), 1) := by decide +kernel
theorem d_Hb_forged_49 : decode c_Hb_forged 49 = .ok (.istore 5, 2) := by decide +kernel
theorem d_Hb_forged_51 : decode c_Hb_forged 51 = .ok (.iconst 0, 1) := by decide +kernel
theorem d_Hb_forged_52 : decode c_Hb_forged 52 = .ok (.istore 6, 2) := by decide +kernel
theorem d_Hb_forged_54 : decode c_Hb_forged 54 = .ok (.iload 6, 2) := by decide +kernel
theorem d_Hb_forged_56 : decode c_Hb_forged 56 = .ok (.iconst 1, 1) := by decide +kernel
theorem d_Hb_forged_57 : decode c_Hb_forged 57 = .ok (.iadd, 1) := by decide +kernel
theorem d_Hb_forged_58 : decode c_Hb_forged 58 = .ok (.aload_n 3, 1) := by decide +kernel
theorem d_Hb_forged_59 : decode c_Hb_forged 59 = .ok (.getfield 89, 3) := by decide +kernel
theorem d_Hb_forged_62 : decode c_Hb_forged 62 = .ok (.if_icmp .ge 86, 3) := by decide +kernel
theorem d_Hb_forged_65 : decode c_Hb_forged 65 = .ok (.aload_n 3, 1) := by decide +kernel
theorem d_Hb_forged_66 : decode c_Hb_forged 66 = .ok (.getfield 96, 3) := by decide +kernel
theorem d_Hb_forged_69 : decode c_Hb_forged 69 = .ok (.iload 6, 2) := by decide +kernel
theorem d_Hb_forged_71 : decode c_Hb_forged 71 = .ok (.iaload, 1) := by decide +kernel
theorem d_Hb_forged_72 : decode c_Hb_forged 72 = .ok (.istore 7, 2) := by decide +kernel
theorem d_Hb_forged_74 : decode c_Hb_forged 74 = .ok (.aload_n 3, 1) := by decide +kernel
theorem d_Hb_forged_75 : decode c_Hb_forged 75 = .ok (.getfield 96, 3) := by decide +kernel
theorem d_Hb_forged_78 : decode c_Hb_forged 78 = .ok (.iload 6, 2) := by decide +kernel
theorem d_Hb_forged_80 : decode c_Hb_forged 80 = .ok (.iconst 1, 1) := by decide +kernel
theorem d_Hb_forged_81 : decode c_Hb_forged 81 = .ok (.iadd, 1) := by decide +kernel
theorem d_Hb_forged_82 : decode c_Hb_forged 82 = .ok (.iaload, 1) := by decide +kernel
theorem d_Hb_forged_83 : decode c_Hb_forged 83 = .ok (.istore 8, 2) := by decide +kernel
theorem d_Hb_forged_85 : decode c_Hb_forged 85 = .ok (.aload_n 0, 1) := by decide +kernel
theorem d_Hb_forged_86 : decode c_Hb_forged 86 = .ok (.iload 7, 2) := by decide +kernel
theorem d_Hb_forged_88 : decode c_Hb_forged 88 = .ok (.invokevirtual 103, 3) := by decide +kernel
theorem d_Hb_forged_91 : decode c_Hb_forged 91 = .ok (.ifCond .eq 32, 3) := by decide +kernel
theorem d_Hb_forged_94 : decode c_Hb_forged 94 = .ok (.iload 8, 2) := by decide +kernel
theorem d_Hb_forged_96 : decode c_Hb_forged 96 = .ok (.invokestatic 143, 3) := by decide +kernel
theorem d_Hb_forged_99 : decode c_Hb_forged 99 = .ok (.ifCond .eq 24, 3) := by decide +kernel
theorem d_Hb_forged_102 : decode c_Hb_forged 102 = .ok (.iload 6, 2) := by decide +kernel
theorem d_Hb_forged_104 : decode c_Hb_forged 104 = .ok (.ifCond .le 24, 3) := by decide +kernel
theorem d_Hb_forged_107 : decode c_Hb_forged 107 = .ok (.aload 4, 2) := by decide +kernel
theorem d_Hb_forged_109 : decode c_Hb_forged 109 = .ok (.getfield 107, 3) := by decide +kernel
theorem d_Hb_forged_112 : decode c_Hb_forged 112 = .ok (.iload 7, 2) := by decide +kernel
theorem d_Hb_forged_114 : decode c_Hb_forged 114 = .ok (.aaload, 1) := by decide +kernel
theorem d_Hb_forged_115 : decode c_Hb_forged 115 = .ok (.getfield 125, 3) := by decide +kernel
theorem d_Hb_forged_118 : decode c_Hb_forged 118 = .ok (.iload 5, 2) := by decide +kernel
theorem d_Hb_forged_120 : decode c_Hb_forged 120 = .ok (.if_icmp .eq 8, 3) := by decide +kernel
theorem d_Hb_forged_123 : decode c_Hb_forged 123 = .ok (.iload 6, 2) := by decide +kernel
theorem d_Hb_forged_125 : decode c_Hb_forged 125 = .ok (.iconst 2, 1) := by decide +kernel
theorem d_Hb_forged_126 : decode c_Hb_forged 126 = .ok (.idiv, 1) := by decide +kernel
theorem d_Hb_forged_127 : decode c_Hb_forged 127 = .ok (.ireturn, 1) := by decide +kernel
theorem d_Hb_forged_128 : decode c_Hb_forged 128 = .ok (.aload 4, 2) := by decide +kernel
theorem d_Hb_forged_130 : decode c_Hb_forged 130 = .ok (.iload 7, 2) := by decide +kernel
theorem d_Hb_forged_132 : decode c_Hb_forged 132 = .ok (.iload 8, 2) := by decide +kernel
theorem d_Hb_forged_134 : decode c_Hb_forged 134 = .ok (.invokevirtual 165, 3) := by decide +kernel
theorem d_Hb_forged_137 : decode c_Hb_forged 137 = .ok (.pop, 1) := by decide +kernel
theorem d_Hb_forged_138 : decode c_Hb_forged 138 = .ok (.iload 8, 2) := by decide +kernel
theorem d_Hb_forged_140 : decode c_Hb_forged 140 = .ok (.istore 5, 2) := by decide +kernel
theorem d_Hb_forged_142 : decode c_Hb_forged 142 = .ok (.iinc 6 2, 3) := by decide +kernel
theorem d_Hb_forged_145 : decode c_Hb_forged 145 = .ok (.goto (-91), 3) := by decide +kernel
theorem d_Hb_forged_148 : decode c_Hb_forged 148 = .ok (.bipush (-4), 2) := by decide +kernel
theorem d_Hb_forged_150 : decode c_Hb_forged 150 = .ok (.ireturn, 1) := by decide +kernel
theorem d_Hb_judge_0 : decode c_Hb_judge 0 = .ok (.aload_n 0, 1) := by decide +kernel
theorem d_Hb_judge_1 : decode c_Hb_judge 1 = .ok (.iload_n 1, 1) := by decide +kernel
theorem d_Hb_judge_2 : decode c_Hb_judge 2 = .ok (.invokevirtual 73, 3) := by decide +kernel
theorem d_Hb_judge_5 : decode c_Hb_judge 5 = .ok (.istore_n 2, 1) := by decide +kernel
theorem d_Hb_judge_6 : decode c_Hb_judge 6 = .ok (.iload_n 2, 1) := by decide +kernel
theorem d_Hb_judge_7 : decode c_Hb_judge 7 = .ok (.ifCond .eq 5, 3) := by decide +kernel
theorem d_Hb_judge_10 : decode c_Hb_judge 10 = .ok (.iload_n 2, 1) := by decide +kernel
theorem d_Hb_judge_11 : decode c_Hb_judge 11 = .ok (.ireturn, 1) := by decide +kernel
theorem d_Hb_judge_12 : decode c_Hb_judge 12 = .ok (.aload_n 0, 1) := by decide +kernel
theorem d_Hb_judge_13 : decode c_Hb_judge 13 = .ok (.getfield 49, 3) := by decide +kernel
theorem d_Hb_judge_16 : decode c_Hb_judge 16 = .ok (.iconst 0, 1) := by decide +kernel
theorem d_Hb_judge_17 : decode c_Hb_judge 17 = .ok (.aaload, 1) := by decide +kernel
theorem d_Hb_judge_18 : decode c_Hb_judge 18 = .ok (.astore_n 3, 1) := by decide +kernel
theorem d_Hb_judge_19 : decode c_Hb_judge 19 = .ok (.aload_n 3, 1) := by decide +kernel
theorem d_Hb_judge_20 : decode c_Hb_judge 20 = .ok (.aload_n 0, 1) := by decide +kernel
theorem d_Hb_judge_21 : decode c_Hb_judge 21 = .ok (.getfield 42, 3) := by decide +kernel
theorem d_Hb_judge_24 : decode c_Hb_judge 24 = .ok (.invokevirtual 85, 3) := by decide +kernel
theorem d_Hb_judge_27 : decode c_Hb_judge 27 = .ok (.iconst 0, 1) := by decide +kernel
theorem d_Hb_judge_28 : decode c_Hb_judge 28 = .ok (.istore 4, 2) := by decide +kernel
theorem d_Hb_judge_30 : decode c_Hb_judge 30 = .ok (.iload 4, 2) := by decide +kernel
theorem d_Hb_judge_32 : decode c_Hb_judge 32 = .ok (.aload_n 0, 1) := by decide +kernel
theorem d_Hb_judge_33 : decode c_Hb_judge 33 = .ok (.getfield 64, 3) := by decide +kernel
theorem d_Hb_judge_36 : decode c_Hb_judge 36 = .ok (.iload_n 1, 1) := by decide +kernel
theorem d_Hb_judge_37 : decode c_Hb_judge 37 = .ok (.aaload, 1) := by decide +kernel
theorem d_Hb_judge_38 : decode c_Hb_judge 38 = .ok (.getfield 89, 3) := by decide +kernel
theorem d_Hb_judge_41 : decode c_Hb_judge 41 = .ok (.if_icmp .ge 35, 3) := by decide +kernel
theorem d_Hb_judge_44 : decode c_Hb_judge 44 = .ok (.aload_n 0, 1) := by decide +kernel
theorem d_Hb_judge_45 : decode c_Hb_judge 45 = .ok (.getfield 64, 3) := by decide +kernel
theorem d_Hb_judge_48 : decode c_Hb_judge 48 = .ok (.iload_n 1, 1) := by decide +kernel
theorem d_Hb_judge_49 : decode c_Hb_judge 49 = .ok (.aaload, 1) := by decide +kernel
theorem d_Hb_judge_50 : decode c_Hb_judge 50 = .ok (.iload 4, 2) := by decide +kernel
theorem d_Hb_judge_52 : decode c_Hb_judge 52 = .ok (.aload_n 3, 1) := by decide +kernel
theorem d_Hb_judge_53 : decode c_Hb_judge 53 = .ok (.invokevirtual 177, 3) := by decide +kernel
theorem d_Hb_judge_56 : decode c_Hb_judge 56 = .ok (.invokevirtual 239, 3) := by decide +kernel
theorem d_Hb_judge_59 : decode c_Hb_judge 59 = .ok (.ifCond .ne 6, 3) := by decide +kernel
theorem d_Hb_judge_62 : decode c_Hb_judge 62 = .ok (.iload 4, 2) := by decide +kernel
theorem d_Hb_judge_64 : decode c_Hb_judge 64 = .ok (.ireturn, 1) := by decide +kernel
theorem d_Hb_judge_65 : decode c_Hb_judge 65 = .ok (.aload_n 3, 1) := by decide +kernel
theorem d_Hb_judge_66 : decode c_Hb_judge 66 = .ok (.iconst 1, 1) := by decide +kernel
theorem d_Hb_judge_67 : decode c_Hb_judge 67 = .ok (.invokevirtual 173, 3) := by decide +kernel
theorem d_Hb_judge_70 : decode c_Hb_judge 70 = .ok (.iinc 4 1, 3) := by decide +kernel
theorem d_Hb_judge_73 : decode c_Hb_judge 73 = .ok (.goto (-43), 3) := by decide +kernel
theorem d_Hb_judge_76 : decode c_Hb_judge 76 = .ok (.bipush (-4), 2) := by decide +kernel
theorem d_Hb_judge_78 : decode c_Hb_judge 78 = .ok (.ireturn, 1) := by decide +kernel
theorem d_Hb_lands_0 : decode c_Hb_lands 0 = .ok (.iload_n 1, 1) := by decide +kernel
theorem d_Hb_lands_1 : decode c_Hb_lands 1 = .ok (.iconst 1, 1) := by decide +kernel
theorem d_Hb_lands_2 : decode c_Hb_lands 2 = .ok (.bipush 20, 2) := by decide +kernel
theorem d_Hb_lands_4 : decode c_Hb_lands 4 = .ok (.invokestatic 169, 3) := by decide +kernel
theorem d_Hb_lands_7 : decode c_Hb_lands 7 = .ok (.ifCond .eq 10, 3) := by decide +kernel
theorem d_Hb_lands_10 : decode c_Hb_lands 10 = .ok (.iload_n 3, 1) := by decide +kernel
theorem d_Hb_lands_11 : decode c_Hb_lands 11 = .ok (.invokestatic 180, 3) := by decide +kernel
theorem d_Hb_lands_14 : decode c_Hb_lands 14 = .ok (.ifCond .ne 5, 3) := by decide +kernel
theorem d_Hb_lands_17 : decode c_Hb_lands 17 = .ok (.iconst (-1), 1) := by decide +kernel
theorem d_Hb_lands_18 : decode c_Hb_lands 18 = .ok (.ireturn, 1) := by decide +kernel
theorem d_Hb_lands_19 : decode c_Hb_lands 19 = .ok (.aload_n 0, 1) := by decide +kernel
theorem d_Hb_lands_20 : decode c_Hb_lands 20 = .ok (.getfield 49, 3) := by decide +kernel
theorem d_Hb_lands_23 : decode c_Hb_lands 23 = .ok (.iconst 0, 1) := by decide +kernel
theorem d_Hb_lands_24 : decode c_Hb_lands 24 = .ok (.aaload, 1) := by decide +kernel
theorem d_Hb_lands_25 : decode c_Hb_lands 25 = .ok (.astore 4, 2) := by decide +kernel
theorem d_Hb_lands_27 : decode c_Hb_lands 27 = .ok (.iload_n 2, 1) := by decide +kernel
theorem d_Hb_lands_28 : decode c_Hb_lands 28 = .ok (.istore 5, 2) := by decide +kernel
theorem d_Hb_lands_30 : decode c_Hb_lands 30 = .ok (.iconst 0, 1) := by decide +kernel
theorem d_Hb_lands_31 : decode c_Hb_lands 31 = .ok (.istore 6, 2) := by decide +kernel
theorem d_Hb_lands_33 : decode c_Hb_lands 33 = .ok (.iconst 0, 1) := by decide +kernel
theorem d_Hb_lands_34 : decode c_Hb_lands 34 = .ok (.istore 7, 2) := by decide +kernel
theorem d_Hb_lands_36 : decode c_Hb_lands 36 = .ok (.iconst 0, 1) := by decide +kernel
theorem d_Hb_lands_37 : decode c_Hb_lands 37 = .ok (.istore 8, 2) := by decide +kernel
theorem d_Hb_lands_39 : decode c_Hb_lands 39 = .ok (.iload 8, 2) := by decide +kernel
theorem d_Hb_lands_41 : decode c_Hb_lands 41 = .ok (.iload_n 1, 1) := by decide +kernel
theorem d_Hb_lands_42 : decode c_Hb_lands 42 = .ok (.if_icmp .ge 97, 3) := by decide +kernel
theorem d_Hb_lands_45 : decode c_Hb_lands 45 = .ok (.aload 4, 2) := by decide +kernel
theorem d_Hb_lands_47 : decode c_Hb_lands 47 = .ok (.aload_n 0, 1) := by decide +kernel
theorem d_Hb_lands_48 : decode c_Hb_lands 48 = .ok (.getfield 42, 3) := by decide +kernel
theorem d_Hb_lands_51 : decode c_Hb_lands 51 = .ok (.invokevirtual 85, 3) := by decide +kernel
theorem d_Hb_lands_54 : decode c_Hb_lands 54 = .ok (.iconst 0, 1) := by decide +kernel
theorem d_Hb_lands_55 : decode c_Hb_lands 55 = .ok (.istore 9, 2) := by decide +kernel
theorem d_Hb_lands_57 : decode c_Hb_lands 57 = .ok (.iload 9, 2) := by decide +kernel
theorem d_Hb_lands_59 : decode c_Hb_lands 59 = .ok (.aload 4, 2) := by decide +kernel
theorem d_Hb_lands_61 : decode c_Hb_lands 61 = .ok (.getfield 149, 3) := by decide +kernel
theorem d_Hb_lands_64 : decode c_Hb_lands 64 = .ok (.if_icmp .ge 42, 3) := by decide +kernel
theorem d_Hb_lands_67 : decode c_Hb_lands 67 = .ok (.iload 5, 2) := by decide +kernel
theorem d_Hb_lands_69 : decode c_Hb_lands 69 = .ok (.ldc 243, 2) := by decide +kernel
theorem d_Hb_lands_71 : decode c_Hb_lands 71 = .ok (.imul, 1) := by decide +kernel
theorem d_Hb_lands_72 : decode c_Hb_lands 72 = .ok (.sipush 12345, 3) := by decide +kernel
theorem d_Hb_lands_75 : decode c_Hb_lands 75 = .ok (.iadd, 1) := by decide +kernel
theorem d_Hb_lands_76 : decode c_Hb_lands 76 = .ok (.istore 5, 2) := by decide +kernel
theorem d_Hb_lands_78 : decode c_Hb_lands 78 = .ok (.aload 4, 2) := by decide +kernel
theorem d_Hb_lands_80 : decode c_Hb_lands 80 = .ok (.getfield 107, 3) := by decide +kernel
theorem d_Hb_lands_83 : decode c_Hb_lands 83 = .ok (.iload 9, 2) := by decide +kernel
theorem d_Hb_lands_85 : decode c_Hb_lands 85 = .ok (.aaload, 1) := by decide +kernel
theorem d_Hb_lands_86 : decode c_Hb_lands 86 = .ok (.iload 5, 2) := by decide +kernel
theorem d_Hb_lands_88 : decode c_Hb_lands 88 = .ok (.ldc 244, 2) := by decide +kernel
theorem d_Hb_lands_90 : decode c_Hb_lands 90 = .ok (.iand, 1) := by decide +kernel
theorem d_Hb_lands_91 : decode c_Hb_lands 91 = .ok (.ldc 245, 2) := by decide +kernel
theorem d_Hb_lands_93 : decode c_Hb_lands 93 = .ok (.idiv, 1) := by decide +kernel
theorem d_Hb_lands_94 : decode c_Hb_lands 94 = .ok (.bipush 21, 2) := by decide +kernel
theorem d_Hb_lands_96 : decode c_Hb_lands 96 = .ok (.irem, 1) := by decide +kernel
theorem d_Hb_lands_97 : decode c_Hb_lands 97 = .ok (.putfield 125, 3) := by decide +kernel
theorem d_Hb_lands_100 : decode c_Hb_lands 100 = .ok (.iinc 9 1, 3) := by decide +kernel
theorem d_Hb_lands_103 : decode c_Hb_lands 103 = .ok (.goto (-46), 3) := by decide +kernel
theorem d_Hb_lands_106 : decode c_Hb_lands 106 = .ok (.aload 4, 2) := by decide +kernel
theorem d_Hb_lands_108 : decode c_Hb_lands 108 = .ok (.bipush 10, 2) := by decide +kernel
theorem d_Hb_lands_110 : decode c_Hb_lands 110 = .ok (.invokevirtual 173, 3) := by decide +kernel
theorem d_Hb_lands_113 : decode c_Hb_lands 113 = .ok (.iload 6, 2) := by decide +kernel
theorem d_Hb_lands_115 : decode c_Hb_lands 115 = .ok (.aload 4, 2) := by decide +kernel
theorem d_Hb_lands_117 : decode c_Hb_lands 117 = .ok (.invokevirtual 177, 3) := by decide +kernel
theorem d_Hb_lands_120 : decode c_Hb_lands 120 = .ok (.iadd, 1) := by decide +kernel
theorem d_Hb_lands_121 : decode c_Hb_lands 121 = .ok (.istore 6, 2) := by decide +kernel
theorem d_Hb_lands_123 : decode c_Hb_lands 123 = .ok (.iload 7, 2) := by decide +kernel
theorem d_Hb_lands_125 : decode c_Hb_lands 125 = .ok (.aload 4, 2) := by decide +kernel
theorem d_Hb_lands_127 : decode c_Hb_lands 127 = .ok (.invokevirtual 246, 3) := by decide +kernel
theorem d_Hb_lands_130 : decode c_Hb_lands 130 = .ok (.iadd, 1) := by decide +kernel
theorem d_Hb_lands_131 : decode c_Hb_lands 131 = .ok (.istore 7, 2) := by decide +kernel
theorem d_Hb_lands_133 : decode c_Hb_lands 133 = .ok (.iinc 8 1, 3) := by decide +kernel
theorem d_Hb_lands_136 : decode c_Hb_lands 136 = .ok (.goto (-97), 3) := by decide +kernel
theorem d_Hb_lands_139 : decode c_Hb_lands 139 = .ok (.iload_n 3, 1) := by decide +kernel
theorem d_Hb_lands_140 : decode c_Hb_lands 140 = .ok (.ifCond .ne 8, 3) := by decide +kernel
theorem d_Hb_lands_143 : decode c_Hb_lands 143 = .ok (.iload 6, 2) := by decide +kernel
theorem d_Hb_lands_145 : decode c_Hb_lands 145 = .ok (.goto 5, 3) := by decide +kernel
theorem d_Hb_lands_148 : decode c_Hb_lands 148 = .ok (.iload 7, 2) := by decide +kernel
theorem d_Hb_lands_150 : decode c_Hb_lands 150 = .ok (.ireturn, 1) := by decide +kernel
theorem d_Hb_image_0 : decode c_Hb_image 0 = .ok (.aload_n 0, 1) := by decide +kernel
theorem d_Hb_image_1 : decode c_Hb_image 1 = .ok (.getfield 46, 3) := by decide +kernel
theorem d_Hb_image_4 : decode c_Hb_image 4 = .ok (.aload_n 0, 1) := by decide +kernel
theorem d_Hb_image_5 : decode c_Hb_image 5 = .ok (.getfield 42, 3) := by decide +kernel
theorem d_Hb_image_8 : decode c_Hb_image 8 = .ok (.invokevirtual 85, 3) := by decide +kernel
theorem d_Hb_image_11 : decode c_Hb_image 11 = .ok (.aload_n 0, 1) := by decide +kernel
theorem d_Hb_image_12 : decode c_Hb_image 12 = .ok (.iconst 1, 1) := by decide +kernel
theorem d_Hb_image_13 : decode c_Hb_image 13 = .ok (.putfield 69, 3) := by decide +kernel
theorem d_Hb_image_16 : decode c_Hb_image 16 = .ok (.aload_n 0, 1) := by decide +kernel
theorem d_Hb_image_17 : decode c_Hb_image 17 = .ok (.getfield 42, 3) := by decide +kernel
theorem d_Hb_image_20 : decode c_Hb_image 20 = .ok (.getfield 249, 3) := by decide +kernel
theorem d_Hb_image_23 : decode c_Hb_image 23 = .ok (.ireturn, 1) := by decide +kernel
theorem d_Hb_restore_0 : decode c_Hb_restore 0 = .ok (.aload_n 0, 1) := by decide +kernel
theorem d_Hb_restore_1 : decode c_Hb_restore 1 = .ok (.getfield 69, 3) := by decide +kernel
theorem d_Hb_restore_4 : decode c_Hb_restore 4 = .ok (.ifCond .ne 6, 3) := by decide +kernel
theorem d_Hb_restore_7 : decode c_Hb_restore 7 = .ok (.bipush (-3), 2) := by decide +kernel
theorem d_Hb_restore_9 : decode c_Hb_restore 9 = .ok (.ireturn, 1) := by decide +kernel
theorem d_Hb_restore_10 : decode c_Hb_restore 10 = .ok (.aload_n 0, 1) := by decide +kernel
theorem d_Hb_restore_11 : decode c_Hb_restore 11 = .ok (.getfield 42, 3) := by decide +kernel
theorem d_Hb_restore_14 : decode c_Hb_restore 14 = .ok (.aload_n 0, 1) := by decide +kernel
theorem d_Hb_restore_15 : decode c_Hb_restore 15 = .ok (.getfield 46, 3) := by decide +kernel
theorem d_Hb_restore_18 : decode c_Hb_restore 18 = .ok (.invokevirtual 85, 3) := by decide +kernel
theorem d_Hb_restore_21 : decode c_Hb_restore 21 = .ok (.aload_n 0, 1) := by decide +kernel
theorem d_Hb_restore_22 : decode c_Hb_restore 22 = .ok (.getfield 42, 3) := by decide +kernel
theorem d_Hb_restore_25 : decode c_Hb_restore 25 = .ok (.getfield 249, 3) := by decide +kernel
theorem d_Hb_restore_28 : decode c_Hb_restore 28 = .ok (.ireturn, 1) := by decide +kernel
theorem d_Hb_count_0 : decode c_Hb_count 0 = .ok (.iload_n 1, 1) := by decide +kernel
theorem d_Hb_count_1 : decode c_Hb_count 1 = .ok (.tableswitch 87 0 5 #[39, 47, 55, 63, 71, 79], 39) := by decide +kernel
theorem d_Hb_count_40 : decode c_Hb_count 40 = .ok (.aload_n 0, 1) := by decide +kernel
theorem d_Hb_count_41 : decode c_Hb_count 41 = .ok (.getfield 42, 3) := by decide +kernel
theorem d_Hb_count_44 : decode c_Hb_count 44 = .ok (.getfield 149, 3) := by decide +kernel
theorem d_Hb_count_47 : decode c_Hb_count 47 = .ok (.ireturn, 1) := by decide +kernel
theorem d_Hb_count_48 : decode c_Hb_count 48 = .ok (.aload_n 0, 1) := by decide +kernel
theorem d_Hb_count_49 : decode c_Hb_count 49 = .ok (.getfield 42, 3) := by decide +kernel
theorem d_Hb_count_52 : decode c_Hb_count 52 = .ok (.getfield 131, 3) := by decide +kernel
theorem d_Hb_count_55 : decode c_Hb_count 55 = .ok (.ireturn, 1) := by decide +kernel
theorem d_Hb_count_56 : decode c_Hb_count 56 = .ok (.aload_n 0, 1) := by decide +kernel
theorem d_Hb_count_57 : decode c_Hb_count 57 = .ok (.getfield 42, 3) := by decide +kernel
theorem d_Hb_count_60 : decode c_Hb_count 60 = .ok (.getfield 249, 3) := by decide +kernel
theorem d_Hb_count_63 : decode c_Hb_count 63 = .ok (.ireturn, 1) := by decide +kernel
theorem d_Hb_count_64 : decode c_Hb_count 64 = .ok (.aload_n 0, 1) := by decide +kernel
theorem d_Hb_count_65 : decode c_Hb_count 65 = .ok (.getfield 42, 3) := by decide +kernel
theorem d_Hb_count_68 : decode c_Hb_count 68 = .ok (.invokevirtual 177, 3) := by decide +kernel
theorem d_Hb_count_71 : decode c_Hb_count 71 = .ok (.ireturn, 1) := by decide +kernel
theorem d_Hb_count_72 : decode c_Hb_count 72 = .ok (.aload_n 0, 1) := by decide +kernel
theorem d_Hb_count_73 : decode c_Hb_count 73 = .ok (.getfield 42, 3) := by decide +kernel
theorem d_Hb_count_76 : decode c_Hb_count 76 = .ok (.invokevirtual 246, 3) := by decide +kernel
theorem d_Hb_count_79 : decode c_Hb_count 79 = .ok (.ireturn, 1) := by decide +kernel
theorem d_Hb_count_80 : decode c_Hb_count 80 = .ok (.aload_n 0, 1) := by decide +kernel
theorem d_Hb_count_81 : decode c_Hb_count 81 = .ok (.getfield 42, 3) := by decide +kernel
theorem d_Hb_count_84 : decode c_Hb_count 84 = .ok (.invokevirtual 252, 3) := by decide +kernel
theorem d_Hb_count_87 : decode c_Hb_count 87 = .ok (.ireturn, 1) := by decide +kernel
theorem d_Hb_count_88 : decode c_Hb_count 88 = .ok (.iconst (-1), 1) := by decide +kernel
theorem d_Hb_count_89 : decode c_Hb_count 89 = .ok (.ireturn, 1) := by decide +kernel
theorem d_Hb_keep_0 : decode c_Hb_keep 0 = .ok (.iload_n 1, 1) := by decide +kernel
theorem d_Hb_keep_1 : decode c_Hb_keep 1 = .ok (.invokestatic 255, 3) := by decide +kernel
theorem d_Hb_keep_4 : decode c_Hb_keep 4 = .ok (.ifCond .eq 10, 3) := by decide +kernel
theorem d_Hb_keep_7 : decode c_Hb_keep 7 = .ok (.iload_n 2, 1) := by decide +kernel
theorem d_Hb_keep_8 : decode c_Hb_keep 8 = .ok (.invokestatic 180, 3) := by decide +kernel
theorem d_Hb_keep_11 : decode c_Hb_keep 11 = .ok (.ifCond .ne 5, 3) := by decide +kernel
theorem d_Hb_keep_14 : decode c_Hb_keep 14 = .ok (.iconst (-1), 1) := by decide +kernel
theorem d_Hb_keep_15 : decode c_Hb_keep 15 = .ok (.ireturn, 1) := by decide +kernel
theorem d_Hb_keep_16 : decode c_Hb_keep 16 = .ok (.iload_n 2, 1) := by decide +kernel
theorem d_Hb_keep_17 : decode c_Hb_keep 17 = .ok (.ifCond .ne 15, 3) := by decide +kernel
theorem d_Hb_keep_20 : decode c_Hb_keep 20 = .ok (.aload_n 0, 1) := by decide +kernel
theorem d_Hb_keep_21 : decode c_Hb_keep 21 = .ok (.getfield 64, 3) := by decide +kernel
theorem d_Hb_keep_24 : decode c_Hb_keep 24 = .ok (.iload_n 1, 1) := by decide +kernel
theorem d_Hb_keep_25 : decode c_Hb_keep 25 = .ok (.aaload, 1) := by decide +kernel
theorem d_Hb_keep_26 : decode c_Hb_keep 26 = .ok (.iconst 0, 1) := by decide +kernel
theorem d_Hb_keep_27 : decode c_Hb_keep 27 = .ok (.putfield 258, 3) := by decide +kernel
theorem d_Hb_keep_30 : decode c_Hb_keep 30 = .ok (.iconst 0, 1) := by decide +kernel
theorem d_Hb_keep_31 : decode c_Hb_keep 31 = .ok (.ireturn, 1) := by decide +kernel
theorem d_Hb_keep_32 : decode c_Hb_keep 32 = .ok (.iload_n 3, 1) := by decide +kernel
theorem d_Hb_keep_33 : decode c_Hb_keep 33 = .ok (.invokestatic 261, 3) := by decide +kernel
theorem d_Hb_keep_36 : decode c_Hb_keep 36 = .ok (.ifCond .eq 14, 3) := by decide +kernel
theorem d_Hb_keep_39 : decode c_Hb_keep 39 = .ok (.iload 4, 2) := by decide +kernel
theorem d_Hb_keep_41 : decode c_Hb_keep 41 = .ok (.iconst 0, 1) := by decide +kernel
theorem d_Hb_keep_42 : decode c_Hb_keep 42 = .ok (.bipush 9, 2) := by decide +kernel
theorem d_Hb_keep_44 : decode c_Hb_keep 44 = .ok (.invokestatic 169, 3) := by decide +kernel
theorem d_Hb_keep_47 : decode c_Hb_keep 47 = .ok (.ifCond .ne 5, 3) := by decide +kernel
theorem d_Hb_keep_50 : decode c_Hb_keep 50 = .ok (.iconst (-1), 1) := by decide +kernel
theorem d_Hb_keep_51 : decode c_Hb_keep 51 = .ok (.ireturn, 1) := by decide +kernel
theorem d_Hb_keep_52 : decode c_Hb_keep 52 = .ok (.aload_n 0, 1) := by decide +kernel
theorem d_Hb_keep_53 : decode c_Hb_keep 53 = .ok (.getfield 64, 3) := by decide +kernel
theorem d_Hb_keep_56 : decode c_Hb_keep 56 = .ok (.iload_n 1, 1) := by decide +kernel
theorem d_Hb_keep_57 : decode c_Hb_keep 57 = .ok (.aaload, 1) := by decide +kernel
theorem d_Hb_keep_58 : decode c_Hb_keep 58 = .ok (.iconst 1, 1) := by decide +kernel
theorem d_Hb_keep_59 : decode c_Hb_keep 59 = .ok (.putfield 258, 3) := by decide +kernel
theorem d_Hb_keep_62 : decode c_Hb_keep 62 = .ok (.aload_n 0, 1) := by decide +kernel
theorem d_Hb_keep_63 : decode c_Hb_keep 63 = .ok (.getfield 64, 3) := by decide +kernel
theorem d_Hb_keep_66 : decode c_Hb_keep 66 = .ok (.iload_n 1, 1) := by decide +kernel
theorem d_Hb_keep_67 : decode c_Hb_keep 67 = .ok (.aaload, 1) := by decide +kernel
theorem d_Hb_keep_68 : decode c_Hb_keep 68 = .ok (.aload_n 0, 1) := by decide +kernel
theorem d_Hb_keep_69 : decode c_Hb_keep 69 = .ok (.getfield 31, 3) := by decide +kernel
theorem d_Hb_keep_72 : decode c_Hb_keep 72 = .ok (.iload_n 3, 1) := by decide +kernel
theorem d_Hb_keep_73 : decode c_Hb_keep 73 = .ok (.aaload, 1) := by decide +kernel
theorem d_Hb_keep_74 : decode c_Hb_keep 74 = .ok (.putfield 152, 3) := by decide +kernel
theorem d_Hb_keep_77 : decode c_Hb_keep 77 = .ok (.aload_n 0, 1) := by decide +kernel
theorem d_Hb_keep_78 : decode c_Hb_keep 78 = .ok (.getfield 64, 3) := by decide +kernel
theorem d_Hb_keep_81 : decode c_Hb_keep 81 = .ok (.iload_n 1, 1) := by decide +kernel
theorem d_Hb_keep_82 : decode c_Hb_keep 82 = .ok (.aaload, 1) := by decide +kernel
theorem d_Hb_keep_83 : decode c_Hb_keep 83 = .ok (.iload 4, 2) := by decide +kernel
theorem d_Hb_keep_85 : decode c_Hb_keep 85 = .ok (.putfield 153, 3) := by decide +kernel
theorem d_Hb_keep_88 : decode c_Hb_keep 88 = .ok (.iconst 0, 1) := by decide +kernel
theorem d_Hb_keep_89 : decode c_Hb_keep 89 = .ok (.ireturn, 1) := by decide +kernel
theorem d_Hb_row_0 : decode c_Hb_row 0 = .ok (.iload_n 1, 1) := by decide +kernel
theorem d_Hb_row_1 : decode c_Hb_row 1 = .ok (.invokestatic 255, 3) := by decide +kernel
theorem d_Hb_row_4 : decode c_Hb_row 4 = .ok (.ifCond .eq 18, 3) := by decide +kernel
theorem d_Hb_row_7 : decode c_Hb_row 7 = .ok (.iload_n 2, 1) := by decide +kernel
theorem d_Hb_row_8 : decode c_Hb_row 8 = .ok (.iconst 0, 1) := by decide +kernel
theorem d_Hb_row_9 : decode c_Hb_row 9 = .ok (.iconst 2, 1) := by decide +kernel
theorem d_Hb_row_10 : decode c_Hb_row 10 = .ok (.invokestatic 169, 3) := by decide +kernel
theorem d_Hb_row_13 : decode c_Hb_row 13 = .ok (.ifCond .eq 9, 3) := by decide +kernel
theorem d_Hb_row_16 : decode c_Hb_row 16 = .ok (.iload_n 3, 1) := by decide +kernel
theorem d_Hb_row_17 : decode c_Hb_row 17 = .ok (.bipush 100, 2) := by decide +kernel
theorem d_Hb_row_19 : decode c_Hb_row 19 = .ok (.if_icmp .le 5, 3) := by decide +kernel
theorem d_Hb_row_22 : decode c_Hb_row 22 = .ok (.iconst (-1), 1) := by decide +kernel
theorem d_Hb_row_23 : decode c_Hb_row 23 = .ok (.ireturn, 1) := by decide +kernel
theorem d_Hb_row_24 : decode c_Hb_row 24 = .ok (.iload_n 3, 1) := by decide +kernel
theorem d_Hb_row_25 : decode c_Hb_row 25 = .ok (.ifCond .ge 6, 3) := by decide +kernel
theorem d_Hb_row_28 : decode c_Hb_row 28 = .ok (.bipush (-14), 2) := by decide +kernel
theorem d_Hb_row_30 : decode c_Hb_row 30 = .ok (.ireturn, 1) := by decide +kernel
theorem d_Hb_row_31 : decode c_Hb_row 31 = .ok (.aload_n 0, 1) := by decide +kernel
theorem d_Hb_row_32 : decode c_Hb_row 32 = .ok (.getfield 64, 3) := by decide +kernel
theorem d_Hb_row_35 : decode c_Hb_row 35 = .ok (.iload_n 1, 1) := by decide +kernel
theorem d_Hb_row_36 : decode c_Hb_row 36 = .ok (.aaload, 1) := by decide +kernel
theorem d_Hb_row_37 : decode c_Hb_row 37 = .ok (.iload_n 2, 1) := by decide +kernel
theorem d_Hb_row_38 : decode c_Hb_row 38 = .ok (.iload_n 3, 1) := by decide +kernel
theorem d_Hb_row_39 : decode c_Hb_row 39 = .ok (.invokevirtual 264, 3) := by decide +kernel
theorem d_Hb_row_42 : decode c_Hb_row 42 = .ok (.iconst 0, 1) := by decide +kernel
theorem d_Hb_row_43 : decode c_Hb_row 43 = .ok (.ireturn, 1) := by decide +kernel
theorem d_Hb_put_0 : decode c_Hb_put 0 = .ok (.aload_n 0, 1) := by decide +kernel
theorem d_Hb_put_1 : decode c_Hb_put 1 = .ok (.iload_n 1, 1) := by decide +kernel
theorem d_Hb_put_2 : decode c_Hb_put 2 = .ok (.invokevirtual 73, 3) := by decide +kernel
theorem d_Hb_put_5 : decode c_Hb_put 5 = .ok (.istore 4, 2) := by decide +kernel
theorem d_Hb_put_7 : decode c_Hb_put 7 = .ok (.iload 4, 2) := by decide +kernel
theorem d_Hb_put_9 : decode c_Hb_put 9 = .ok (.ifCond .eq 6, 3) := by decide +kernel
theorem d_Hb_put_12 : decode c_Hb_put 12 = .ok (.iload 4, 2) := by decide +kernel
theorem d_Hb_put_14 : decode c_Hb_put 14 = .ok (.ireturn, 1) := by decide +kernel
theorem d_Hb_put_15 : decode c_Hb_put 15 = .ok (.iload_n 2, 1) := by decide +kernel
theorem d_Hb_put_16 : decode c_Hb_put 16 = .ok (.iconst 0, 1) := by decide +kernel
theorem d_Hb_put_17 : decode c_Hb_put 17 = .ok (.aload_n 0, 1) := by decide +kernel
theorem d_Hb_put_18 : decode c_Hb_put 18 = .ok (.getfield 64, 3) := by decide +kernel
theorem d_Hb_put_21 : decode c_Hb_put 21 = .ok (.iload_n 1, 1) := by decide +kernel
theorem d_Hb_put_22 : decode c_Hb_put 22 = .ok (.aaload, 1) := by decide +kernel
theorem d_Hb_put_23 : decode c_Hb_put 23 = .ok (.getfield 89, 3) := by decide +kernel
theorem d_Hb_put_26 : decode c_Hb_put 26 = .ok (.iconst 1, 1) := by decide +kernel
theorem d_Hb_put_27 : decode c_Hb_put 27 = .ok (.isub, 1) := by decide +kernel
theorem d_Hb_put_28 : decode c_Hb_put 28 = .ok (.invokestatic 169, 3) := by decide +kernel
theorem d_Hb_put_31 : decode c_Hb_put 31 = .ok (.ifCond .ne 6, 3) := by decide +kernel
theorem d_Hb_put_34 : decode c_Hb_put 34 = .ok (.bipush (-13), 2) := by decide +kernel
theorem d_Hb_put_36 : decode c_Hb_put 36 = .ok (.ireturn, 1) := by decide +kernel
theorem d_Hb_put_37 : decode c_Hb_put 37 = .ok (.aload_n 0, 1) := by decide +kernel
theorem d_Hb_put_38 : decode c_Hb_put 38 = .ok (.getfield 64, 3) := by decide +kernel
theorem d_Hb_put_41 : decode c_Hb_put 41 = .ok (.iload_n 1, 1) := by decide +kernel
theorem d_Hb_put_42 : decode c_Hb_put 42 = .ok (.aaload, 1) := by decide +kernel
theorem d_Hb_put_43 : decode c_Hb_put 43 = .ok (.iload_n 2, 1) := by decide +kernel
theorem d_Hb_put_44 : decode c_Hb_put 44 = .ok (.iload_n 3, 1) := by decide +kernel
theorem d_Hb_put_45 : decode c_Hb_put 45 = .ok (.invokevirtual 267, 3) := by decide +kernel
theorem d_Hb_put_48 : decode c_Hb_put 48 = .ok (.iconst 0, 1) := by decide +kernel
theorem d_Hb_put_49 : decode c_Hb_put 49 = .ok (.ireturn, 1) := by decide +kernel
theorem d_Hb_element_0 : decode c_Hb_element 0 = .ok (.iload_n 1, 1) := by decide +kernel
theorem d_Hb_element_1 : decode c_Hb_element 1 = .ok (.invokestatic 255, 3) := by decide +kernel
theorem d_Hb_element_4 : decode c_Hb_element 4 = .ok (.ifCond .ne 14, 3) := by decide +kernel
theorem d_Hb_element_7 : decode c_Hb_element 7 = .ok (.new 270, 3) := by decide +kernel
theorem d_Hb_element_10 : decode c_Hb_element 10 = .ok (.dup, 1) := by decide +kernel
theorem d_Hb_element_11 : decode c_Hb_element 11 = .ok (.ldc_w 272, 3) := by decide +kernel
theorem d_Hb_element_14 : decode c_Hb_element 14 = .ok (.invokespecial 274, 3) := by decide +kernel
theorem d_Hb_element_17 : decode c_Hb_element 17 = .ok (.athrow, 1) := by decide +kernel
theorem d_Hb_element_18 : decode c_Hb_element 18 = .ok (.aload_n 0, 1) := by decide +kernel
theorem d_Hb_element_19 : decode c_Hb_element 19 = .ok (.getfield 64, 3) := by decide +kernel
theorem d_Hb_element_22 : decode c_Hb_element 22 = .ok (.iload_n 1, 1) := by decide +kernel
theorem d_Hb_element_23 : decode c_Hb_element 23 = .ok (.aaload, 1) := by decide +kernel
theorem d_Hb_element_24 : decode c_Hb_element 24 = .ok (.getfield 258, 3) := by decide +kernel
theorem d_Hb_element_27 : decode c_Hb_element 27 = .ok (.iconst 2, 1) := by decide +kernel
theorem d_Hb_element_28 : decode c_Hb_element 28 = .ok (.if_icmp .ne 22, 3) := by decide +kernel
theorem d_Hb_element_31 : decode c_Hb_element 31 = .ok (.iload_n 2, 1) := by decide +kernel
theorem d_Hb_element_32 : decode c_Hb_element 32 = .ok (.iconst 0, 1) := by decide +kernel
theorem d_Hb_element_33 : decode c_Hb_element 33 = .ok (.aload_n 0, 1) := by decide +kernel
theorem d_Hb_element_34 : decode c_Hb_element 34 = .ok (.getfield 64, 3) := by decide +kernel
theorem d_Hb_element_37 : decode c_Hb_element 37 = .ok (.iload_n 1, 1) := by decide +kernel
theorem d_Hb_element_38 : decode c_Hb_element 38 = .ok (.aaload, 1) := by decide +kernel
theorem d_Hb_element_39 : decode c_Hb_element 39 = .ok (.getfield 89, 3) := by decide +kernel
theorem d_Hb_element_42 : decode c_Hb_element 42 = .ok (.iconst 1, 1) := by decide +kernel
theorem d_Hb_element_43 : decode c_Hb_element 43 = .ok (.isub, 1) := by decide +kernel
theorem d_Hb_element_44 : decode c_Hb_element 44 = .ok (.invokestatic 169, 3) := by decide +kernel
theorem d_Hb_element_47 : decode c_Hb_element 47 = .ok (.ifCond .ne 14, 3) := by decide +kernel
theorem d_Hb_element_50 : decode c_Hb_element 50 = .ok (.new 277, 3) := by decide +kernel
theorem d_Hb_element_53 : decode c_Hb_element 53 = .ok (.dup, 1) := by decide +kernel
theorem d_Hb_element_54 : decode c_Hb_element 54 = .ok (.ldc_w 279, 3) := by decide +kernel
theorem d_Hb_element_57 : decode c_Hb_element 57 = .ok (.invokespecial 281, 3) := by decide +kernel
theorem d_Hb_element_60 : decode c_Hb_element 60 = .ok (.athrow, 1) := by decide +kernel
theorem d_Hb_element_61 : decode c_Hb_element 61 = .ok (.aload_n 0, 1) := by decide +kernel
theorem d_Hb_element_62 : decode c_Hb_element 62 = .ok (.getfield 64, 3) := by decide +kernel
theorem d_Hb_element_65 : decode c_Hb_element 65 = .ok (.iload_n 1, 1) := by decide +kernel
theorem d_Hb_element_66 : decode c_Hb_element 66 = .ok (.aaload, 1) := by decide +kernel
theorem d_Hb_element_67 : decode c_Hb_element 67 = .ok (.getfield 96, 3) := by decide +kernel
theorem d_Hb_element_70 : decode c_Hb_element 70 = .ok (.iload_n 2, 1) := by decide +kernel
theorem d_Hb_element_71 : decode c_Hb_element 71 = .ok (.iaload, 1) := by decide +kernel
theorem d_Hb_element_72 : decode c_Hb_element 72 = .ok (.i2l, 1) := by decide +kernel
theorem d_Hb_element_73 : decode c_Hb_element 73 = .ok (.lreturn, 1) := by decide +kernel
theorem d_Hb_copy_0 : decode c_Hb_copy 0 = .ok (.iload_n 1, 1) := by decide +kernel
theorem d_Hb_copy_1 : decode c_Hb_copy 1 = .ok (.invokestatic 255, 3) := by decide +kernel
theorem d_Hb_copy_4 : decode c_Hb_copy 4 = .ok (.ifCond .eq 10, 3) := by decide +kernel
theorem d_Hb_copy_7 : decode c_Hb_copy 7 = .ok (.iload_n 3, 1) := by decide +kernel
theorem d_Hb_copy_8 : decode c_Hb_copy 8 = .ok (.invokestatic 255, 3) := by decide +kernel
theorem d_Hb_copy_11 : decode c_Hb_copy 11 = .ok (.ifCond .ne 5, 3) := by decide +kernel
theorem d_Hb_copy_14 : decode c_Hb_copy 14 = .ok (.iconst (-1), 1) := by decide +kernel
theorem d_Hb_copy_15 : decode c_Hb_copy 15 = .ok (.ireturn, 1) := by decide +kernel
theorem d_Hb_copy_16 : decode c_Hb_copy 16 = .ok (.aload_n 0, 1) := by decide +kernel
theorem d_Hb_copy_17 : decode c_Hb_copy 17 = .ok (.getfield 64, 3) := by decide +kernel
theorem d_Hb_copy_20 : decode c_Hb_copy 20 = .ok (.iload_n 1, 1) := by decide +kernel
theorem d_Hb_copy_21 : decode c_Hb_copy 21 = .ok (.aaload, 1) := by decide +kernel
theorem d_Hb_copy_22 : decode c_Hb_copy 22 = .ok (.astore 6, 2) := by decide +kernel
theorem d_Hb_copy_24 : decode c_Hb_copy 24 = .ok (.aload_n 0, 1) := by decide +kernel
theorem d_Hb_copy_25 : decode c_Hb_copy 25 = .ok (.getfield 64, 3) := by decide +kernel
theorem d_Hb_copy_28 : decode c_Hb_copy 28 = .ok (.iload_n 3, 1) := by decide +kernel
theorem d_Hb_copy_29 : decode c_Hb_copy 29 = .ok (.aaload, 1) := by decide +kernel
theorem d_Hb_copy_30 : decode c_Hb_copy 30 = .ok (.astore 7, 2) := by decide +kernel
theorem d_Hb_copy_32 : decode c_Hb_copy 32 = .ok (.aload 6, 2) := by decide +kernel
theorem d_Hb_copy_34 : decode c_Hb_copy 34 = .ok (.getfield 258, 3) := by decide +kernel
theorem d_Hb_copy_37 : decode c_Hb_copy 37 = .ok (.ifCond .eq 11, 3) := by decide +kernel
theorem d_Hb_copy_40 : decode c_Hb_copy 40 = .ok (.aload 7, 2) := by decide +kernel
theorem d_Hb_copy_42 : decode c_Hb_copy 42 = .ok (.getfield 258, 3) := by decide +kernel
theorem d_Hb_copy_45 : decode c_Hb_copy 45 = .ok (.ifCond .ne 6, 3) := by decide +kernel
theorem d_Hb_copy_48 : decode c_Hb_copy 48 = .ok (.bipush (-11), 2) := by decide +kernel
theorem d_Hb_copy_50 : decode c_Hb_copy 50 = .ok (.ireturn, 1) := by decide +kernel
theorem d_Hb_copy_51 : decode c_Hb_copy 51 = .ok (.aload 6, 2) := by decide +kernel
theorem d_Hb_copy_53 : decode c_Hb_copy 53 = .ok (.getfield 258, 3) := by decide +kernel
theorem d_Hb_copy_56 : decode c_Hb_copy 56 = .ok (.iconst 2, 1) := by decide +kernel
theorem d_Hb_copy_57 : decode c_Hb_copy 57 = .ok (.if_icmp .ne 25, 3) := by decide +kernel
theorem d_Hb_copy_60 : decode c_Hb_copy 60 = .ok (.aload 7, 2) := by decide +kernel
theorem d_Hb_copy_62 : decode c_Hb_copy 62 = .ok (.getfield 258, 3) := by decide +kernel
theorem d_Hb_copy_65 : decode c_Hb_copy 65 = .ok (.iconst 2, 1) := by decide +kernel
theorem d_Hb_copy_66 : decode c_Hb_copy 66 = .ok (.if_icmp .ne 16, 3) := by decide +kernel
theorem d_Hb_copy_69 : decode c_Hb_copy 69 = .ok (.aload 6, 2) := by decide +kernel
theorem d_Hb_copy_71 : decode c_Hb_copy 71 = .ok (.getfield 77, 3) := by decide +kernel
theorem d_Hb_copy_74 : decode c_Hb_copy 74 = .ok (.aload 7, 2) := by decide +kernel
theorem d_Hb_copy_76 : decode c_Hb_copy 76 = .ok (.getfield 77, 3) := by decide +kernel
theorem d_Hb_copy_79 : decode c_Hb_copy 79 = .ok (.if_icmp .eq 6, 3) := by decide +kernel
theorem d_Hb_copy_82 : decode c_Hb_copy 82 = .ok (.bipush (-12), 2) := by decide +kernel
theorem d_Hb_copy_84 : decode c_Hb_copy 84 = .ok (.ireturn, 1) := by decide +kernel
theorem d_Hb_copy_85 : decode c_Hb_copy 85 = .ok (.aload 6, 2) := by decide +kernel
theorem d_Hb_copy_87 : decode c_Hb_copy 87 = .ok (.iload_n 2, 1) := by decide +kernel
theorem d_Hb_copy_88 : decode c_Hb_copy 88 = .ok (.iload 5, 2) := by decide +kernel
theorem d_Hb_copy_90 : decode c_Hb_copy 90 = .ok (.invokevirtual 282, 3) := by decide +kernel
theorem d_Hb_copy_93 : decode c_Hb_copy 93 = .ok (.ifCond .eq 15, 3) := by decide +kernel
theorem d_Hb_copy_96 : decode c_Hb_copy 96 = .ok (.aload 7, 2) := by decide +kernel
theorem d_Hb_copy_98 : decode c_Hb_copy 98 = .ok (.iload 4, 2) := by decide +kernel
theorem d_Hb_copy_100 : decode c_Hb_copy 100 = .ok (.iload 5, 2) := by decide +kernel
theorem d_Hb_copy_102 : decode c_Hb_copy 102 = .ok (.invokevirtual 282, 3) := by decide +kernel
theorem d_Hb_copy_105 : decode c_Hb_copy 105 = .ok (.ifCond .ne 6, 3) := by decide +kernel
theorem d_Hb_copy_108 : decode c_Hb_copy 108 = .ok (.bipush (-13), 2) := by decide +kernel
theorem d_Hb_copy_110 : decode c_Hb_copy 110 = .ok (.ireturn, 1) := by decide +kernel
theorem d_Hb_copy_111 : decode c_Hb_copy 111 = .ok (.aload 6, 2) := by decide +kernel
theorem d_Hb_copy_113 : decode c_Hb_copy 113 = .ok (.getfield 96, 3) := by decide +kernel
theorem d_Hb_copy_116 : decode c_Hb_copy 116 = .ok (.iload_n 2, 1) := by decide +kernel
theorem d_Hb_copy_117 : decode c_Hb_copy 117 = .ok (.aload 7, 2) := by decide +kernel
theorem d_Hb_copy_119 : decode c_Hb_copy 119 = .ok (.getfield 96, 3) := by decide +kernel
theorem d_Hb_copy_122 : decode c_Hb_copy 122 = .ok (.iload 4, 2) := by decide +kernel
theorem d_Hb_copy_124 : decode c_Hb_copy 124 = .ok (.iload 5, 2) := by decide +kernel
theorem d_Hb_copy_126 : decode c_Hb_copy 126 = .ok (.invokestatic 285, 3) := by decide +kernel
theorem d_Hb_copy_129 : decode c_Hb_copy 129 = .ok (.iload 5, 2) := by decide +kernel
theorem d_Hb_copy_131 : decode c_Hb_copy 131 = .ok (.ireturn, 1) := by decide +kernel
theorem d_Hb_cost_0 : decode c_Hb_cost 0 = .ok (.aload_n 0, 1) := by decide +kernel
theorem d_Hb_cost_1 : decode c_Hb_cost 1 = .ok (.iload_n 1, 1) := by decide +kernel
theorem d_Hb_cost_2 : decode c_Hb_cost 2 = .ok (.invokevirtual 146, 3) := by decide +kernel
theorem d_Hb_cost_5 : decode c_Hb_cost 5 = .ok (.istore_n 2, 1) := by decide +kernel
theorem d_Hb_cost_6 : decode c_Hb_cost 6 = .ok (.iload_n 2, 1) := by decide +kernel
theorem d_Hb_cost_7 : decode c_Hb_cost 7 = .ok (.ifCond .eq 5, 3) := by decide +kernel
theorem d_Hb_cost_10 : decode c_Hb_cost 10 = .ok (.iload_n 2, 1) := by decide +kernel
theorem d_Hb_cost_11 : decode c_Hb_cost 11 = .ok (.ireturn, 1) := by decide +kernel
theorem d_Hb_cost_12 : decode c_Hb_cost 12 = .ok (.aload_n 0, 1) := by decide +kernel
theorem d_Hb_cost_13 : decode c_Hb_cost 13 = .ok (.getfield 64, 3) := by decide +kernel
theorem d_Hb_cost_16 : decode c_Hb_cost 16 = .ok (.iload_n 1, 1) := by decide +kernel
theorem d_Hb_cost_17 : decode c_Hb_cost 17 = .ok (.aaload, 1) := by decide +kernel
theorem d_Hb_cost_18 : decode c_Hb_cost 18 = .ok (.getfield 152, 3) := by decide +kernel
theorem d_Hb_cost_21 : decode c_Hb_cost 21 = .ok (.aload_n 0, 1) := by decide +kernel
theorem d_Hb_cost_22 : decode c_Hb_cost 22 = .ok (.getfield 64, 3) := by decide +kernel
theorem d_Hb_cost_25 : decode c_Hb_cost 25 = .ok (.iload_n 1, 1) := by decide +kernel
theorem d_Hb_cost_26 : decode c_Hb_cost 26 = .ok (.aaload, 1) := by decide +kernel
theorem d_Hb_cost_27 : decode c_Hb_cost 27 = .ok (.getfield 153, 3) := by decide +kernel
theorem d_Hb_cost_30 : decode c_Hb_cost 30 = .ok (.invokevirtual 291, 3) := by decide +kernel
theorem d_Hb_cost_33 : decode c_Hb_cost 33 = .ok (.ireturn, 1) := by decide +kernel
theorem d_Hb_toss_0 : decode c_Hb_toss 0 = .ok (.aload_n 0, 1) := by decide +kernel
theorem d_Hb_toss_1 : decode c_Hb_toss 1 = .ok (.iload_n 1, 1) := by decide +kernel
theorem d_Hb_toss_2 : decode c_Hb_toss 2 = .ok (.invokevirtual 146, 3) := by decide +kernel
theorem d_Hb_toss_5 : decode c_Hb_toss 5 = .ok (.istore_n 2, 1) := by decide +kernel
theorem d_Hb_toss_6 : decode c_Hb_toss 6 = .ok (.iload_n 2, 1) := by decide +kernel
theorem d_Hb_toss_7 : decode c_Hb_toss 7 = .ok (.ifCond .eq 5, 3) := by decide +kernel
theorem d_Hb_toss_10 : decode c_Hb_toss 10 = .ok (.iload_n 2, 1) := by decide +kernel
theorem d_Hb_toss_11 : decode c_Hb_toss 11 = .ok (.ireturn, 1) := by decide +kernel
theorem d_Hb_toss_12 : decode c_Hb_toss 12 = .ok (.aload_n 0, 1) := by decide +kernel
theorem d_Hb_toss_13 : decode c_Hb_toss 13 = .ok (.getfield 64, 3) := by decide +kernel
theorem d_Hb_toss_16 : decode c_Hb_toss 16 = .ok (.iload_n 1, 1) := by decide +kernel
theorem d_Hb_toss_17 : decode c_Hb_toss 17 = .ok (.aaload, 1) := by decide +kernel
theorem d_Hb_toss_18 : decode c_Hb_toss 18 = .ok (.getfield 152, 3) := by decide +kernel
theorem d_Hb_toss_21 : decode c_Hb_toss 21 = .ok (.astore_n 3, 1) := by decide +kernel
theorem d_Hb_toss_22 : decode c_Hb_toss 22 = .ok (.aload_n 0, 1) := by decide +kernel
theorem d_Hb_toss_23 : decode c_Hb_toss 23 = .ok (.getfield 64, 3) := by decide +kernel
theorem d_Hb_toss_26 : decode c_Hb_toss 26 = .ok (.iload_n 1, 1) := by decide +kernel
theorem d_Hb_toss_27 : decode c_Hb_toss 27 = .ok (.aaload, 1) := by decide +kernel
theorem d_Hb_toss_28 : decode c_Hb_toss 28 = .ok (.getfield 153, 3) := by decide +kernel
theorem d_Hb_toss_31 : decode c_Hb_toss 31 = .ok (.istore 4, 2) := by decide +kernel
theorem d_Hb_toss_33 : decode c_Hb_toss 33 = .ok (.aload_n 3, 1) := by decide +kernel
theorem d_Hb_toss_34 : decode c_Hb_toss 34 = .ok (.iload 4, 2) := by decide +kernel
theorem d_Hb_toss_36 : decode c_Hb_toss 36 = .ok (.invokevirtual 294, 3) := by decide +kernel
theorem d_Hb_toss_39 : decode c_Hb_toss 39 = .ok (.goto 29, 3) := by decide +kernel
theorem d_Hb_toss_42 : decode c_Hb_toss 42 = .ok (.astore 5, 2) := by decide +kernel
theorem d_Hb_toss_44 : decode c_Hb_toss 44 = .ok (.sipush 200, 3) := by decide +kernel
theorem d_Hb_toss_47 : decode c_Hb_toss 47 = .ok (.aload_n 3, 1) := by decide +kernel
theorem d_Hb_toss_48 : decode c_Hb_toss 48 = .ok (.iload 4, 2) := by decide +kernel
theorem d_Hb_toss_50 : decode c_Hb_toss 50 = .ok (.invokevirtual 291, 3) := by decide +kernel
theorem d_Hb_toss_53 : decode c_Hb_toss 53 = .ok (.iadd, 1) := by decide +kernel
theorem d_Hb_toss_54 : decode c_Hb_toss 54 = .ok (.ireturn, 1) := by decide +kernel
theorem d_Hb_toss_55 : decode c_Hb_toss 55 = .ok (.astore 5, 2) := by decide +kernel
theorem d_Hb_toss_57 : decode c_Hb_toss 57 = .ok (.bipush 100, 2) := by decide +kernel
theorem d_Hb_toss_59 : decode c_Hb_toss 59 = .ok (.iload 4, 2) := by decide +kernel
theorem d_Hb_toss_61 : decode c_Hb_toss 61 = .ok (.iadd, 1) := by decide +kernel
theorem d_Hb_toss_62 : decode c_Hb_toss 62 = .ok (.ireturn, 1) := by decide +kernel
theorem d_Hb_toss_63 : decode c_Hb_toss 63 = .ok (.astore 5, 2) := by decide +kernel
theorem d_Hb_toss_65 : decode c_Hb_toss 65 = .ok (.iload 4, 2) := by decide +kernel
theorem d_Hb_toss_67 : decode c_Hb_toss 67 = .ok (.ireturn, 1) := by decide +kernel
theorem d_Hb_toss_68 : decode c_Hb_toss 68 = .ok (.bipush (-15), 2) := by decide +kernel
theorem d_Hb_toss_70 : decode c_Hb_toss 70 = .ok (.ireturn, 1) := by decide +kernel
theorem d_Hb_isWithin_0 : decode c_Hb_isWithin 0 = .ok (.iload_n 0, 1) := by decide +kernel
theorem d_Hb_isWithin_1 : decode c_Hb_isWithin 1 = .ok (.iload_n 1, 1) := by decide +kernel
theorem d_Hb_isWithin_2 : decode c_Hb_isWithin 2 = .ok (.if_icmp .lt 12, 3) := by decide +kernel
theorem d_Hb_isWithin_5 : decode c_Hb_isWithin 5 = .ok (.iload_n 0, 1) := by decide +kernel
theorem d_Hb_isWithin_6 : decode c_Hb_isWithin 6 = .ok (.iload_n 2, 1) := by decide +kernel
theorem d_Hb_isWithin_7 : decode c_Hb_isWithin 7 = .ok (.if_icmp .gt 7, 3) := by decide +kernel
theorem d_Hb_isWithin_10 : decode c_Hb_isWithin 10 = .ok (.iconst 1, 1) := by decide +kernel
theorem d_Hb_isWithin_11 : decode c_Hb_isWithin 11 = .ok (.goto 4, 3) := by decide +kernel
theorem d_Hb_isWithin_14 : decode c_Hb_isWithin 14 = .ok (.iconst 0, 1) := by decide +kernel
theorem d_Hb_isWithin_15 : decode c_Hb_isWithin 15 = .ok (.ireturn, 1) := by decide +kernel
theorem d_Hb_isEither_0 : decode c_Hb_isEither 0 = .ok (.iload_n 0, 1) := by decide +kernel
theorem d_Hb_isEither_1 : decode c_Hb_isEither 1 = .ok (.ifCond .eq 8, 3) := by decide +kernel
theorem d_Hb_isEither_4 : decode c_Hb_isEither 4 = .ok (.iload_n 0, 1) := by decide +kernel
theorem d_Hb_isEither_5 : decode c_Hb_isEither 5 = .ok (.iconst 1, 1) := by decide +kernel
theorem d_Hb_isEither_6 : decode c_Hb_isEither 6 = .ok (.if_icmp .ne 7, 3) := by decide +kernel
theorem d_Hb_isEither_9 : decode c_Hb_isEither 9 = .ok (.iconst 1, 1) := by decide +kernel
theorem d_Hb_isEither_10 : decode c_Hb_isEither 10 = .ok (.goto 4, 3) := by decide +kernel
theorem d_Hb_isEither_13 : decode c_Hb_isEither 13 = .ok (.iconst 0, 1) := by decide +kernel
theorem d_Hb_isEither_14 : decode c_Hb_isEither 14 = .ok (.ireturn, 1) := by decide +kernel
theorem d_Hb_isYard_0 : decode c_Hb_isYard 0 = .ok (.iload_n 0, 1) := by decide +kernel
theorem d_Hb_isYard_1 : decode c_Hb_isYard 1 = .ok (.iconst 0, 1) := by decide +kernel
theorem d_Hb_isYard_2 : decode c_Hb_isYard 2 = .ok (.bipush 20, 2) := by decide +kernel
theorem d_Hb_isYard_4 : decode c_Hb_isYard 4 = .ok (.invokestatic 169, 3) := by decide +kernel
theorem d_Hb_isYard_7 : decode c_Hb_isYard 7 = .ok (.ireturn, 1) := by decide +kernel
theorem d_Hb_isKind_0 : decode c_Hb_isKind 0 = .ok (.iload_n 0, 1) := by decide +kernel
theorem d_Hb_isKind_1 : decode c_Hb_isKind 1 = .ok (.iconst 0, 1) := by decide +kernel
theorem d_Hb_isKind_2 : decode c_Hb_isKind 2 = .ok (.bipush 7, 2) := by decide +kernel
theorem d_Hb_isKind_4 : decode c_Hb_isKind 4 = .ok (.invokestatic 169, 3) := by decide +kernel
theorem d_Hb_isKind_7 : decode c_Hb_isKind 7 = .ok (.ireturn, 1) := by decide +kernel
theorem d_Hb_isShelf_0 : decode c_Hb_isShelf 0 = .ok (.iload_n 0, 1) := by decide +kernel
theorem d_Hb_isShelf_1 : decode c_Hb_isShelf 1 = .ok (.iconst 0, 1) := by decide +kernel
theorem d_Hb_isShelf_2 : decode c_Hb_isShelf 2 = .ok (.bipush 7, 2) := by decide +kernel
theorem d_Hb_isShelf_4 : decode c_Hb_isShelf 4 = .ok (.invokestatic 169, 3) := by decide +kernel
theorem d_Hb_isShelf_7 : decode c_Hb_isShelf 7 = .ok (.ireturn, 1) := by decide +kernel
theorem d_Hb_isHorse_0 : decode c_Hb_isHorse 0 = .ok (.iload_n 1, 1) := by decide +kernel
theorem d_Hb_isHorse_1 : decode c_Hb_isHorse 1 = .ok (.iconst 0, 1) := by decide +kernel
theorem d_Hb_isHorse_2 : decode c_Hb_isHorse 2 = .ok (.aload_n 0, 1) := by decide +kernel
theorem d_Hb_isHorse_3 : decode c_Hb_isHorse 3 = .ok (.getfield 42, 3) := by decide +kernel
theorem d_Hb_isHorse_6 : decode c_Hb_isHorse 6 = .ok (.getfield 149, 3) := by decide +kernel
theorem d_Hb_isHorse_9 : decode c_Hb_isHorse 9 = .ok (.iconst 1, 1) := by decide +kernel
theorem d_Hb_isHorse_10 : decode c_Hb_isHorse 10 = .ok (.isub, 1) := by decide +kernel
theorem d_Hb_isHorse_11 : decode c_Hb_isHorse 11 = .ok (.invokestatic 169, 3) := by decide +kernel
theorem d_Hb_isHorse_14 : decode c_Hb_isHorse 14 = .ok (.ireturn, 1) := by decide +kernel
theorem d_Hb_refusalOfRow_0 : decode c_Hb_refusalOfRow 0 = .ok (.aload_n 0, 1) := by decide +kernel
theorem d_Hb_refusalOfRow_1 : decode c_Hb_refusalOfRow 1 = .ok (.iload_n 1, 1) := by decide +kernel
theorem d_Hb_refusalOfRow_2 : decode c_Hb_refusalOfRow 2 = .ok (.iconst 2, 1) := by decide +kernel
theorem d_Hb_refusalOfRow_3 : decode c_Hb_refusalOfRow 3 = .ok (.invokevirtual 299, 3) := by decide +kernel
theorem d_Hb_refusalOfRow_6 : decode c_Hb_refusalOfRow 6 = .ok (.ireturn, 1) := by decide +kernel
theorem d_Hb_refusalOfKind_0 : decode c_Hb_refusalOfKind 0 = .ok (.aload_n 0, 1) := by decide +kernel
theorem d_Hb_refusalOfKind_1 : decode c_Hb_refusalOfKind 1 = .ok (.iload_n 1, 1) := by decide +kernel
theorem d_Hb_refusalOfKind_2 : decode c_Hb_refusalOfKind 2 = .ok (.iconst 1, 1) := by decide +kernel
theorem d_Hb_refusalOfKind_3 : decode c_Hb_refusalOfKind 3 = .ok (.invokevirtual 299, 3) := by decide +kernel
theorem d_Hb_refusalOfKind_6 : decode c_Hb_refusalOfKind 6 = .ok (.ireturn, 1) := by decide +kernel
theorem d_Hb_refusalOf_0 : decode c_Hb_refusalOf 0 = .ok (.iload_n 1, 1) := by decide +kernel
theorem d_Hb_refusalOf_1 : decode c_Hb_refusalOf 1 = .ok (.invokestatic 255, 3) := by decide +kernel
theorem d_Hb_refusalOf_4 : decode c_Hb_refusalOf 4 = .ok (.ifCond .ne 5, 3) := by decide +kernel
theorem d_Hb_refusalOf_7 : decode c_Hb_refusalOf 7 = .ok (.iconst (-1), 1) := by decide +kernel
theorem d_Hb_refusalOf_8 : decode c_Hb_refusalOf 8 = .ok (.ireturn, 1) := by decide +kernel
theorem d_Hb_refusalOf_9 : decode c_Hb_refusalOf 9 = .ok (.aload_n 0, 1) := by decide +kernel
theorem d_Hb_refusalOf_10 : decode c_Hb_refusalOf 10 = .ok (.getfield 64, 3) := by decide +kernel
theorem d_Hb_refusalOf_13 : decode c_Hb_refusalOf 13 = .ok (.iload_n 1, 1) := by decide +kernel
theorem d_Hb_refusalOf_14 : decode c_Hb_refusalOf 14 = .ok (.aaload, 1) := by decide +kernel
theorem d_Hb_refusalOf_15 : decode c_Hb_refusalOf 15 = .ok (.getfield 258, 3) := by decide +kernel
theorem d_Hb_refusalOf_18 : decode c_Hb_refusalOf 18 = .ok (.ifCond .ne 6, 3) := by decide +kernel
theorem d_Hb_refusalOf_21 : decode c_Hb_refusalOf 21 = .ok (.bipush (-11), 2) := by decide +kernel
theorem d_Hb_refusalOf_23 : decode c_Hb_refusalOf 23 = .ok (.ireturn, 1) := by decide +kernel
theorem d_Hb_refusalOf_24 : decode c_Hb_refusalOf 24 = .ok (.aload_n 0, 1) := by decide +kernel
theorem d_Hb_refusalOf_25 : decode c_Hb_refusalOf 25 = .ok (.getfield 64, 3) := by decide +kernel
theorem d_Hb_refusalOf_28 : decode c_Hb_refusalOf 28 = .ok (.iload_n 1, 1) := by decide +kernel
theorem d_Hb_refusalOf_29 : decode c_Hb_refusalOf 29 = .ok (.aaload, 1) := by decide +kernel
theorem d_Hb_refusalOf_30 : decode c_Hb_refusalOf 30 = .ok (.getfield 258, 3) := by decide +kernel
theorem d_Hb_refusalOf_33 : decode c_Hb_refusalOf 33 = .ok (.iload_n 2, 1) := by decide +kernel
theorem d_Hb_refusalOf_34 : decode c_Hb_refusalOf 34 = .ok (.if_icmp .ne 7, 3) := by decide +kernel
theorem d_Hb_refusalOf_37 : decode c_Hb_refusalOf 37 = .ok (.iconst 0, 1) := by decide +kernel
theorem d_Hb_refusalOf_38 : decode c_Hb_refusalOf 38 = .ok (.goto 5, 3) := by decide +kernel
theorem d_Hb_refusalOf_41 : decode c_Hb_refusalOf 41 = .ok (.bipush (-12), 2) := by decide +kernel
theorem d_Hb_refusalOf_43 : decode c_Hb_refusalOf 43 = .ok (.ireturn, 1) := by decide +kernel
theorem d_Hb_placeOfLack_0 : decode c_Hb_placeOfLack 0 = .ok (.iconst 0, 1) := by decide +kernel
theorem d_Hb_placeOfLack_1 : decode c_Hb_placeOfLack 1 = .ok (.istore_n 1, 1) := by decide +kernel
theorem d_Hb_placeOfLack_2 : decode c_Hb_placeOfLack 2 = .ok (.aload_n 0, 1) := by decide +kernel
theorem d_Hb_placeOfLack_3 : decode c_Hb_placeOfLack 3 = .ok (.iload_n 1, 1) := by decide +kernel
theorem d_Hb_placeOfLack_4 : decode c_Hb_placeOfLack 4 = .ok (.iconst 1, 1) := by decide +kernel
theorem d_Hb_placeOfLack_5 : decode c_Hb_placeOfLack 5 = .ok (.invokevirtual 282, 3) := by decide +kernel
theorem d_Hb_placeOfLack_8 : decode c_Hb_placeOfLack 8 = .ok (.ifCond .eq 15, 3) := by decide +kernel
theorem d_Hb_placeOfLack_11 : decode c_Hb_placeOfLack 11 = .ok (.aload_n 0, 1) := by decide +kernel
theorem d_Hb_placeOfLack_12 : decode c_Hb_placeOfLack 12 = .ok (.getfield 96, 3) := by decide +kernel
theorem d_Hb_placeOfLack_15 : decode c_Hb_placeOfLack 15 = .ok (.iload_n 1, 1) := by decide +kernel
theorem d_Hb_placeOfLack_16 : decode c_Hb_placeOfLack 16 = .ok (.iaload, 1) := by decide +kernel
theorem d_Hb_placeOfLack_17 : decode c_Hb_placeOfLack 17 = .ok (.invokestatic 100, 3) := by decide +kernel
theorem d_Hb_placeOfLack_20 : decode c_Hb_placeOfLack 20 = .ok (.goto 4, 3) := by decide +kernel
theorem d_Hb_placeOfLack_23 : decode c_Hb_placeOfLack 23 = .ok (.iconst 0, 1) := by decide +kernel
theorem d_Hb_placeOfLack_24 : decode c_Hb_placeOfLack 24 = .ok (.istore_n 2, 1) := by decide +kernel
theorem d_Hb_placeOfLack_25 : decode c_Hb_placeOfLack 25 = .ok (.iload_n 2, 1) := by decide +kernel
theorem d_Hb_placeOfLack_26 : decode c_Hb_placeOfLack 26 = .ok (.ifCond .ne 5, 3) := by decide +kernel
theorem d_Hb_placeOfLack_29 : decode c_Hb_placeOfLack 29 = .ok (.iload_n 1, 1) := by decide +kernel
theorem d_Hb_placeOfLack_30 : decode c_Hb_placeOfLack 30 = .ok (.ireturn, 1) := by decide +kernel
theorem d_Hb_placeOfLack_31 : decode c_Hb_placeOfLack 31 = .ok (.iinc 1 1, 3) := by decide +kernel
theorem d_Hb_placeOfLack_34 : decode c_Hb_placeOfLack 34 = .ok (.iload_n 1, 1) := by decide +kernel
theorem d_Hb_placeOfLack_35 : decode c_Hb_placeOfLack 35 = .ok (.iload_n 2, 1) := by decide +kernel
theorem d_Hb_placeOfLack_36 : decode c_Hb_placeOfLack 36 = .ok (.iadd, 1) := by decide +kernel
theorem d_Hb_placeOfLack_37 : decode c_Hb_placeOfLack 37 = .ok (.istore_n 3, 1) := by decide +kernel
theorem d_Hb_placeOfLack_38 : decode c_Hb_placeOfLack 38 = .ok (.iload_n 1, 1) := by decide +kernel
theorem d_Hb_placeOfLack_39 : decode c_Hb_placeOfLack 39 = .ok (.iload_n 3, 1) := by decide +kernel
theorem d_Hb_placeOfLack_40 : decode c_Hb_placeOfLack 40 = .ok (.if_icmp .ge 36, 3) := by decide +kernel
theorem d_Hb_placeOfLack_43 : decode c_Hb_placeOfLack 43 = .ok (.aload_n 0, 1) := by decide +kernel
theorem d_Hb_placeOfLack_44 : decode c_Hb_placeOfLack 44 = .ok (.iload_n 1, 1) := by decide +kernel
theorem d_Hb_placeOfLack_45 : decode c_Hb_placeOfLack 45 = .ok (.iconst 1, 1) := by decide +kernel
theorem d_Hb_placeOfLack_46 : decode c_Hb_placeOfLack 46 = .ok (.invokevirtual 282, 3) := by decide +kernel
theorem d_Hb_placeOfLack_49 : decode c_Hb_placeOfLack 49 = .ok (.ifCond .eq 19, 3) := by decide +kernel
theorem d_Hb_placeOfLack_52 : decode c_Hb_placeOfLack 52 = .ok (.aload_n 0, 1) := by decide +kernel
theorem d_Hb_placeOfLack_53 : decode c_Hb_placeOfLack 53 = .ok (.getfield 96, 3) := by decide +kernel
theorem d_Hb_placeOfLack_56 : decode c_Hb_placeOfLack 56 = .ok (.iload_n 1, 1) := by decide +kernel
theorem d_Hb_placeOfLack_57 : decode c_Hb_placeOfLack 57 = .ok (.iaload, 1) := by decide +kernel
theorem d_Hb_placeOfLack_58 : decode c_Hb_placeOfLack 58 = .ok (.bipush 48, 2) := by decide +kernel
theorem d_Hb_placeOfLack_60 : decode c_Hb_placeOfLack 60 = .ok (.bipush 57, 2) := by decide +kernel
theorem d_Hb_placeOfLack_62 : decode c_Hb_placeOfLack 62 = .ok (.invokestatic 169, 3) := by decide +kernel
theorem d_Hb_placeOfLack_65 : decode c_Hb_placeOfLack 65 = .ok (.ifCond .ne 5, 3) := by decide +kernel
theorem d_Hb_placeOfLack_68 : decode c_Hb_placeOfLack 68 = .ok (.iload_n 1, 1) := by decide +kernel
theorem d_Hb_placeOfLack_69 : decode c_Hb_placeOfLack 69 = .ok (.ireturn, 1) := by decide +kernel
theorem d_Hb_placeOfLack_70 : decode c_Hb_placeOfLack 70 = .ok (.iinc 1 1, 3) := by decide +kernel
theorem d_Hb_placeOfLack_73 : decode c_Hb_placeOfLack 73 = .ok (.goto (-35), 3) := by decide +kernel
theorem d_Hb_placeOfLack_76 : decode c_Hb_placeOfLack 76 = .ok (.aload_n 0, 1) := by decide +kernel
theorem d_Hb_placeOfLack_77 : decode c_Hb_placeOfLack 77 = .ok (.iload_n 1, 1) := by decide +kernel
theorem d_Hb_placeOfLack_78 : decode c_Hb_placeOfLack 78 = .ok (.iconst 1, 1) := by decide +kernel
theorem d_Hb_placeOfLack_79 : decode c_Hb_placeOfLack 79 = .ok (.invokevirtual 282, 3) := by decide +kernel
theorem d_Hb_placeOfLack_82 : decode c_Hb_placeOfLack 82 = .ok (.ifCond .eq 14, 3) := by decide +kernel
theorem d_Hb_placeOfLack_85 : decode c_Hb_placeOfLack 85 = .ok (.aload_n 0, 1) := by decide +kernel
theorem d_Hb_placeOfLack_86 : decode c_Hb_placeOfLack 86 = .ok (.getfield 96, 3) := by decide +kernel
theorem d_Hb_placeOfLack_89 : decode c_Hb_placeOfLack 89 = .ok (.iload_n 1, 1) := by decide +kernel
theorem d_Hb_placeOfLack_90 : decode c_Hb_placeOfLack 90 = .ok (.iaload, 1) := by decide +kernel
theorem d_Hb_placeOfLack_91 : decode c_Hb_placeOfLack 91 = .ok (.bipush 59, 2) := by decide +kernel
theorem d_Hb_placeOfLack_93 : decode c_Hb_placeOfLack 93 = .ok (.if_icmp .eq 5, 3) := by decide +kernel
theorem d_Hb_placeOfLack_96 : decode c_Hb_placeOfLack 96 = .ok (.iload_n 1, 1) := by decide +kernel
theorem d_Hb_placeOfLack_97 : decode c_Hb_placeOfLack 97 = .ok (.ireturn, 1) := by decide +kernel
theorem d_Hb_placeOfLack_98 : decode c_Hb_placeOfLack 98 = .ok (.iinc 1 1, 3) := by decide +kernel
theorem d_Hb_placeOfLack_101 : decode c_Hb_placeOfLack 101 = .ok (.iload_n 1, 1) := by decide +kernel
theorem d_Hb_placeOfLack_102 : decode c_Hb_placeOfLack 102 = .ok (.aload_n 0, 1) := by decide +kernel
theorem d_Hb_placeOfLack_103 : decode c_Hb_placeOfLack 103 = .ok (.getfield 89, 3) := by decide +kernel
theorem d_Hb_placeOfLack_106 : decode c_Hb_placeOfLack 106 = .ok (.if_icmp .lt (-104), 3) := by decide +kernel
theorem d_Hb_placeOfLack_109 : decode c_Hb_placeOfLack 109 = .ok (.iconst (-1), 1) := by decide +kernel
theorem d_Hb_placeOfLack_110 : decode c_Hb_placeOfLack 110 = .ok (.ireturn, 1) := by decide +kernel
theorem d_Hb_digitsBehind_0 : decode c_Hb_digitsBehind 0 = .ok (.iload_n 0, 1) := by decide +kernel
theorem d_Hb_digitsBehind_1 : decode c_Hb_digitsBehind 1 = .ok (.tableswitch 86 100 114 #[84, 86, 86, 86, 75, 86, 86, 86, 80, 86, 86, 82, 86, 86, 78], 75) := by decide +kernel
theorem d_Hb_digitsBehind_76 : decode c_Hb_digitsBehind 76 = .ok (.bipush 6, 2) := by decide +kernel
theorem d_Hb_digitsBehind_78 : decode c_Hb_digitsBehind 78 = .ok (.ireturn, 1) := by decide +kernel
theorem d_Hb_digitsBehind_79 : decode c_Hb_digitsBehind 79 = .ok (.iconst 3, 1) := by decide +kernel
theorem d_Hb_digitsBehind_80 : decode c_Hb_digitsBehind 80 = .ok (.ireturn, 1) := by decide +kernel
theorem d_Hb_digitsBehind_81 : decode c_Hb_digitsBehind 81 = .ok (.iconst 3, 1) := by decide +kernel
theorem d_Hb_digitsBehind_82 : decode c_Hb_digitsBehind 82 = .ok (.ireturn, 1) := by decide +kernel
theorem d_Hb_digitsBehind_83 : decode c_Hb_digitsBehind 83 = .ok (.iconst 2, 1) := by decide +kernel
theorem d_Hb_digitsBehind_84 : decode c_Hb_digitsBehind 84 = .ok (.ireturn, 1) := by decide +kernel
theorem d_Hb_digitsBehind_85 : decode c_Hb_digitsBehind 85 = .ok (.iconst 2, 1) := by decide +kernel
theorem d_Hb_digitsBehind_86 : decode c_Hb_digitsBehind 86 = .ok (.ireturn, 1) := by decide +kernel
theorem d_Hb_digitsBehind_87 : decode c_Hb_digitsBehind 87 = .ok (.iconst 0, 1) := by decide +kernel
theorem d_Hb_digitsBehind_88 : decode c_Hb_digitsBehind 88 = .ok (.ireturn, 1) := by decide +kernel
theorem d_Hb_daysOfRide_0 : decode c_Hb_daysOfRide 0 = .ok (.aload_n 0, 1) := by decide +kernel
theorem d_Hb_daysOfRide_1 : decode c_Hb_daysOfRide 1 = .ok (.getfield 58, 3) := by decide +kernel
theorem d_Hb_daysOfRide_4 : decode c_Hb_daysOfRide 4 = .ok (.aload_n 1, 1) := by decide +kernel
theorem d_Hb_daysOfRide_5 : decode c_Hb_daysOfRide 5 = .ok (.invokevirtual 183, 3) := by decide +kernel
theorem d_Hb_daysOfRide_8 : decode c_Hb_daysOfRide 8 = .ok (.aload_n 0, 1) := by decide +kernel
theorem d_Hb_daysOfRide_9 : decode c_Hb_daysOfRide 9 = .ok (.getfield 58, 3) := by decide +kernel
theorem d_Hb_daysOfRide_12 : decode c_Hb_daysOfRide 12 = .ok (.iload_n 2, 1) := by decide +kernel
theorem d_Hb_daysOfRide_13 : decode c_Hb_daysOfRide 13 = .ok (.aload_n 0, 1) := by decide +kernel
theorem d_Hb_daysOfRide_14 : decode c_Hb_daysOfRide 14 = .ok (.getfield 42, 3) := by decide +kernel
theorem d_Hb_daysOfRide_17 : decode c_Hb_daysOfRide 17 = .ok (.getfield 131, 3) := by decide +kernel
theorem d_Hb_daysOfRide_20 : decode c_Hb_daysOfRide 20 = .ok (.invokevirtual 197, 3) := by decide +kernel
theorem d_Hb_daysOfRide_23 : decode c_Hb_daysOfRide 23 = .ok (.ireturn, 1) := by decide +kernel
theorem d_Hb_daysOfLaterRide_0 : decode c_Hb_daysOfLaterRide 0 = .ok (.aload_n 0, 1) := by decide +kernel
theorem d_Hb_daysOfLaterRide_1 : decode c_Hb_daysOfLaterRide 1 = .ok (.getfield 58, 3) := by decide +kernel
theorem d_Hb_daysOfLaterRide_4 : decode c_Hb_daysOfLaterRide 4 = .ok (.aload_n 1, 1) := by decide +kernel
theorem d_Hb_daysOfLaterRide_5 : decode c_Hb_daysOfLaterRide 5 = .ok (.invokevirtual 183, 3) := by decide +kernel
theorem d_Hb_daysOfLaterRide_8 : decode c_Hb_daysOfLaterRide 8 = .ok (.aload_n 0, 1) := by decide +kernel
theorem d_Hb_daysOfLaterRide_9 : decode c_Hb_daysOfLaterRide 9 = .ok (.getfield 58, 3) := by decide +kernel
theorem d_Hb_daysOfLaterRide_12 : decode c_Hb_daysOfLaterRide 12 = .ok (.iload_n 2, 1) := by decide +kernel
theorem d_Hb_daysOfLaterRide_13 : decode c_Hb_daysOfLaterRide 13 = .ok (.aload_n 0, 1) := by decide +kernel
theorem d_Hb_daysOfLaterRide_14 : decode c_Hb_daysOfLaterRide 14 = .ok (.getfield 42, 3) := by decide +kernel
theorem d_Hb_daysOfLaterRide_17 : decode c_Hb_daysOfLaterRide 17 = .ok (.getfield 131, 3) := by decide +kernel
theorem d_Hb_daysOfLaterRide_20 : decode c_Hb_daysOfLaterRide 20 = .ok (.invokevirtual 186, 3) := by decide +kernel
theorem d_Hb_daysOfLaterRide_23 : decode c_Hb_daysOfLaterRide 23 = .ok (.iload_n 2, 1) := by decide +kernel
theorem d_Hb_daysOfLaterRide_24 : decode c_Hb_daysOfLaterRide 24 = .ok (.aload_n 0, 1) := by decide +kernel
theorem d_Hb_daysOfLaterRide_25 : decode c_Hb_daysOfLaterRide 25 = .ok (.getfield 58, 3) := by decide +kernel
theorem d_Hb_daysOfLaterRide_28 : decode c_Hb_daysOfLaterRide 28 = .ok (.iload_n 3, 1) := by decide +kernel
theorem d_Hb_daysOfLaterRide_29 : decode c_Hb_daysOfLaterRide 29 = .ok (.aload_n 0, 1) := by decide +kernel
theorem d_Hb_daysOfLaterRide_30 : decode c_Hb_daysOfLaterRide 30 = .ok (.getfield 42, 3) := by decide +kernel
theorem d_Hb_daysOfLaterRide_33 : decode c_Hb_daysOfLaterRide 33 = .ok (.getfield 131, 3) := by decide +kernel
theorem d_Hb_daysOfLaterRide_36 : decode c_Hb_daysOfLaterRide 36 = .ok (.invokevirtual 197, 3) := by decide +kernel
theorem d_Hb_daysOfLaterRide_39 : decode c_Hb_daysOfLaterRide 39 = .ok (.iadd, 1) := by decide +kernel
theorem d_Hb_daysOfLaterRide_40 : decode c_Hb_daysOfLaterRide 40 = .ok (.ireturn, 1) := by decide +kernel
theorem d_Hb_chainWith_0 : decode c_Hb_chainWith 0 = .ok (.iload_n 1, 1) := by decide +kernel
theorem d_Hb_chainWith_1 : decode c_Hb_chainWith 1 = .ok (.iconst 3, 1) := by decide +kernel
theorem d_Hb_chainWith_2 : decode c_Hb_chainWith 2 = .ok (.if_icmp .lt 7, 3) := by decide +kernel
theorem d_Hb_chainWith_5 : decode c_Hb_chainWith 5 = .ok (.sipush 1000, 3) := by decide +kernel
theorem d_Hb_chainWith_8 : decode c_Hb_chainWith 8 = .ok (.ireturn, 1) := by decide +kernel
theorem d_Hb_chainWith_9 : decode c_Hb_chainWith 9 = .ok (.sipush 1000, 3) := by decide +kernel
theorem d_Hb_chainWith_12 : decode c_Hb_chainWith 12 = .ok (.istore 5, 2) := by decide +kernel
theorem d_Hb_chainWith_14 : decode c_Hb_chainWith 14 = .ok (.aload_n 0, 1) := by decide +kernel
theorem d_Hb_chainWith_15 : decode c_Hb_chainWith 15 = .ok (.iload_n 1, 1) := by decide +kernel
theorem d_Hb_chainWith_16 : decode c_Hb_chainWith 16 = .ok (.iconst 1, 1) := by decide +kernel
theorem d_Hb_chainWith_17 : decode c_Hb_chainWith 17 = .ok (.iadd, 1) := by decide +kernel
theorem d_Hb_chainWith_18 : decode c_Hb_chainWith 18 = .ok (.aaload, 1) := by decide +kernel
theorem d_Hb_chainWith_19 : decode c_Hb_chainWith 19 = .ok (.astore 6, 2) := by decide +kernel
theorem d_Hb_chainWith_21 : decode c_Hb_chainWith 21 = .ok (.aload_n 0, 1) := by decide +kernel
theorem d_Hb_chainWith_22 : decode c_Hb_chainWith 22 = .ok (.iload_n 1, 1) := by decide +kernel
theorem d_Hb_chainWith_23 : decode c_Hb_chainWith 23 = .ok (.aaload, 1) := by decide +kernel
theorem d_Hb_chainWith_24 : decode c_Hb_chainWith 24 = .ok (.getfield 107, 3) := by decide +kernel
theorem d_Hb_chainWith_27 : decode c_Hb_chainWith 27 = .ok (.iload_n 2, 1) := by decide +kernel
theorem d_Hb_chainWith_28 : decode c_Hb_chainWith 28 = .ok (.aaload, 1) := by decide +kernel
theorem d_Hb_chainWith_29 : decode c_Hb_chainWith 29 = .ok (.getfield 125, 3) := by decide +kernel
theorem d_Hb_chainWith_32 : decode c_Hb_chainWith 32 = .ok (.istore 7, 2) := by decide +kernel
theorem d_Hb_chainWith_34 : decode c_Hb_chainWith 34 = .ok (.iconst 0, 1) := by decide +kernel
theorem d_Hb_chainWith_35 : decode c_Hb_chainWith 35 = .ok (.istore 8, 2) := by decide +kernel
theorem d_Hb_chainWith_37 : decode c_Hb_chainWith 37 = .ok (.iload 8, 2) := by decide +kernel
theorem d_Hb_chainWith_39 : decode c_Hb_chainWith 39 = .ok (.bipush 21, 2) := by decide +kernel
theorem d_Hb_chainWith_41 : decode c_Hb_chainWith 41 = .ok (.if_icmp .ge 73, 3) := by decide +kernel
theorem d_Hb_chainWith_44 : decode c_Hb_chainWith 44 = .ok (.iload 8, 2) := by decide +kernel
theorem d_Hb_chainWith_46 : decode c_Hb_chainWith 46 = .ok (.iload 7, 2) := by decide +kernel
theorem d_Hb_chainWith_48 : decode c_Hb_chainWith 48 = .ok (.if_icmp .ne 6, 3) := by decide +kernel
theorem d_Hb_chainWith_51 : decode c_Hb_chainWith 51 = .ok (.goto 57, 3) := by decide +kernel
theorem d_Hb_chainWith_54 : decode c_Hb_chainWith 54 = .ok (.aload 6, 2) := by decide +kernel
theorem d_Hb_chainWith_56 : decode c_Hb_chainWith 56 = .ok (.aload_n 0, 1) := by decide +kernel
theorem d_Hb_chainWith_57 : decode c_Hb_chainWith 57 = .ok (.iload_n 1, 1) := by decide +kernel
theorem d_Hb_chainWith_58 : decode c_Hb_chainWith 58 = .ok (.aaload, 1) := by decide +kernel
theorem d_Hb_chainWith_59 : decode c_Hb_chainWith 59 = .ok (.invokevirtual 85, 3) := by decide +kernel
theorem d_Hb_chainWith_62 : decode c_Hb_chainWith 62 = .ok (.aload 6, 2) := by decide +kernel
theorem d_Hb_chainWith_64 : decode c_Hb_chainWith 64 = .ok (.iload_n 2, 1) := by decide +kernel
theorem d_Hb_chainWith_65 : decode c_Hb_chainWith 65 = .ok (.iload 8, 2) := by decide +kernel
theorem d_Hb_chainWith_67 : decode c_Hb_chainWith 67 = .ok (.invokevirtual 165, 3) := by decide +kernel
theorem d_Hb_chainWith_70 : decode c_Hb_chainWith 70 = .ok (.istore 9, 2) := by decide +kernel
theorem d_Hb_chainWith_72 : decode c_Hb_chainWith 72 = .ok (.iload 9, 2) := by decide +kernel
theorem d_Hb_chainWith_74 : decode c_Hb_chainWith 74 = .ok (.iload 8, 2) := by decide +kernel
theorem d_Hb_chainWith_76 : decode c_Hb_chainWith 76 = .ok (.iload_n 3, 1) := by decide +kernel
theorem d_Hb_chainWith_77 : decode c_Hb_chainWith 77 = .ok (.if_icmp .ne 7, 3) := by decide +kernel
theorem d_Hb_chainWith_80 : decode c_Hb_chainWith 80 = .ok (.iconst 0, 1) := by decide +kernel
theorem d_Hb_chainWith_81 : decode c_Hb_chainWith 81 = .ok (.goto 15, 3) := by decide +kernel
theorem d_Hb_chainWith_84 : decode c_Hb_chainWith 84 = .ok (.aload_n 0, 1) := by decide +kernel
theorem d_Hb_chainWith_85 : decode c_Hb_chainWith 85 = .ok (.iload_n 1, 1) := by decide +kernel
theorem d_Hb_chainWith_86 : decode c_Hb_chainWith 86 = .ok (.iconst 1, 1) := by decide +kernel
theorem d_Hb_chainWith_87 : decode c_Hb_chainWith 87 = .ok (.iadd, 1) := by decide +kernel
theorem d_Hb_chainWith_88 : decode c_Hb_chainWith 88 = .ok (.iload 8, 2) := by decide +kernel
theorem d_Hb_chainWith_90 : decode c_Hb_chainWith 90 = .ok (.iload_n 3, 1) := by decide +kernel
theorem d_Hb_chainWith_91 : decode c_Hb_chainWith 91 = .ok (.iload 4, 2) := by decide +kernel
theorem d_Hb_chainWith_93 : decode c_Hb_chainWith 93 = .ok (.invokestatic 302, 3) := by decide +kernel
theorem d_Hb_chainWith_96 : decode c_Hb_chainWith 96 = .ok (.iadd, 1) := by decide +kernel
theorem d_Hb_chainWith_97 : decode c_Hb_chainWith 97 = .ok (.istore 9, 2) := by decide +kernel
theorem d_Hb_chainWith_99 : decode c_Hb_chainWith 99 = .ok (.iload 5, 2) := by decide +kernel
theorem d_Hb_chainWith_101 : decode c_Hb_chainWith 101 = .ok (.iload 9, 2) := by decide +kernel
theorem d_Hb_chainWith_103 : decode c_Hb_chainWith 103 = .ok (.invokestatic 305, 3) := by decide +kernel
theorem d_Hb_chainWith_106 : decode c_Hb_chainWith 106 = .ok (.istore 5, 2) := by decide +kernel
theorem d_Hb_chainWith_108 : decode c_Hb_chainWith 108 = .ok (.iinc 8 1, 3) := by decide +kernel
theorem d_Hb_chainWith_111 : decode c_Hb_chainWith 111 = .ok (.goto (-74), 3) := by decide +kernel
theorem d_Hb_chainWith_114 : decode c_Hb_chainWith 114 = .ok (.iload 5, 2) := by decide +kernel
theorem d_Hb_chainWith_116 : decode c_Hb_chainWith 116 = .ok (.ireturn, 1) := by decide +kernel
theorem d_Hb_chainOn_0 : decode c_Hb_chainOn 0 = .ok (.sipush 1000, 3) := by decide +kernel
theorem d_Hb_chainOn_3 : decode c_Hb_chainOn 3 = .ok (.istore 5, 2) := by decide +kernel
theorem d_Hb_chainOn_5 : decode c_Hb_chainOn 5 = .ok (.aload_n 0, 1) := by decide +kernel
theorem d_Hb_chainOn_6 : decode c_Hb_chainOn 6 = .ok (.iload_n 1, 1) := by decide +kernel
theorem d_Hb_chainOn_7 : decode c_Hb_chainOn 7 = .ok (.aaload, 1) := by decide +kernel
theorem d_Hb_chainOn_8 : decode c_Hb_chainOn 8 = .ok (.astore 6, 2) := by decide +kernel
theorem d_Hb_chainOn_10 : decode c_Hb_chainOn 10 = .ok (.iconst 0, 1) := by decide +kernel
theorem d_Hb_chainOn_11 : decode c_Hb_chainOn 11 = .ok (.istore 7, 2) := by decide +kernel
theorem d_Hb_chainOn_13 : decode c_Hb_chainOn 13 = .ok (.iload 7, 2) := by decide +kernel
theorem d_Hb_chainOn_15 : decode c_Hb_chainOn 15 = .ok (.aload 6, 2) := by decide +kernel
theorem d_Hb_chainOn_17 : decode c_Hb_chainOn 17 = .ok (.getfield 149, 3) := by decide +kernel
theorem d_Hb_chainOn_20 : decode c_Hb_chainOn 20 = .ok (.if_icmp .ge 56, 3) := by decide +kernel
theorem d_Hb_chainOn_23 : decode c_Hb_chainOn 23 = .ok (.iload 4, 2) := by decide +kernel
theorem d_Hb_chainOn_25 : decode c_Hb_chainOn 25 = .ok (.iload 7, 2) := by decide +kernel
theorem d_Hb_chainOn_27 : decode c_Hb_chainOn 27 = .ok (.ishr, 1) := by decide +kernel
theorem d_Hb_chainOn_28 : decode c_Hb_chainOn 28 = .ok (.iconst 1, 1) := by decide +kernel
theorem d_Hb_chainOn_29 : decode c_Hb_chainOn 29 = .ok (.iand, 1) := by decide +kernel
theorem d_Hb_chainOn_30 : decode c_Hb_chainOn 30 = .ok (.ifCond .ne 40, 3) := by decide +kernel
theorem d_Hb_chainOn_33 : decode c_Hb_chainOn 33 = .ok (.aload 6, 2) := by decide +kernel
theorem d_Hb_chainOn_35 : decode c_Hb_chainOn 35 = .ok (.getfield 107, 3) := by decide +kernel
theorem d_Hb_chainOn_38 : decode c_Hb_chainOn 38 = .ok (.iload 7, 2) := by decide +kernel
theorem d_Hb_chainOn_40 : decode c_Hb_chainOn 40 = .ok (.aaload, 1) := by decide +kernel
theorem d_Hb_chainOn_41 : decode c_Hb_chainOn 41 = .ok (.getfield 125, 3) := by decide +kernel
theorem d_Hb_chainOn_44 : decode c_Hb_chainOn 44 = .ok (.iload_n 2, 1) := by decide +kernel
theorem d_Hb_chainOn_45 : decode c_Hb_chainOn 45 = .ok (.if_icmp .ne 25, 3) := by decide +kernel
theorem d_Hb_chainOn_48 : decode c_Hb_chainOn 48 = .ok (.iload 5, 2) := by decide +kernel
theorem d_Hb_chainOn_50 : decode c_Hb_chainOn 50 = .ok (.aload_n 0, 1) := by decide +kernel
theorem d_Hb_chainOn_51 : decode c_Hb_chainOn 51 = .ok (.iload_n 1, 1) := by decide +kernel
theorem d_Hb_chainOn_52 : decode c_Hb_chainOn 52 = .ok (.iload 7, 2) := by decide +kernel
theorem d_Hb_chainOn_54 : decode c_Hb_chainOn 54 = .ok (.iload_n 3, 1) := by decide +kernel
theorem d_Hb_chainOn_55 : decode c_Hb_chainOn 55 = .ok (.iload 4, 2) := by decide +kernel
theorem d_Hb_chainOn_57 : decode c_Hb_chainOn 57 = .ok (.iconst 1, 1) := by decide +kernel
theorem d_Hb_chainOn_58 : decode c_Hb_chainOn 58 = .ok (.iload 7, 2) := by decide +kernel
theorem d_Hb_chainOn_60 : decode c_Hb_chainOn 60 = .ok (.ishl, 1) := by decide +kernel
theorem d_Hb_chainOn_61 : decode c_Hb_chainOn 61 = .ok (.ior, 1) := by decide +kernel
theorem d_Hb_chainOn_62 : decode c_Hb_chainOn 62 = .ok (.invokestatic 190, 3) := by decide +kernel
theorem d_Hb_chainOn_65 : decode c_Hb_chainOn 65 = .ok (.invokestatic 305, 3) := by decide +kernel
theorem d_Hb_chainOn_68 : decode c_Hb_chainOn 68 = .ok (.istore 5, 2) := by decide +kernel
theorem d_Hb_chainOn_70 : decode c_Hb_chainOn 70 = .ok (.iinc 7 1, 3) := by decide +kernel
theorem d_Hb_chainOn_73 : decode c_Hb_chainOn 73 = .ok (.goto (-60), 3) := by decide +kernel
theorem d_Hb_chainOn_76 : decode c_Hb_chainOn 76 = .ok (.iload 5, 2) := by decide +kernel
theorem d_Hb_chainOn_78 : decode c_Hb_chainOn 78 = .ok (.ireturn, 1) := by decide +kernel
theorem d_Hb_feesOf_0 : decode c_Hb_feesOf 0 = .ok (.aload_n 1, 1) := by decide +kernel
theorem d_Hb_feesOf_1 : decode c_Hb_feesOf 1 = .ok (.getfield 111, 3) := by decide +kernel
theorem d_Hb_feesOf_4 : decode c_Hb_feesOf 4 = .ok (.aload_n 1, 1) := by decide +kernel
theorem d_Hb_feesOf_5 : decode c_Hb_feesOf 5 = .ok (.getfield 119, 3) := by decide +kernel
theorem d_Hb_feesOf_8 : decode c_Hb_feesOf 8 = .ok (.invokevirtual 291, 3) := by decide +kernel
theorem d_Hb_feesOf_11 : decode c_Hb_feesOf 11 = .ok (.aload_n 0, 1) := by decide +kernel
theorem d_Hb_feesOf_12 : decode c_Hb_feesOf 12 = .ok (.aload_n 1, 1) := by decide +kernel
theorem d_Hb_feesOf_13 : decode c_Hb_feesOf 13 = .ok (.iload_n 2, 1) := by decide +kernel
theorem d_Hb_feesOf_14 : decode c_Hb_feesOf 14 = .ok (.invokevirtual 158, 3) := by decide +kernel
theorem d_Hb_feesOf_17 : decode c_Hb_feesOf 17 = .ok (.imul, 1) := by decide +kernel
theorem d_Hb_feesOf_18 : decode c_Hb_feesOf 18 = .ok (.ireturn, 1) := by decide +kernel
theorem d_Hb_isTold_0 : decode c_Hb_isTold 0 = .ok (.iconst 0, 1) := by decide +kernel
theorem d_Hb_isTold_1 : decode c_Hb_isTold 1 = .ok (.istore 4, 2) := by decide +kernel
theorem d_Hb_isTold_3 : decode c_Hb_isTold 3 = .ok (.iload 4, 2) := by decide +kernel
theorem d_Hb_isTold_5 : decode c_Hb_isTold 5 = .ok (.aload_n 2, 1) := by decide +kernel
theorem d_Hb_isTold_6 : decode c_Hb_isTold 6 = .ok (.getfield 89, 3) := by decide +kernel
theorem d_Hb_isTold_9 : decode c_Hb_isTold 9 = .ok (.if_icmp .ge 55, 3) := by decide +kernel
theorem d_Hb_isTold_12 : decode c_Hb_isTold 12 = .ok (.aload_n 2, 1) := by decide +kernel
theorem d_Hb_isTold_13 : decode c_Hb_isTold 13 = .ok (.iload 4, 2) := by decide +kernel
theorem d_Hb_isTold_15 : decode c_Hb_isTold 15 = .ok (.aload_n 1, 1) := by decide +kernel
theorem d_Hb_isTold_16 : decode c_Hb_isTold 16 = .ok (.getfield 125, 3) := by decide +kernel
theorem d_Hb_isTold_19 : decode c_Hb_isTold 19 = .ok (.invokevirtual 239, 3) := by decide +kernel
theorem d_Hb_isTold_22 : decode c_Hb_isTold 22 = .ok (.ifCond .ne 5, 3) := by decide +kernel
theorem d_Hb_isTold_25 : decode c_Hb_isTold 25 = .ok (.iconst 0, 1) := by decide +kernel
theorem d_Hb_isTold_26 : decode c_Hb_isTold 26 = .ok (.ireturn, 1) := by decide +kernel
theorem d_Hb_isTold_27 : decode c_Hb_isTold 27 = .ok (.aload_n 1, 1) := by decide +kernel
theorem d_Hb_isTold_28 : decode c_Hb_isTold 28 = .ok (.getfield 125, 3) := by decide +kernel
theorem d_Hb_isTold_31 : decode c_Hb_isTold 31 = .ok (.iload_n 3, 1) := by decide +kernel
theorem d_Hb_isTold_32 : decode c_Hb_isTold 32 = .ok (.if_icmp .eq 26, 3) := by decide +kernel
theorem d_Hb_isTold_35 : decode c_Hb_isTold 35 = .ok (.aload_n 1, 1) := by decide +kernel
theorem d_Hb_isTold_36 : decode c_Hb_isTold 36 = .ok (.iload_n 3, 1) := by decide +kernel
theorem d_Hb_isTold_37 : decode c_Hb_isTold 37 = .ok (.aload_n 0, 1) := by decide +kernel
theorem d_Hb_isTold_38 : decode c_Hb_isTold 38 = .ok (.getfield 42, 3) := by decide +kernel
theorem d_Hb_isTold_41 : decode c_Hb_isTold 41 = .ok (.getfield 131, 3) := by decide +kernel
theorem d_Hb_isTold_44 : decode c_Hb_isTold 44 = .ok (.invokevirtual 308, 3) := by decide +kernel
theorem d_Hb_isTold_47 : decode c_Hb_isTold 47 = .ok (.aload_n 1, 1) := by decide +kernel
theorem d_Hb_isTold_48 : decode c_Hb_isTold 48 = .ok (.aload_n 0, 1) := by decide +kernel
theorem d_Hb_isTold_49 : decode c_Hb_isTold 49 = .ok (.getfield 42, 3) := by decide +kernel
theorem d_Hb_isTold_52 : decode c_Hb_isTold 52 = .ok (.getfield 131, 3) := by decide +kernel
theorem d_Hb_isTold_55 : decode c_Hb_isTold 55 = .ok (.invokevirtual 311, 3) := by decide +kernel
theorem d_Hb_isTold_58 : decode c_Hb_isTold 58 = .ok (.iinc 4 1, 3) := by decide +kernel
theorem d_Hb_isTold_61 : decode c_Hb_isTold 61 = .ok (.goto (-58), 3) := by decide +kernel
theorem d_Hb_isTold_64 : decode c_Hb_isTold 64 = .ok (.iconst 1, 1) := by decide +kernel
theorem d_Hb_isTold_65 : decode c_Hb_isTold 65 = .ok (.ireturn, 1) := by decide +kernel
theorem d_Hb_kindsTold_0 : decode c_Hb_kindsTold 0 = .ok (.iconst 0, 1) := by decide +kernel
theorem d_Hb_kindsTold_1 : decode c_Hb_kindsTold 1 = .ok (.istore 4, 2) := by decide +kernel
theorem d_Hb_kindsTold_3 : decode c_Hb_kindsTold 3 = .ok (.iconst 0, 1) := by decide +kernel
theorem d_Hb_kindsTold_4 : decode c_Hb_kindsTold 4 = .ok (.istore 5, 2) := by decide +kernel
theorem d_Hb_kindsTold_6 : decode c_Hb_kindsTold 6 = .ok (.iload 5, 2) := by decide +kernel
theorem d_Hb_kindsTold_8 : decode c_Hb_kindsTold 8 = .ok (.bipush 8, 2) := by decide +kernel
theorem d_Hb_kindsTold_10 : decode c_Hb_kindsTold 10 = .ok (.if_icmp .ge 61, 3) := by decide +kernel
theorem d_Hb_kindsTold_13 : decode c_Hb_kindsTold 13 = .ok (.aload_n 0, 1) := by decide +kernel
theorem d_Hb_kindsTold_14 : decode c_Hb_kindsTold 14 = .ok (.getfield 58, 3) := by decide +kernel
theorem d_Hb_kindsTold_17 : decode c_Hb_kindsTold 17 = .ok (.aload_n 0, 1) := by decide +kernel
theorem d_Hb_kindsTold_18 : decode c_Hb_kindsTold 18 = .ok (.getfield 42, 3) := by decide +kernel
theorem d_Hb_kindsTold_21 : decode c_Hb_kindsTold 21 = .ok (.getfield 107, 3) := by decide +kernel
theorem d_Hb_kindsTold_24 : decode c_Hb_kindsTold 24 = .ok (.iload_n 2, 1) := by decide +kernel
theorem d_Hb_kindsTold_25 : decode c_Hb_kindsTold 25 = .ok (.aaload, 1) := by decide +kernel
theorem d_Hb_kindsTold_26 : decode c_Hb_kindsTold 26 = .ok (.invokevirtual 183, 3) := by decide +kernel
theorem d_Hb_kindsTold_29 : decode c_Hb_kindsTold 29 = .ok (.aload_n 0, 1) := by decide +kernel
theorem d_Hb_kindsTold_30 : decode c_Hb_kindsTold 30 = .ok (.getfield 58, 3) := by decide +kernel
theorem d_Hb_kindsTold_33 : decode c_Hb_kindsTold 33 = .ok (.aload_n 0, 1) := by decide +kernel
theorem d_Hb_kindsTold_34 : decode c_Hb_kindsTold 34 = .ok (.getfield 31, 3) := by decide +kernel
theorem d_Hb_kindsTold_37 : decode c_Hb_kindsTold 37 = .ok (.iload 5, 2) := by decide +kernel
theorem d_Hb_kindsTold_39 : decode c_Hb_kindsTold 39 = .ok (.aaload, 1) := by decide +kernel
theorem d_Hb_kindsTold_40 : decode c_Hb_kindsTold 40 = .ok (.putfield 111, 3) := by decide +kernel
theorem d_Hb_kindsTold_43 : decode c_Hb_kindsTold 43 = .ok (.aload_n 0, 1) := by decide +kernel
theorem d_Hb_kindsTold_44 : decode c_Hb_kindsTold 44 = .ok (.aload_n 0, 1) := by decide +kernel
theorem d_Hb_kindsTold_45 : decode c_Hb_kindsTold 45 = .ok (.getfield 58, 3) := by decide +kernel
theorem d_Hb_kindsTold_48 : decode c_Hb_kindsTold 48 = .ok (.aload_n 1, 1) := by decide +kernel
theorem d_Hb_kindsTold_49 : decode c_Hb_kindsTold 49 = .ok (.iload_n 3, 1) := by decide +kernel
theorem d_Hb_kindsTold_50 : decode c_Hb_kindsTold 50 = .ok (.invokevirtual 210, 3) := by decide +kernel
theorem d_Hb_kindsTold_53 : decode c_Hb_kindsTold 53 = .ok (.ifCond .eq 12, 3) := by decide +kernel
theorem d_Hb_kindsTold_56 : decode c_Hb_kindsTold 56 = .ok (.iload 4, 2) := by decide +kernel
theorem d_Hb_kindsTold_58 : decode c_Hb_kindsTold 58 = .ok (.iconst 1, 1) := by decide +kernel
theorem d_Hb_kindsTold_59 : decode c_Hb_kindsTold 59 = .ok (.iload 5, 2) := by decide +kernel
theorem d_Hb_kindsTold_61 : decode c_Hb_kindsTold 61 = .ok (.ishl, 1) := by decide +kernel
theorem d_Hb_kindsTold_62 : decode c_Hb_kindsTold 62 = .ok (.ior, 1) := by decide +kernel
theorem d_Hb_kindsTold_63 : decode c_Hb_kindsTold 63 = .ok (.istore 4, 2) := by decide +kernel
theorem d_Hb_kindsTold_65 : decode c_Hb_kindsTold 65 = .ok (.iinc 5 1, 3) := by decide +kernel
theorem d_Hb_kindsTold_68 : decode c_Hb_kindsTold 68 = .ok (.goto (-62), 3) := by decide +kernel
theorem d_Hb_kindsTold_71 : decode c_Hb_kindsTold 71 = .ok (.iload 4, 2) := by decide +kernel
theorem d_Hb_kindsTold_73 : decode c_Hb_kindsTold 73 = .ok (.ireturn, 1) := by decide +kernel
theorem d_Hb_figuresTold_0 : decode c_Hb_figuresTold 0 = .ok (.iconst 0, 1) := by decide +kernel
theorem d_Hb_figuresTold_1 : decode c_Hb_figuresTold 1 = .ok (.istore 4, 2) := by decide +kernel
theorem d_Hb_figuresTold_3 : decode c_Hb_figuresTold 3 = .ok (.iconst 0, 1) := by decide +kernel
theorem d_Hb_figuresTold_4 : decode c_Hb_figuresTold 4 = .ok (.istore 5, 2) := by decide +kernel
theorem d_Hb_figuresTold_6 : decode c_Hb_figuresTold 6 = .ok (.iload 5, 2) := by decide +kernel
theorem d_Hb_figuresTold_8 : decode c_Hb_figuresTold 8 = .ok (.bipush 10, 2) := by decide +kernel
theorem d_Hb_figuresTold_10 : decode c_Hb_figuresTold 10 = .ok (.if_icmp .ge 56, 3) := by decide +kernel
theorem d_Hb_figuresTold_13 : decode c_Hb_figuresTold 13 = .ok (.aload_n 0, 1) := by decide +kernel
theorem d_Hb_figuresTold_14 : decode c_Hb_figuresTold 14 = .ok (.getfield 58, 3) := by decide +kernel
theorem d_Hb_figuresTold_17 : decode c_Hb_figuresTold 17 = .ok (.aload_n 0, 1) := by decide +kernel
theorem d_Hb_figuresTold_18 : decode c_Hb_figuresTold 18 = .ok (.getfield 42, 3) := by decide +kernel
theorem d_Hb_figuresTold_21 : decode c_Hb_figuresTold 21 = .ok (.getfield 107, 3) := by decide +kernel
theorem d_Hb_figuresTold_24 : decode c_Hb_figuresTold 24 = .ok (.iload_n 2, 1) := by decide +kernel
theorem d_Hb_figuresTold_25 : decode c_Hb_figuresTold 25 = .ok (.aaload, 1) := by decide +kernel
theorem d_Hb_figuresTold_26 : decode c_Hb_figuresTold 26 = .ok (.invokevirtual 183, 3) := by decide +kernel
theorem d_Hb_figuresTold_29 : decode c_Hb_figuresTold 29 = .ok (.aload_n 0, 1) := by decide +kernel
theorem d_Hb_figuresTold_30 : decode c_Hb_figuresTold 30 = .ok (.getfield 58, 3) := by decide +kernel
theorem d_Hb_figuresTold_33 : decode c_Hb_figuresTold 33 = .ok (.iload 5, 2) := by decide +kernel
theorem d_Hb_figuresTold_35 : decode c_Hb_figuresTold 35 = .ok (.putfield 119, 3) := by decide +kernel
theorem d_Hb_figuresTold_38 : decode c_Hb_figuresTold 38 = .ok (.aload_n 0, 1) := by decide +kernel
theorem d_Hb_figuresTold_39 : decode c_Hb_figuresTold 39 = .ok (.aload_n 0, 1) := by decide +kernel
theorem d_Hb_figuresTold_40 : decode c_Hb_figuresTold 40 = .ok (.getfield 58, 3) := by decide +kernel
theorem d_Hb_figuresTold_43 : decode c_Hb_figuresTold 43 = .ok (.aload_n 1, 1) := by decide +kernel
theorem d_Hb_figuresTold_44 : decode c_Hb_figuresTold 44 = .ok (.iload_n 3, 1) := by decide +kernel
theorem d_Hb_figuresTold_45 : decode c_Hb_figuresTold 45 = .ok (.invokevirtual 210, 3) := by decide +kernel
theorem d_Hb_figuresTold_48 : decode c_Hb_figuresTold 48 = .ok (.ifCond .eq 12, 3) := by decide +kernel
theorem d_Hb_figuresTold_51 : decode c_Hb_figuresTold 51 = .ok (.iload 4, 2) := by decide +kernel
theorem d_Hb_figuresTold_53 : decode c_Hb_figuresTold 53 = .ok (.iconst 1, 1) := by decide +kernel
theorem d_Hb_figuresTold_54 : decode c_Hb_figuresTold 54 = .ok (.iload 5, 2) := by decide +kernel
theorem d_Hb_figuresTold_56 : decode c_Hb_figuresTold 56 = .ok (.ishl, 1) := by decide +kernel
theorem d_Hb_figuresTold_57 : decode c_Hb_figuresTold 57 = .ok (.ior, 1) := by decide +kernel
theorem d_Hb_figuresTold_58 : decode c_Hb_figuresTold 58 = .ok (.istore 4, 2) := by decide +kernel
theorem d_Hb_figuresTold_60 : decode c_Hb_figuresTold 60 = .ok (.iinc 5 1, 3) := by decide +kernel
theorem d_Hb_figuresTold_63 : decode c_Hb_figuresTold 63 = .ok (.goto (-57), 3) := by decide +kernel
theorem d_Hb_figuresTold_66 : decode c_Hb_figuresTold 66 = .ok (.iload 4, 2) := by decide +kernel
theorem d_Hb_figuresTold_68 : decode c_Hb_figuresTold 68 = .ok (.ireturn, 1) := by decide +kernel
theorem d_Hb_isBest_0 : decode c_Hb_isBest 0 = .ok (.iconst 1, 1) := by decide +kernel
theorem d_Hb_isBest_1 : decode c_Hb_isBest 1 = .ok (.iload_n 2, 1) := by decide +kernel
theorem d_Hb_isBest_2 : decode c_Hb_isBest 2 = .ok (.isub, 1) := by decide +kernel
theorem d_Hb_isBest_3 : decode c_Hb_isBest 3 = .ok (.istore 6, 2) := by decide +kernel
theorem d_Hb_isBest_5 : decode c_Hb_isBest 5 = .ok (.aload_n 0, 1) := by decide +kernel
theorem d_Hb_isBest_6 : decode c_Hb_isBest 6 = .ok (.aload_n 0, 1) := by decide +kernel
theorem d_Hb_isBest_7 : decode c_Hb_isBest 7 = .ok (.getfield 42, 3) := by decide +kernel
theorem d_Hb_isBest_10 : decode c_Hb_isBest 10 = .ok (.getfield 107, 3) := by decide +kernel
theorem d_Hb_isBest_13 : decode c_Hb_isBest 13 = .ok (.iload_n 3, 1) := by decide +kernel
theorem d_Hb_isBest_14 : decode c_Hb_isBest 14 = .ok (.aaload, 1) := by decide +kernel
theorem d_Hb_isBest_15 : decode c_Hb_isBest 15 = .ok (.iload 4, 2) := by decide +kernel
theorem d_Hb_isBest_17 : decode c_Hb_isBest 17 = .ok (.iconst 5, 1) := by decide +kernel
theorem d_Hb_isBest_18 : decode c_Hb_isBest 18 = .ok (.imul, 1) := by decide +kernel
theorem d_Hb_isBest_19 : decode c_Hb_isBest 19 = .ok (.iload 5, 2) := by decide +kernel
theorem d_Hb_isBest_21 : decode c_Hb_isBest 21 = .ok (.invokevirtual 198, 3) := by decide +kernel
theorem d_Hb_isBest_24 : decode c_Hb_isBest 24 = .ok (.istore 7, 2) := by decide +kernel
theorem d_Hb_isBest_26 : decode c_Hb_isBest 26 = .ok (.aload_n 0, 1) := by decide +kernel
theorem d_Hb_isBest_27 : decode c_Hb_isBest 27 = .ok (.aload_n 0, 1) := by decide +kernel
theorem d_Hb_isBest_28 : decode c_Hb_isBest 28 = .ok (.getfield 42, 3) := by decide +kernel
theorem d_Hb_isBest_31 : decode c_Hb_isBest 31 = .ok (.getfield 107, 3) := by decide +kernel
theorem d_Hb_isBest_34 : decode c_Hb_isBest 34 = .ok (.iload_n 1, 1) := by decide +kernel
theorem d_Hb_isBest_35 : decode c_Hb_isBest 35 = .ok (.aaload, 1) := by decide +kernel
theorem d_Hb_isBest_36 : decode c_Hb_isBest 36 = .ok (.iload_n 2, 1) := by decide +kernel
theorem d_Hb_isBest_37 : decode c_Hb_isBest 37 = .ok (.iconst 5, 1) := by decide +kernel
theorem d_Hb_isBest_38 : decode c_Hb_isBest 38 = .ok (.imul, 1) := by decide +kernel
theorem d_Hb_isBest_39 : decode c_Hb_isBest 39 = .ok (.iload 5, 2) := by decide +kernel
theorem d_Hb_isBest_41 : decode c_Hb_isBest 41 = .ok (.invokevirtual 198, 3) := by decide +kernel
theorem d_Hb_isBest_44 : decode c_Hb_isBest 44 = .ok (.istore 8, 2) := by decide +kernel
theorem d_Hb_isBest_46 : decode c_Hb_isBest 46 = .ok (.aload_n 0, 1) := by decide +kernel
theorem d_Hb_isBest_47 : decode c_Hb_isBest 47 = .ok (.aload_n 0, 1) := by decide +kernel
theorem d_Hb_isBest_48 : decode c_Hb_isBest 48 = .ok (.getfield 42, 3) := by decide +kernel
theorem d_Hb_isBest_51 : decode c_Hb_isBest 51 = .ok (.getfield 107, 3) := by decide +kernel
theorem d_Hb_isBest_54 : decode c_Hb_isBest 54 = .ok (.iload_n 1, 1) := by decide +kernel
theorem d_Hb_isBest_55 : decode c_Hb_isBest 55 = .ok (.aaload, 1) := by decide +kernel
theorem d_Hb_isBest_56 : decode c_Hb_isBest 56 = .ok (.iload 6, 2) := by decide +kernel
theorem d_Hb_isBest_58 : decode c_Hb_isBest 58 = .ok (.iconst 5, 1) := by decide +kernel
theorem d_Hb_isBest_59 : decode c_Hb_isBest 59 = .ok (.imul, 1) := by decide +kernel
theorem d_Hb_isBest_60 : decode c_Hb_isBest 60 = .ok (.iload 5, 2) := by decide +kernel
theorem d_Hb_isBest_62 : decode c_Hb_isBest 62 = .ok (.invokevirtual 198, 3) := by decide +kernel
theorem d_Hb_isBest_65 : decode c_Hb_isBest 65 = .ok (.istore 9, 2) := by decide +kernel
theorem d_Hb_isBest_67 : decode c_Hb_isBest 67 = .ok (.iload 8, 2) := by decide +kernel
theorem d_Hb_isBest_69 : decode c_Hb_isBest 69 = .ok (.iload 7, 2) := by decide +kernel
theorem d_Hb_isBest_71 : decode c_Hb_isBest 71 = .ok (.iload_n 2, 1) := by decide +kernel
theorem d_Hb_isBest_72 : decode c_Hb_isBest 72 = .ok (.invokestatic 314, 3) := by decide +kernel
theorem d_Hb_isBest_75 : decode c_Hb_isBest 75 = .ok (.iload 9, 2) := by decide +kernel
theorem d_Hb_isBest_77 : decode c_Hb_isBest 77 = .ok (.iload 7, 2) := by decide +kernel
theorem d_Hb_isBest_79 : decode c_Hb_isBest 79 = .ok (.iload 6, 2) := by decide +kernel
theorem d_Hb_isBest_81 : decode c_Hb_isBest 81 = .ok (.invokestatic 314, 3) := by decide +kernel
theorem d_Hb_isBest_84 : decode c_Hb_isBest 84 = .ok (.if_icmp .lt 7, 3) := by decide +kernel
theorem d_Hb_isBest_87 : decode c_Hb_isBest 87 = .ok (.iconst 1, 1) := by decide +kernel
theorem d_Hb_isBest_88 : decode c_Hb_isBest 88 = .ok (.goto 4, 3) := by decide +kernel
theorem d_Hb_isBest_91 : decode c_Hb_isBest 91 = .ok (.iconst 0, 1) := by decide +kernel
theorem d_Hb_isBest_92 : decode c_Hb_isBest 92 = .ok (.ireturn, 1) := by decide +kernel
theorem d_Hb_gain_0 : decode c_Hb_gain 0 = .ok (.iload_n 0, 1) := by decide +kernel
theorem d_Hb_gain_1 : decode c_Hb_gain 1 = .ok (.iload_n 1, 1) := by decide +kernel
theorem d_Hb_gain_2 : decode c_Hb_gain 2 = .ok (.if_icmp .ge 7, 3) := by decide +kernel
theorem d_Hb_gain_5 : decode c_Hb_gain 5 = .ok (.iconst 3, 1) := by decide +kernel
theorem d_Hb_gain_6 : decode c_Hb_gain 6 = .ok (.goto 4, 3) := by decide +kernel
theorem d_Hb_gain_9 : decode c_Hb_gain 9 = .ok (.iconst 0, 1) := by decide +kernel
theorem d_Hb_gain_10 : decode c_Hb_gain 10 = .ok (.iload_n 2, 1) := by decide +kernel
theorem d_Hb_gain_11 : decode c_Hb_gain 11 = .ok (.iadd, 1) := by decide +kernel
theorem d_Hb_gain_12 : decode c_Hb_gain 12 = .ok (.ireturn, 1) := by decide +kernel
theorem d_Hb_partOf_0 : decode c_Hb_partOf 0 = .ok (.lload_n 2, 1) := by decide +kernel
theorem d_Hb_partOf_1 : decode c_Hb_partOf 1 = .ok (.lstore 5, 2) := by decide +kernel
theorem d_Hb_partOf_3 : decode c_Hb_partOf 3 = .ok (.lload_n 0, 1) := by decide +kernel
theorem d_Hb_partOf_4 : decode c_Hb_partOf 4 = .ok (.lstore 7, 2) := by decide +kernel
theorem d_Hb_partOf_6 : decode c_Hb_partOf 6 = .ok (.iconst 0, 1) := by decide +kernel
theorem d_Hb_partOf_7 : decode c_Hb_partOf 7 = .ok (.istore 9, 2) := by decide +kernel
theorem d_Hb_partOf_9 : decode c_Hb_partOf 9 = .ok (.iload 9, 2) := by decide +kernel
theorem d_Hb_partOf_11 : decode c_Hb_partOf 11 = .ok (.sipush 130, 3) := by decide +kernel
theorem d_Hb_partOf_14 : decode c_Hb_partOf 14 = .ok (.if_icmp .ge 31, 3) := by decide +kernel
theorem d_Hb_partOf_17 : decode c_Hb_partOf 17 = .ok (.lload 7, 2) := by decide +kernel
theorem d_Hb_partOf_19 : decode c_Hb_partOf 19 = .ok (.lconst 0, 1) := by decide +kernel
theorem d_Hb_partOf_20 : decode c_Hb_partOf 20 = .ok (.lcmp, 1) := by decide +kernel
theorem d_Hb_partOf_21 : decode c_Hb_partOf 21 = .ok (.ifCond .eq 24, 3) := by decide +kernel
theorem d_Hb_partOf_24 : decode c_Hb_partOf 24 = .ok (.lload 5, 2) := by decide +kernel
theorem d_Hb_partOf_26 : decode c_Hb_partOf 26 = .ok (.lload 7, 2) := by decide +kernel
theorem d_Hb_partOf_28 : decode c_Hb_partOf 28 = .ok (.lrem, 1) := by decide +kernel
theorem d_Hb_partOf_29 : decode c_Hb_partOf 29 = .ok (.lstore 10, 2) := by decide +kernel
theorem d_Hb_partOf_31 : decode c_Hb_partOf 31 = .ok (.lload 7, 2) := by decide +kernel
theorem d_Hb_partOf_33 : decode c_Hb_partOf 33 = .ok (.lstore 5, 2) := by decide +kernel
theorem d_Hb_partOf_35 : decode c_Hb_partOf 35 = .ok (.lload 10, 2) := by decide +kernel
theorem d_Hb_partOf_37 : decode c_Hb_partOf 37 = .ok (.lstore 7, 2) := by decide +kernel
theorem d_Hb_partOf_39 : decode c_Hb_partOf 39 = .ok (.iinc 9 1, 3) := by decide +kernel
theorem d_Hb_partOf_42 : decode c_Hb_partOf 42 = .ok (.goto (-33), 3) := by decide +kernel
theorem d_Hb_partOf_45 : decode c_Hb_partOf 45 = .ok (.lload 5, 2) := by decide +kernel
theorem d_Hb_partOf_47 : decode c_Hb_partOf 47 = .ok (.lconst 0, 1) := by decide +kernel
theorem d_Hb_partOf_48 : decode c_Hb_partOf 48 = .ok (.lcmp, 1) := by decide +kernel
theorem d_Hb_partOf_49 : decode c_Hb_partOf 49 = .ok (.ifCond .ne 5, 3) := by decide +kernel
theorem d_Hb_partOf_52 : decode c_Hb_partOf 52 = .ok (.lconst 0, 1) := by decide +kernel
theorem d_Hb_partOf_53 : decode c_Hb_partOf 53 = .ok (.lreturn, 1) := by decide +kernel
theorem d_Hb_partOf_54 : decode c_Hb_partOf 54 = .ok (.iload 4, 2) := by decide +kernel
theorem d_Hb_partOf_56 : decode c_Hb_partOf 56 = .ok (.ifCond .ne 10, 3) := by decide +kernel
theorem d_Hb_partOf_59 : decode c_Hb_partOf 59 = .ok (.lload_n 0, 1) := by decide +kernel
theorem d_Hb_partOf_60 : decode c_Hb_partOf 60 = .ok (.lload 5, 2) := by decide +kernel
theorem d_Hb_partOf_62 : decode c_Hb_partOf 62 = .ok (.ldiv, 1) := by decide +kernel
theorem d_Hb_partOf_63 : decode c_Hb_partOf 63 = .ok (.goto 7, 3) := by decide +kernel
theorem d_Hb_partOf_66 : decode c_Hb_partOf 66 = .ok (.lload_n 2, 1) := by decide +kernel
theorem d_Hb_partOf_67 : decode c_Hb_partOf 67 = .ok (.lload 5, 2) := by decide +kernel
theorem d_Hb_partOf_69 : decode c_Hb_partOf 69 = .ok (.ldiv, 1) := by decide +kernel
theorem d_Hb_partOf_70 : decode c_Hb_partOf 70 = .ok (.lreturn, 1) := by decide +kernel
theorem d_In_compare_0 : decode c_In_compare 0 = .ok (.iload_n 0, 1) := by decide +kernel
theorem d_In_compare_1 : decode c_In_compare 1 = .ok (.iload_n 1, 1) := by decide +kernel
theorem d_In_compare_2 : decode c_In_compare 2 = .ok (.if_icmp .ge 7, 3) := by decide +kernel
theorem d_In_compare_5 : decode c_In_compare 5 = .ok (.iconst (-1), 1) := by decide +kernel
theorem d_In_compare_6 : decode c_In_compare 6 = .ok (.goto 13, 3) := by decide +kernel
theorem d_In_compare_9 : decode c_In_compare 9 = .ok (.iload_n 0, 1) := by decide +kernel
theorem d_In_compare_10 : decode c_In_compare 10 = .ok (.iload_n 1, 1) := by decide +kernel
theorem d_In_compare_11 : decode c_In_compare 11 = .ok (.if_icmp .ne 7, 3) := by decide +kernel
theorem d_In_compare_14 : decode c_In_compare 14 = .ok (.iconst 0, 1) := by decide +kernel
theorem d_In_compare_15 : decode c_In_compare 15 = .ok (.goto 4, 3) := by decide +kernel
theorem d_In_compare_18 : decode c_In_compare 18 = .ok (.iconst 1, 1) := by decide +kernel
theorem d_In_compare_19 : decode c_In_compare 19 = .ok (.ireturn, 1) := by decide +kernel
theorem d_In_bitCount_0 : decode c_In_bitCount 0 = .ok (.iload_n 0, 1) := by decide +kernel
theorem d_In_bitCount_1 : decode c_In_bitCount 1 = .ok (.iload_n 0, 1) := by decide +kernel
theorem d_In_bitCount_2 : decode c_In_bitCount 2 = .ok (.iconst 1, 1) := by decide +kernel
theorem d_In_bitCount_3 : decode c_In_bitCount 3 = .ok (.iushr, 1) := by decide +kernel
theorem d_In_bitCount_4 : decode c_In_bitCount 4 = .ok (.ldc_w 265, 3) := by decide +kernel
theorem d_In_bitCount_7 : decode c_In_bitCount 7 = .ok (.iand, 1) := by decide +kernel
theorem d_In_bitCount_8 : decode c_In_bitCount 8 = .ok (.isub, 1) := by decide +kernel
theorem d_In_bitCount_9 : decode c_In_bitCount 9 = .ok (.istore_n 0, 1) := by decide +kernel
theorem d_In_bitCount_10 : decode c_In_bitCount 10 = .ok (.iload_n 0, 1) := by decide +kernel
theorem d_In_bitCount_11 : decode c_In_bitCount 11 = .ok (.ldc_w 266, 3) := by decide +kernel
theorem d_In_bitCount_14 : decode c_In_bitCount 14 = .ok (.iand, 1) := by decide +kernel
theorem d_In_bitCount_15 : decode c_In_bitCount 15 = .ok (.iload_n 0, 1) := by decide +kernel
theorem d_In_bitCount_16 : decode c_In_bitCount 16 = .ok (.iconst 2, 1) := by decide +kernel
theorem d_In_bitCount_17 : decode c_In_bitCount 17 = .ok (.iushr, 1) := by decide +kernel
theorem d_In_bitCount_18 : decode c_In_bitCount 18 = .ok (.ldc_w 266, 3) := by decide +kernel
theorem d_In_bitCount_21 : decode c_In_bitCount 21 = .ok (.iand, 1) := by decide +kernel
theorem d_In_bitCount_22 : decode c_In_bitCount 22 = .ok (.iadd, 1) := by decide +kernel
theorem d_In_bitCount_23 : decode c_In_bitCount 23 = .ok (.istore_n 0, 1) := by decide +kernel
theorem d_In_bitCount_24 : decode c_In_bitCount 24 = .ok (.iload_n 0, 1) := by decide +kernel
theorem d_In_bitCount_25 : decode c_In_bitCount 25 = .ok (.iload_n 0, 1) := by decide +kernel
theorem d_In_bitCount_26 : decode c_In_bitCount 26 = .ok (.iconst 4, 1) := by decide +kernel
theorem d_In_bitCount_27 : decode c_In_bitCount 27 = .ok (.iushr, 1) := by decide +kernel
theorem d_In_bitCount_28 : decode c_In_bitCount 28 = .ok (.iadd, 1) := by decide +kernel
theorem d_In_bitCount_29 : decode c_In_bitCount 29 = .ok (.ldc_w 267, 3) := by decide +kernel
theorem d_In_bitCount_32 : decode c_In_bitCount 32 = .ok (.iand, 1) := by decide +kernel
theorem d_In_bitCount_33 : decode c_In_bitCount 33 = .ok (.istore_n 0, 1) := by decide +kernel
theorem d_In_bitCount_34 : decode c_In_bitCount 34 = .ok (.iload_n 0, 1) := by decide +kernel
theorem d_In_bitCount_35 : decode c_In_bitCount 35 = .ok (.iload_n 0, 1) := by decide +kernel
theorem d_In_bitCount_36 : decode c_In_bitCount 36 = .ok (.bipush 8, 2) := by decide +kernel
theorem d_In_bitCount_38 : decode c_In_bitCount 38 = .ok (.iushr, 1) := by decide +kernel
theorem d_In_bitCount_39 : decode c_In_bitCount 39 = .ok (.iadd, 1) := by decide +kernel
theorem d_In_bitCount_40 : decode c_In_bitCount 40 = .ok (.istore_n 0, 1) := by decide +kernel
theorem d_In_bitCount_41 : decode c_In_bitCount 41 = .ok (.iload_n 0, 1) := by decide +kernel
theorem d_In_bitCount_42 : decode c_In_bitCount 42 = .ok (.iload_n 0, 1) := by decide +kernel
theorem d_In_bitCount_43 : decode c_In_bitCount 43 = .ok (.bipush 16, 2) := by decide +kernel
theorem d_In_bitCount_45 : decode c_In_bitCount 45 = .ok (.iushr, 1) := by decide +kernel
theorem d_In_bitCount_46 : decode c_In_bitCount 46 = .ok (.iadd, 1) := by decide +kernel
theorem d_In_bitCount_47 : decode c_In_bitCount 47 = .ok (.istore_n 0, 1) := by decide +kernel
theorem d_In_bitCount_48 : decode c_In_bitCount 48 = .ok (.iload_n 0, 1) := by decide +kernel
theorem d_In_bitCount_49 : decode c_In_bitCount 49 = .ok (.bipush 63, 2) := by decide +kernel
theorem d_In_bitCount_51 : decode c_In_bitCount 51 = .ok (.iand, 1) := by decide +kernel
theorem d_In_bitCount_52 : decode c_In_bitCount 52 = .ok (.ireturn, 1) := by decide +kernel
end
section
/-! ===== BEGIN exceptions that leave a method, and their catching by the caller (launches without stack traces) ===== -/
section VXA
/-! The laws vx_back, vx_callV, vx_callS, vx_callSW, vx_throw0, vx_throwS follow proofs of the library, with one case more: JvmDerived/Free/Laws.lean (Back.of_free), Shelf42/LK1.lean (callV, callS), Shelf/KitTraced.lean (throwNew0V, throwNewS). -/
/-- where a method has thrown q: the class by its name, the cell, what was written, the world -/
def vx_T (XC : String → State → State → Prop) (st : State) (q : Addr) (t : State) (mc ms : Nat) (free : Addr → Prop) : Prop :=
  ∃ (E : String) (ce : Cell) (L : List Loc), XC E st t ∧ t.heap[q]? = some ce ∧ ce.vm = .none ∧ st.vm.findClass E = some ce.cls ∧ st.WarmedH t.vm ∧ st.sameButNew ({ t with vm := st.vm } : State) L mc ms ∧ ∀ z ∈ L, free z.base
def vx_Q (Qc : Array Value → State → Outcome → State → Prop) (XC : String → State → State → Prop) (mc ms : Nat) (free : Addr → Prop) : Array Value → State → Outcome → State → Prop := fun a st o t =>
  (Qc a st o t ∧ ∃ L, FrameEnd st o t L mc ms ∧ ∀ q ∈ L, free q.base) ∨ ∃ q, o = .threw q ∧ vx_T XC st q t mc ms free
/-- a callee that returns or throws -/
def vx_Met (l : Launch) (y : MethodName) (ws : List Cond) (rm : Room) (Pc : Array Value → State → Prop) (Qc : Array Value → State → Outcome → State → Prop) (XC : String → State → State → Prop) (mc ms : Nat) (free : Addr → Prop) : Prop :=
  MetFree l y (headSpec ws rm) Pc (fun _ _ _ _ _ => True) (vx_Q Qc XC mc ms free)
def vx_Post (XC : String → State → State → Prop) (mc ms : Nat) (free : Addr → Prop) : Pt → Array Value → Addr → Pt → Prop := fun A a q B =>
  ∃ (g : JFrame) (mk : MethodId) (t : State) (L : List Loc) (E : String) (ce : Cell), B.U.heap = t.heap ∧ B.U.vm = t.vm ∧ XC E (A.U.calling g mk a) t ∧ t.heap[q]? = some ce ∧ ce.vm = .none ∧ A.U.vm.findClass E = some ce.cls ∧ B.locs = A.locs ++ L ∧ (∀ z ∈ L, free z.base) ∧ B.cells = A.cells + mc ∧ B.slots = A.slots + ms
def vx_Back (l : Launch) (R : Room) (p : Program) (e : Env) (below : List Frame) (s : State) (sargs : Array Value) (y : MethodName) (len W9 : Nat)
    (Pre : Pt → Array Value → Prop) (Post : Pt → Array Value → Option Value → Pt → Prop) (PostX : Pt → Array Value → Addr → Pt → Prop) : Prop :=
  ∀ (m : MethodId) (meth : Method) (c : Code) (A : Pt) (g : JFrame) (ig : Instr) (mk : MethodId) (a : Array Value),
    Stand p l e R s m sargs below meth c A.U A.locs A.cells A.slots → g.method = m → g.locals.size = c.maxLocals → decode c.code g.pc = .ok (ig, len) →
    2 * g.monitorRoom + (g.stack.map fun v => v.category).sum ≤ W9 → A.U.methodNamed? y = some mk → Pre A a →
    (∃ (v : Option Value) (B : Pt), Stand p l e R s m sargs below meth c B.U B.locs B.cells B.slots ∧ Post A a v B ∧
      Steps p.tables e below (doInvoke e (A.U.setTop g) [] mk a).1 (B.U.setTop { g with pc := g.pc + len, stack := v.toList ++ g.stack })) ∨
    (∃ (q : Addr) (B : Pt), Stand p l e R s m sargs below meth c B.U B.locs B.cells B.slots ∧ PostX A a q B ∧
      Steps p.tables e below (doInvoke e (A.U.setTop g) [] mk a).1 ((B.U.setTop g).pushFrame (.throwing q)))
section Payer
variable {l : Launch} {R : Room} {p : Program} {e : Env} {below : List Frame} {s : State} {sargs : Array Value} {y : MethodName} {len W9 : Nat}
theorem vx_back {ws : List Cond} {rm : Room} {Pc : Array Value → State → Prop} {Qc : Array Value → State → Outcome → State → Prop} {XC : String → State → State → Prop} {mc ms : Nat} {free : Addr → Prop} {bytes : ByteArray} {maxL : Nat} {ret : Option FieldType}
    (hM : vx_Met l y ws rm Pc Qc XC mc ms free) (hblind : FrameBlind Pc) (hrc : rm.cells = mc) (hrs : rm.slots = ms)
    (hframes : rm.frames + 1 ≤ R.frames) (hlocals : W9 + (maxL + 11) + rm.locals ≤ R.locals)
    (hws : ∀ w ∈ ws, ∀ a' U, s.WarmedH U.vm → w.before a' U = true) (hcode : Cond.code y bytes maxL ret ∈ ws) (hinit : ∀ a' U, s.WarmedH U.vm → (Cond.initialized y.cls).before a' U = true) :
    vx_Back l R p e below s sargs y len W9 (PreOf R mc ms Pc) (PostOf Qc mc ms free) (vx_Post XC mc ms free) := by
  intro m meth c A g ig mk a X hg hsize hdg hW hn hp
  have h1 : (headSpec ws rm).pre.before a A.U = true := atoms_intro fun w hw => hws w hw _ _ X.warmed
  have h2 : (Cond.code y bytes maxL ret).before a A.U = true := hws _ hcode _ _ X.warmed
  have h3 : (Cond.initialized y.cls).before a A.U = true := hinit _ _ X.warmed
  have h4 : A.cells + (headSpec ws rm).room.cells ≤ R.cells := by rw [show (headSpec ws rm).room.cells = mc from hrc]; exact hp.1
  have h5 : A.slots + (headSpec ws rm).room.slots ≤ R.slots := by rw [show (headSpec ws rm).room.slots = ms from hrs]; exact hp.2.1
  have hPc : Pc a (A.U.calling g mk a) := hblind _ _ _ _ hp.2.2
  obtain ⟨U, Ls, c0, s0⟩ := A
  dsimp only [Pt.U, Pt.locs, Pt.cells, Pt.slots] at h1 h2 h3 h4 h5 X hn hPc ⊢
  obtain ⟨methY, cY, hmY, hcY, -, hlY, -, -, -, -⟩ := Cond.code_spec hn h2
  obtain ⟨kY, hkY, -⟩ := className_of_methodNamed hn
  have hinitY : kY.init = .initialized := Cond.initialized_spec (findClass_of_methodNamed hn) hkY h3
  have h : At U g.method c below := by rw [hg]; exact X.here
  have hlocals9 : W9 + (maxL + 11) + (headSpec ws rm).room.locals ≤ R.locals := hlocals
  have happ : (headSpec ws rm).appliesLoose y e.platform (U.calling g mk a) = true :=
    Spec.appliesLoose_calling (g := g) h hdg hn hkY hinitY
      (X.room_calling (g := g) (R' := (headSpec ws rm).room) hsize hmY hcY hframes (by rw [hlY]; omega) h4 h5) h1
  obtain ⟨mid, hmid⟩ := h.above
  have hfr : (U.setTop g).frames = (.java g :: mid) ++ below := by rw [State.frames_setTop' g h.top, hmid]; rfl
  obtain ⟨o, s₂, hsteps, -, hend, hq⟩ := Steps.callFree hM p X.admits X.cas X.clock (acts := []) hfr happ hPc trivial
  have hq' : vx_Q Qc XC mc ms free a (U.calling g mk a) o s₂ := hq
  rw [State.frames_setTop' g h.top] at hend
  obtain ⟨g₀, hg0⟩ := Option.isSome_iff_exists.mp h.top
  obtain ⟨r, hr⟩ := State.topJava?_eq_some.mp hg0
  have hr' : (({ U with heap := s₂.heap, slotsUsed := s₂.slotsUsed } : State).setVm s₂.vm).frames = .java g₀ :: r := hr
  rcases hq' with ⟨hqc, L, hfe, hL⟩ | ⟨q, rfl, E, ce, L, hx, hce, hcv, hcl, hW₂, hsm, hL⟩
  · obtain ⟨⟨v, rfl⟩, hW₂, e2, q2, q3, q4, q5, q6⟩ := id hfe
    have e3 : s₂ = ({ (U.calling g mk a).setFrames s₂.frames with heap := s₂.heap, slotsUsed := s₂.slotsUsed } : State).setVm s₂.vm := by
      have : s₂ = ({ s₂ with vm := (U.calling g mk a).vm } : State).setVm s₂.vm := rfl
      rw [e2] at this
      exact this
    obtain ⟨c₂, i₂, len₂, hc₂, hd₂, hf₂⟩ := hend
    have hW' : U.WarmedH s₂.vm := hW₂
    have hcc : c₂ = c := by
      have h1 : s₂.code? g.method = U.code? g.method := by
        rw [State.code?_eq, State.code?_eq, hW'.alike.method?]
      exact Option.some.inj (hc₂.symm.trans (h1.trans h.code))
    subst hcc
    have hlen : len₂ = len := by rw [hdg] at hd₂; cases hd₂; rfl
    subst hlen
    have hs₂ : s₂ = (({ U with heap := s₂.heap, slotsUsed := s₂.slotsUsed } : State).setVm s₂.vm).setTop { g with pc := g.pc + len₂, stack := v.toList ++ g.stack } := by
      refine e3.trans ?_
      rw [hf₂, State.calling_eq h.top, State.setFrames_setFrames, State.setTop_of_frames _ hr', hr]
      rfl
    have hsame : U.sameButNew ({ U with heap := s₂.heap, slotsUsed := s₂.slotsUsed } : State) L mc ms := by
      refine ⟨?_, q2, q3, q4, q5, q6⟩
      obtain ⟨t, ht, -⟩ := State.frames_cons hr
      show ({ U with heap := s₂.heap, slotsUsed := s₂.slotsUsed } : State) = { U.setFrames U.frames with heap := s₂.heap, slotsUsed := s₂.slotsUsed }
      rw [State.setFrames_self ht]
    subst hg
    refine Or.inl ⟨v, ⟨(({ U with heap := s₂.heap, slotsUsed := s₂.slotsUsed } : State).setVm s₂.vm), Ls ++ L, c0 + mc, s0 + ms⟩,
      ⟨X.admits, X.cas, X.clock, X.frames, X.room, X.hears, X.method, X.code, (X.here.setHeapUsed s₂.heap s₂.slotsUsed).setVm hW'.alike, X.tail, State.WarmedH.trans X.warmed hW', X.limits, X.bytes, X.same.trans (hsame.setVm s.vm)⟩,
      ⟨g, mk, s₂, L, rfl, rfl, hqc, rfl, hL, rfl, rfl⟩, ?_⟩
    show Steps p.tables e below _ ((({ U with heap := s₂.heap, slotsUsed := s₂.slotsUsed } : State).setVm s₂.vm).setTop { g with pc := g.pc + len₂, stack := v.toList ++ g.stack })
    rw [← hs₂]
    exact hsteps
  · obtain ⟨e2, q2, q3, q4, q5, q6⟩ := id hsm
    have e3 : s₂ = ({ (U.calling g mk a).setFrames s₂.frames with heap := s₂.heap, slotsUsed := s₂.slotsUsed } : State).setVm s₂.vm := by
      have : s₂ = ({ s₂ with vm := (U.calling g mk a).vm } : State).setVm s₂.vm := rfl
      rw [e2] at this
      exact this
    have hf₂ : s₂.frames = .throwing q :: .java g :: U.frames.tail := hend
    have hW' : U.WarmedH s₂.vm := hW₂
    have hs₂ : s₂ = ((({ U with heap := s₂.heap, slotsUsed := s₂.slotsUsed } : State).setVm s₂.vm).setTop g).pushFrame (.throwing q) := by
      refine e3.trans ?_
      rw [hf₂, State.calling_eq h.top, State.setFrames_setFrames, State.pushFrame, State.frames_setTop _ hr', State.setTop_of_frames _ hr', State.setFrames_setFrames, hr]
      rfl
    have hsame : U.sameButNew ({ U with heap := s₂.heap, slotsUsed := s₂.slotsUsed } : State) L mc ms := by
      refine ⟨?_, q2, q3, q4, q5, q6⟩
      obtain ⟨t, ht, -⟩ := State.frames_cons hr
      show ({ U with heap := s₂.heap, slotsUsed := s₂.slotsUsed } : State) = { U.setFrames U.frames with heap := s₂.heap, slotsUsed := s₂.slotsUsed }
      rw [State.setFrames_self ht]
    subst hg
    refine Or.inr ⟨q, ⟨(({ U with heap := s₂.heap, slotsUsed := s₂.slotsUsed } : State).setVm s₂.vm), Ls ++ L, c0 + mc, s0 + ms⟩,
      ⟨X.admits, X.cas, X.clock, X.frames, X.room, X.hears, X.method, X.code, (X.here.setHeapUsed s₂.heap s₂.slotsUsed).setVm hW'.alike, X.tail, State.WarmedH.trans X.warmed hW', X.limits, X.bytes, X.same.trans (hsame.setVm s.vm)⟩,
      ⟨g, mk, s₂, L, E, ce, rfl, rfl, hx, hce, hcv, hcl, rfl, hL, rfl, rfl⟩, ?_⟩
    show Steps p.tables e below _ (((({ U with heap := s₂.heap, slotsUsed := s₂.slotsUsed } : State).setVm s₂.vm).setTop g).pushFrame (.throwing q))
    rw [← hs₂]
    exact hsteps
end Payer
section Calls
variable {p : Program} {l : Launch} {e : Env} {R : Room} {s : State} {m : MethodId} {args : Array Value} {below : List Frame} {meth : Method} {c : Code} {T : State} {locs : List Loc} {cells slots : Nat}
theorem vx_callV (X : Stand p l e R s m args below meth c T locs cells slots) (hexec : p.tables.exec = Jvm.exec) {own C : String} {index : Nat} {y : MethodName} {bytes : ByteArray} {maxL : Nat} {ret : Option FieldType}
    (hown : s.vm.findClass own = some m.cls) (hlink : (Cond.methodLink own index y).before args s = true) (hinst : (Cond.instanceMethod y).before args s = true) (hsel : (Cond.selects C y y).before args s = true)
    (hcode : (Cond.code y bytes maxL ret).before args s = true) (hy : y.cls ≠ "java/lang/invoke/MethodHandle" ∧ y.cls ≠ "java/lang/invoke/VarHandle")
    {W9 : Nat} {Pre : Pt → Array Value → Prop} {Post : Pt → Array Value → Option Value → Pt → Prop} {PostX : Pt → Array Value → Addr → Pt → Prop} (hK : vx_Back l R p e below s args y 3 W9 Pre Post PostX)
    {b : Addr} {cellB : Cell} (hcell : T.heap[b]? = some cellB) (hobj : cellB.vm.isStatics = false) (hcls : s.vm.findClass C = some cellB.cls)
    {g : JFrame} (hg : g.method = m) (hsize : g.locals.size = c.maxLocals) {argsL rest : List Value} (hlen : ∀ sig, parseMethodDescriptor y.desc = some sig → argsL.length = sig.parameters.length)
    (hstack : g.stack = argsL.reverse ++ .ref b :: rest) (hW : 2 * g.monitorRoom + (rest.map fun v => v.category).sum ≤ W9) (hdg : decode c.code g.pc = .ok (.invokevirtual index, 3))
    (hpre : ∀ vm₁, s.WarmedH vm₁ → Pre ⟨T.setVm vm₁, locs, cells, slots⟩ (Value.ref b :: argsL).toArray) :
    (∃ (v : Option Value) (vm₁ : Vm) (B : Pt), s.WarmedH vm₁ ∧ Stand p l e R s m args below meth c B.U B.locs B.cells B.slots ∧ Post ⟨T.setVm vm₁, locs, cells, slots⟩ (Value.ref b :: argsL).toArray v B ∧
      ∀ target, Steps p.tables e below (B.U.setTop { g with pc := g.pc + 3, stack := v.toList ++ rest }) target → Steps p.tables e below (T.setTop g) target) ∨
    (∃ (q : Addr) (vm₁ : Vm) (B : Pt), s.WarmedH vm₁ ∧ Stand p l e R s m args below meth c B.U B.locs B.cells B.slots ∧ PostX ⟨T.setVm vm₁, locs, cells, slots⟩ (Value.ref b :: argsL).toArray q B ∧
      Steps p.tables e below (T.setTop g) ((B.U.setTop { g with stack := rest }).pushFrame (.throwing q))) := by
  obtain ⟨mk, methM, hnamed, hmethM, hstM, habM⟩ := Cond.instanceMethod_spec hinst
  obtain ⟨methM', cM, hmethM', -, -, -, -, -, -, hsigM⟩ := Cond.code_spec hnamed hcode
  cases hmethM.symm.trans hmethM'
  obtain ⟨c2, r2, m2, q1, q2, q3, q4, kP, hkP, hkPi⟩ := Cond.selects_spec hsel
  cases hcls.symm.trans q1
  cases (State.methodFound?_of_named hnamed hy).symm.trans q2
  cases hnamed.symm.trans q3
  have hselP : selectMethod e.platform s.vm cellB.cls mk = .method mk := by rw [Launch.admits_selectMethod X.admits]; exact q4
  obtain ⟨vm₁, X₁, hstep₁⟩ := X.invokevirtual hexec hown hlink hnamed hmethM hstM hkP hkPi hy (a := b) (cell := cellB) hcell
    (fun z h => by rw [h] at hobj; cases hobj) hselP hmethM habM hkP hkPi (g := g) hg (argsL := argsL) (rest := rest) (hlen _ hsigM) hstack hdg
  rcases hK m meth c ⟨T.setVm vm₁, locs, cells, slots⟩ { g with stack := rest } (.invokevirtual index) mk (Value.ref b :: argsL).toArray X₁ hg hsize hdg hW (X₁.named hnamed) (hpre vm₁ X₁.warmed) with ⟨v, B, X', hpost, hsteps⟩ | ⟨q, B, X', hpost, hsteps⟩
  · exact Or.inl ⟨v, vm₁, B, X₁.warmed, X', hpost, fun target h => hstep₁ _ fun acts => by rw [doInvoke_state]; exact hsteps.trans h⟩
  · exact Or.inr ⟨q, vm₁, B, X₁.warmed, X', hpost, hstep₁ _ fun acts => by rw [doInvoke_state]; exact hsteps⟩
theorem vx_callS (X : Stand p l e R s m args below meth c T locs cells slots) (hexec : p.tables.exec = Jvm.exec) {own : String} {index : Nat} {y : MethodName} {bytes : ByteArray} {maxL : Nat} {ret : Option FieldType}
    (hown : s.vm.findClass own = some m.cls) (hlink : (Cond.methodLink own index y).before args s = true) (hstat : (Cond.static y).before args s = true) (hinit : (Cond.initialized y.cls).before args s = true)
    (hcode : (Cond.code y bytes maxL ret).before args s = true) (hy : y.cls ≠ "java/lang/invoke/MethodHandle" ∧ y.cls ≠ "java/lang/invoke/VarHandle")
    {W9 : Nat} {Pre : Pt → Array Value → Prop} {Post : Pt → Array Value → Option Value → Pt → Prop} {PostX : Pt → Array Value → Addr → Pt → Prop} (hK : vx_Back l R p e below s args y 3 W9 Pre Post PostX)
    {g : JFrame} (hg : g.method = m) (hsize : g.locals.size = c.maxLocals) {argsL rest : List Value} (hlen : ∀ sig, parseMethodDescriptor y.desc = some sig → argsL.length = sig.parameters.length)
    (hstack : g.stack = argsL.reverse ++ rest) (hW : 2 * g.monitorRoom + (rest.map fun v => v.category).sum ≤ W9) (hdg : decode c.code g.pc = .ok (.invokestatic index, 3))
    (hpre : ∀ vm₁, s.WarmedH vm₁ → Pre ⟨T.setVm vm₁, locs, cells, slots⟩ argsL.toArray) :
    (∃ (v : Option Value) (vm₁ : Vm) (B : Pt), s.WarmedH vm₁ ∧ Stand p l e R s m args below meth c B.U B.locs B.cells B.slots ∧ Post ⟨T.setVm vm₁, locs, cells, slots⟩ argsL.toArray v B ∧
      ∀ target, Steps p.tables e below (B.U.setTop { g with pc := g.pc + 3, stack := v.toList ++ rest }) target → Steps p.tables e below (T.setTop g) target) ∨
    (∃ (q : Addr) (vm₁ : Vm) (B : Pt), s.WarmedH vm₁ ∧ Stand p l e R s m args below meth c B.U B.locs B.cells B.slots ∧ PostX ⟨T.setVm vm₁, locs, cells, slots⟩ argsL.toArray q B ∧
      Steps p.tables e below (T.setTop g) ((B.U.setTop { g with stack := rest }).pushFrame (.throwing q))) := by
  obtain ⟨mk, hnamed⟩ := Cond.code_named hcode
  obtain ⟨methM, cM, hmethM, -, -, -, -, -, -, hsigM⟩ := Cond.code_spec hnamed hcode
  have hstatic : methM.isStatic = true := Cond.static_spec hnamed hmethM hstat
  obtain ⟨kP, hkP, -⟩ := className_of_methodNamed hnamed
  have hinitP : kP.init = .initialized := Cond.initialized_spec (findClass_of_methodNamed hnamed) hkP hinit
  obtain ⟨vm₁, X₁, hstep₁⟩ := X.invokestatic hexec hown hlink hnamed hmethM hstatic hkP hinitP hy (g := g) hg (argsL := argsL) (rest := rest) (hlen _ hsigM) hstack hdg
  rcases hK m meth c ⟨T.setVm vm₁, locs, cells, slots⟩ { g with stack := rest } (.invokestatic index) mk argsL.toArray X₁ hg hsize hdg hW (X₁.named hnamed) (hpre vm₁ X₁.warmed) with ⟨v, B, X', hpost, hsteps⟩ | ⟨q, B, X', hpost, hsteps⟩
  · exact Or.inl ⟨v, vm₁, B, X₁.warmed, X', hpost, fun target h => hstep₁ _ fun acts => by rw [doInvoke_state]; exact hsteps.trans h⟩
  · exact Or.inr ⟨q, vm₁, B, X₁.warmed, X', hpost, hstep₁ _ fun acts => by rw [doInvoke_state]; exact hsteps⟩
end Calls
theorem vx_cls {s : State} {T : State} {vm₁ : Vm} {E : String} {k : ClassId} (hW : s.WarmedH vm₁) (h : (T.setVm vm₁).vm.findClass E = some k) : s.vm.findClass E = some k := by
  have h1 : vm₁.findClass E = some k := h
  rw [hW.alike.findClass] at h1
  exact h1
/-- the method's frame g, with q thrown over it -/
def vx_W (p : Program) (l : Launch) (e : Env) (R : Room) (s : State) (m : MethodId) (args : Array Value) (below : List Frame) (meth : Method) (c : Code) (H : Heap) (locs : List Loc) (cells slots : Nat) (Q : State → Prop) (g : JFrame) (q : Addr) : Prop :=
  ∀ T : State, T.heap = H → Stand p l e R s m args below meth c T locs cells slots → ∃ t, Steps p.tables e below ((T.setTop g).pushFrame (.throwing q)) t ∧ Q t
def vx_Run (p : Program) (l : Launch) (e : Env) (R : Room) (s : State) (m : MethodId) (args : Array Value) (below : List Frame) (meth : Method) (c : Code) (H : Heap) (locs : List Loc) (cells slots mc ms : Nat) (g : JFrame) (rest : List Value) (Qa : State → Outcome → State → Prop) (XC : String → State → State → Prop) (free : Addr → Prop) : Prop :=
  ∀ T : State, T.heap = H → Stand p l e R s m args below meth c T locs cells slots →
    (∃ (v : Option Value) (st₀ t T' : State) (L : List Loc), st₀.heap = H ∧ Stand p l e R s m args below meth c T' (locs ++ L) (cells + mc) (slots + ms) ∧ (∀ q ∈ L, free q.base) ∧ T'.heap = t.heap ∧ T'.vm = t.vm ∧ Qa st₀ (.returned v) t ∧
      Goes p e below T g T' { g with pc := g.pc + 3, stack := v.toList ++ rest }) ∨
    (∃ (q : Addr) (st₀ t T' : State) (L : List Loc) (E : String) (ce : Cell), st₀.heap = H ∧ Stand p l e R s m args below meth c T' (locs ++ L) (cells + mc) (slots + ms) ∧ (∀ z ∈ L, free z.base) ∧ T'.heap = t.heap ∧ T'.vm = t.vm ∧ XC E st₀ t ∧ t.heap[q]? = some ce ∧ ce.vm = .none ∧ s.vm.findClass E = some ce.cls ∧
      Steps p.tables e below (T.setTop g) ((T'.setTop { g with stack := rest }).pushFrame (.throwing q)))
def vx_X {S : Type} (px : S → Prop) (B : String → S → State → Prop) (A : Nat → Prop) : String → State → State → Prop := fun E st t => ∃ u : S, px u ∧ B E u t ∧ va_F A st t
section Runs
variable {p : Program} {l : Launch} {e : Env} {R : Room} {s : State} {m : MethodId} {args : Array Value} {below : List Frame} {meth : Method} {c : Code} {H : Heap} {locs : List Loc} {cells slots : Nat}
variable {y : MethodName} {bytes cc : ByteArray} {maxL nL mc ms n index : Nat} {ret : Option FieldType} {ws : List Cond} {rm : Room} {Pc : Array Value → State → Prop} {Qc : Array Value → State → Outcome → State → Prop} {XC : String → State → State → Prop} {free : Addr → Prop} {Ts : List Cond} {own C : String} {b : Addr} {As rest : List Value} {g : JFrame}
theorem vx_callBack (cb : CallB R s args own index y bytes maxL ret ws rm mc ms n) (hM : vx_Met l y ws rm Pc Qc XC mc ms free) (hbl : FrameBlind Pc) : vx_Back l R p e below s args y 3 8 (PreOf R mc ms Pc) (PostOf Qc mc ms free) (vx_Post XC mc ms free) := by
  obtain ⟨hrc, hrs, hfr, hlo, hws, hcw, -, hini, -⟩ := cb
  exact vx_back (bytes := bytes) (maxL := maxL) (ret := ret) hM hbl hrc hrs hfr hlo hws hcw (fun a' U hW => word_at hW (Or.inl (by first | rfl | simp [Cond.onTables, Cond.keeps, Cond.steady])) hini)
theorem vx_runV (S : CallFix p m c cc nL s args Ts own) (hM : vx_Met l y ws rm Pc Qc XC mc ms free) (cw : CallW R s args own C index y bytes maxL ret ws rm mc ms n) (hp : PreV s H C b Pc As)
    (hg : g.method = m) (hn : As.length = n) (hsize : g.locals.size = nL) (hstack : g.stack = As.reverse ++ .ref b :: rest) (hW : 2 * g.monitorRoom + (rest.map fun v => v.category).sum ≤ 8) (hdg : decode cc g.pc = .ok (.invokevirtual index, 3)) (hf : cells + mc ≤ R.cells ∧ slots + ms ≤ R.slots) :
    vx_Run p l e R s m args below meth c H locs cells slots mc ms g rest (Qc (Value.ref b :: As).toArray) XC free := by
  have hK : vx_Back l R p e below s args y 3 8 (PreOf R mc ms Pc) (PostOf Qc mc ms free) (vx_Post XC mc ms free) := vx_callBack cw.1 hM hp.1
  obtain ⟨⟨-, -, -, -, -, -, hcode, -, hy, hlen, hl⟩, hin, hse⟩ := cw
  obtain ⟨hx, hb, hml, ho, -⟩ := S
  obtain ⟨-, ⟨cellB, hcB, hoB, hclB⟩, hPc⟩ := hp
  intro T hT X
  rcases vx_callV X hx (C := C) (bytes := bytes) (maxL := maxL) (ret := ret) ho hl hin hse hcode hy hK (by rw [hT]; exact hcB) hoB hclB hg (hsize.trans hml.symm) (argsL := As) (rest := rest) (fun sig h => hn.trans (hlen sig h)) hstack hW (by rw [hb]; exact hdg)
    (fun vm₁ hW₁ => ⟨hf.1, hf.2, hPc (T.setVm vm₁) hT hW₁⟩) with ⟨v, vm₁, ⟨U', l2, c2, s2⟩, hW₁, X', ⟨g', mk, t, L, e1, e2, hq, h1, hL, h2, h3⟩, st⟩ | ⟨q, vm₁, ⟨U', l2, c2, s2⟩, hW₁, X', ⟨g', mk, t, L, E, ce, e1, e2, hq, hce, hcv, hcl, h1, hL, h2, h3⟩, st⟩
  · dsimp only [Pt.U, Pt.locs, Pt.cells, Pt.slots] at X' e1 e2 h1 h2 h3 st
    subst h1; subst h2; subst h3
    exact Or.inl ⟨v, (T.setVm vm₁).calling g' mk (Value.ref b :: As).toArray, t, U', L, hT, X', hL, e1, e2, hq, st⟩
  · dsimp only [Pt.U, Pt.locs, Pt.cells, Pt.slots] at X' e1 e2 h1 h2 h3 st hcl
    subst h1; subst h2; subst h3
    exact Or.inr ⟨q, (T.setVm vm₁).calling g' mk (Value.ref b :: As).toArray, t, U', L, E, ce, hT, X', hL, e1, e2, hq, hce, hcv, vx_cls hW₁ hcl, st⟩
theorem vx_runS (S : CallFix p m c cc nL s args Ts own) (hM : vx_Met l y ws rm Pc Qc XC mc ms free) (cw : CallB R s args own index y bytes maxL ret ws rm mc ms n ∧ (Cond.static y).before args s = true) (hp : PreS s H Pc As)
    (hg : g.method = m) (hn : As.length = n) (hsize : g.locals.size = nL) (hstack : g.stack = As.reverse ++ rest) (hW : 2 * g.monitorRoom + (rest.map fun v => v.category).sum ≤ 8) (hdg : decode cc g.pc = .ok (.invokestatic index, 3)) (hf : cells + mc ≤ R.cells ∧ slots + ms ≤ R.slots) :
    vx_Run p l e R s m args below meth c H locs cells slots mc ms g rest (Qc As.toArray) XC free := by
  have hK : vx_Back l R p e below s args y 3 8 (PreOf R mc ms Pc) (PostOf Qc mc ms free) (vx_Post XC mc ms free) := vx_callBack cw.1 hM hp.1
  obtain ⟨⟨-, -, -, -, -, -, hcode, hini, hy, hlen, hl⟩, hstt⟩ := cw
  obtain ⟨hx, hb, hml, ho, -⟩ := S
  intro T hT X
  rcases vx_callS X hx (bytes := bytes) (maxL := maxL) (ret := ret) ho hl hstt hini hcode hy hK hg (hsize.trans hml.symm) (argsL := As) (rest := rest) (fun sig h => hn.trans (hlen sig h)) hstack hW (by rw [hb]; exact hdg)
    (fun vm₁ hW₁ => ⟨hf.1, hf.2, hp.2 (T.setVm vm₁) hT hW₁⟩) with ⟨v, vm₁, ⟨U', l2, c2, s2⟩, hW₁, X', ⟨g', mk, t, L, e1, e2, hq, h1, hL, h2, h3⟩, st⟩ | ⟨q, vm₁, ⟨U', l2, c2, s2⟩, hW₁, X', ⟨g', mk, t, L, E, ce, e1, e2, hq, hce, hcv, hcl, h1, hL, h2, h3⟩, st⟩
  · dsimp only [Pt.U, Pt.locs, Pt.cells, Pt.slots] at X' e1 e2 h1 h2 h3 st
    subst h1; subst h2; subst h3
    exact Or.inl ⟨v, (T.setVm vm₁).calling g' mk As.toArray, t, U', L, hT, X', hL, e1, e2, hq, st⟩
  · dsimp only [Pt.U, Pt.locs, Pt.cells, Pt.slots] at X' e1 e2 h1 h2 h3 st hcl
    subst h1; subst h2; subst h3
    exact Or.inr ⟨q, (T.setVm vm₁).calling g' mk As.toArray, t, U', L, E, ce, hT, X', hL, e1, e2, hq, hce, hcv, vx_cls hW₁ hcl, st⟩
end Runs
section Rows
variable {p : Program} {l : Launch} {e : Env} {R : Room} {s : State} {m : MethodId} {args : Array Value} {below : List Frame} {meth : Method} {c : Code} {H : Heap} {locs : List Loc} {cells slots : Nat} {Q : State → Prop}
variable {mc ms : Nat} {free : Addr → Prop} {A0 A1 : Nat → Prop} {H0 : Heap} {a : Array Value} {pc : Nat} {ls : Array Slot} {st0 rest : List Value}
theorem vx_keep {st₀ t T' : State} {L : List Loc} (h0 : st₀.heap = H) (e1 : T'.heap = t.heap) (hS : va_S A0 H0 H locs) (hA : ∀ q, q < H.size → A1 q → A0 q) (hf : ∀ q, free q → A0 q) (hL : ∀ q ∈ L, free q.base) (hF : va_F A1 st₀ t) :
    H.size ≤ T'.heap.size ∧ (∀ q : Nat, q < H.size → ¬ A1 q → T'.heap[q]? = H[q]?) ∧ va_S A0 H0 T'.heap (locs ++ L) := by
  obtain ⟨hz, hk⟩ := hF
  rw [h0] at hz hk
  exact ⟨by rw [e1]; exact hz, fun q h1 h2 => by rw [e1]; exact hk q h1 h2,
    ⟨Nat.le_trans hS.1 (by rw [e1]; exact hz), fun q h1 h2 => by rw [e1, hk q (Nat.lt_of_lt_of_le h1 hS.1) (fun z => h2 (hA q (Nat.lt_of_lt_of_le h1 hS.1) z))]; exact hS.2.1 q h1 h2, fun q hq => by
      rcases List.mem_append.mp hq with h | h
      · exact hS.2.2 q h
      · exact hf _ (hL q h)⟩⟩
theorem vx_calli {S SX : Type} {post : Int32 → S → Prop} {px : SX → Prop} {B : S → State → Prop} {BX : String → SX → State → Prop} {AX : Nat → Prop} (hr : vx_Run p l e R s m args below meth c H locs cells slots mc ms (F0 m pc ls st0) rest (va_Qi post B A1 a) (vx_X px BX AX) free) (hS : va_S A0 H0 H locs) (hA : ∀ q, q < H.size → A1 q → A0 q) (hf : ∀ q, free q → A0 q) (hAX : ∀ q, q < H.size → AX q → A0 q)
    (kx : ∀ (E : String) (ce : Cell) (q9 : Addr) (u : SX) (t : State) (H1 : Heap) (locs1 : List Loc), t.heap = H1 → s.vm.Alike t.vm → px u → BX E u t → H.size ≤ H1.size → (∀ q : Nat, q < H.size → ¬ AX q → H1[q]? = H[q]?) → va_S A0 H0 H1 locs1 → H1[q9]? = some ce → ce.vm = .none → s.vm.findClass E = some ce.cls → vx_W p l e R s m args below meth c H1 locs1 (cells + mc) (slots + ms) Q (F0 m pc ls rest) q9)
    (kk : ∀ (r : Int32) (u : S) (t : State) (H1 : Heap) (locs1 : List Loc), t.heap = H1 → s.vm.Alike t.vm → post r u → B u t → H.size ≤ H1.size → (∀ q : Nat, q < H.size → ¬ A1 q → H1[q]? = H[q]?) → va_S A0 H0 H1 locs1 → W p l e R s m args below meth c H1 locs1 (cells + mc) (slots + ms) Q (F0 m (pc + 3) ls (.int r :: rest))) : W p l e R s m args below meth c H locs cells slots Q (F0 m pc ls st0) := by
  intro T hT X
  rcases hr T hT X with ⟨v, st₀, t, T', L, h0, X', hL, e1, e2, ⟨⟨r, u, hv, hp, hb⟩, hF⟩, st⟩ | ⟨q, st₀, t, T', L, E, ce, h0, X', hL, e1, e2, ⟨u, hp, hb, hF⟩, hce, hcv, hcl, st⟩
  · cases hv
    obtain ⟨k1, k2, k3⟩ := vx_keep h0 e1 hS hA hf hL hF
    obtain ⟨t2, a1, b1⟩ := kk r u t T'.heap (locs ++ L) e1.symm (by rw [← e2]; exact X'.warmed.alike) hp hb k1 k2 k3 T' rfl X'
    exact ⟨t2, st t2 a1, b1⟩
  · obtain ⟨k1, k2, k3⟩ := vx_keep h0 e1 hS hAX hf hL hF
    obtain ⟨t2, a1, b1⟩ := kx E ce q u t T'.heap (locs ++ L) e1.symm (by rw [← e2]; exact X'.warmed.alike) hp hb k1 k2 k3 (by rw [e1]; exact hce) hcv hcl T' rfl X'
    exact ⟨t2, st.trans a1, b1⟩
theorem vx_calll {S SX : Type} {post : Int64 → S → Prop} {px : SX → Prop} {B : S → State → Prop} {BX : String → SX → State → Prop} {AX : Nat → Prop} (hr : vx_Run p l e R s m args below meth c H locs cells slots mc ms (F0 m pc ls st0) rest (va_Ql post B A1 a) (vx_X px BX AX) free) (hS : va_S A0 H0 H locs) (hA : ∀ q, q < H.size → A1 q → A0 q) (hf : ∀ q, free q → A0 q) (hAX : ∀ q, q < H.size → AX q → A0 q)
    (kx : ∀ (E : String) (ce : Cell) (q9 : Addr) (u : SX) (t : State) (H1 : Heap) (locs1 : List Loc), t.heap = H1 → s.vm.Alike t.vm → px u → BX E u t → H.size ≤ H1.size → (∀ q : Nat, q < H.size → ¬ AX q → H1[q]? = H[q]?) → va_S A0 H0 H1 locs1 → H1[q9]? = some ce → ce.vm = .none → s.vm.findClass E = some ce.cls → vx_W p l e R s m args below meth c H1 locs1 (cells + mc) (slots + ms) Q (F0 m pc ls rest) q9)
    (kk : ∀ (r : Int64) (u : S) (t : State) (H1 : Heap) (locs1 : List Loc), t.heap = H1 → s.vm.Alike t.vm → post r u → B u t → H.size ≤ H1.size → (∀ q : Nat, q < H.size → ¬ A1 q → H1[q]? = H[q]?) → va_S A0 H0 H1 locs1 → W p l e R s m args below meth c H1 locs1 (cells + mc) (slots + ms) Q (F0 m (pc + 3) ls (.long r :: rest))) : W p l e R s m args below meth c H locs cells slots Q (F0 m pc ls st0) := by
  intro T hT X
  rcases hr T hT X with ⟨v, st₀, t, T', L, h0, X', hL, e1, e2, ⟨⟨r, u, hv, hp, hb⟩, hF⟩, st⟩ | ⟨q, st₀, t, T', L, E, ce, h0, X', hL, e1, e2, ⟨u, hp, hb, hF⟩, hce, hcv, hcl, st⟩
  · cases hv
    obtain ⟨k1, k2, k3⟩ := vx_keep h0 e1 hS hA hf hL hF
    obtain ⟨t2, a1, b1⟩ := kk r u t T'.heap (locs ++ L) e1.symm (by rw [← e2]; exact X'.warmed.alike) hp hb k1 k2 k3 T' rfl X'
    exact ⟨t2, st t2 a1, b1⟩
  · obtain ⟨k1, k2, k3⟩ := vx_keep h0 e1 hS hAX hf hL hF
    obtain ⟨t2, a1, b1⟩ := kx E ce q u t T'.heap (locs ++ L) e1.symm (by rw [← e2]; exact X'.warmed.alike) hp hb k1 k2 k3 (by rw [e1]; exact hce) hcv hcl T' rfl X'
    exact ⟨t2, st.trans a1, b1⟩
theorem vx_callf {S SX : Type} {post : UInt32 → S → Prop} {px : SX → Prop} {B : S → State → Prop} {BX : String → SX → State → Prop} {AX : Nat → Prop} (hr : vx_Run p l e R s m args below meth c H locs cells slots mc ms (F0 m pc ls st0) rest (va_Qf post B A1 a) (vx_X px BX AX) free) (hS : va_S A0 H0 H locs) (hA : ∀ q, q < H.size → A1 q → A0 q) (hf : ∀ q, free q → A0 q) (hAX : ∀ q, q < H.size → AX q → A0 q)
    (kx : ∀ (E : String) (ce : Cell) (q9 : Addr) (u : SX) (t : State) (H1 : Heap) (locs1 : List Loc), t.heap = H1 → s.vm.Alike t.vm → px u → BX E u t → H.size ≤ H1.size → (∀ q : Nat, q < H.size → ¬ AX q → H1[q]? = H[q]?) → va_S A0 H0 H1 locs1 → H1[q9]? = some ce → ce.vm = .none → s.vm.findClass E = some ce.cls → vx_W p l e R s m args below meth c H1 locs1 (cells + mc) (slots + ms) Q (F0 m pc ls rest) q9)
    (kk : ∀ (r : UInt32) (u : S) (t : State) (H1 : Heap) (locs1 : List Loc), t.heap = H1 → s.vm.Alike t.vm → post r u → B u t → H.size ≤ H1.size → (∀ q : Nat, q < H.size → ¬ A1 q → H1[q]? = H[q]?) → va_S A0 H0 H1 locs1 → W p l e R s m args below meth c H1 locs1 (cells + mc) (slots + ms) Q (F0 m (pc + 3) ls (.float r :: rest))) : W p l e R s m args below meth c H locs cells slots Q (F0 m pc ls st0) := by
  intro T hT X
  rcases hr T hT X with ⟨v, st₀, t, T', L, h0, X', hL, e1, e2, ⟨⟨r, u, hv, hp, hb⟩, hF⟩, st⟩ | ⟨q, st₀, t, T', L, E, ce, h0, X', hL, e1, e2, ⟨u, hp, hb, hF⟩, hce, hcv, hcl, st⟩
  · cases hv
    obtain ⟨k1, k2, k3⟩ := vx_keep h0 e1 hS hA hf hL hF
    obtain ⟨t2, a1, b1⟩ := kk r u t T'.heap (locs ++ L) e1.symm (by rw [← e2]; exact X'.warmed.alike) hp hb k1 k2 k3 T' rfl X'
    exact ⟨t2, st t2 a1, b1⟩
  · obtain ⟨k1, k2, k3⟩ := vx_keep h0 e1 hS hAX hf hL hF
    obtain ⟨t2, a1, b1⟩ := kx E ce q u t T'.heap (locs ++ L) e1.symm (by rw [← e2]; exact X'.warmed.alike) hp hb k1 k2 k3 (by rw [e1]; exact hce) hcv hcl T' rfl X'
    exact ⟨t2, st.trans a1, b1⟩
theorem vx_calld {S SX : Type} {post : UInt64 → S → Prop} {px : SX → Prop} {B : S → State → Prop} {BX : String → SX → State → Prop} {AX : Nat → Prop} (hr : vx_Run p l e R s m args below meth c H locs cells slots mc ms (F0 m pc ls st0) rest (va_Qd post B A1 a) (vx_X px BX AX) free) (hS : va_S A0 H0 H locs) (hA : ∀ q, q < H.size → A1 q → A0 q) (hf : ∀ q, free q → A0 q) (hAX : ∀ q, q < H.size → AX q → A0 q)
    (kx : ∀ (E : String) (ce : Cell) (q9 : Addr) (u : SX) (t : State) (H1 : Heap) (locs1 : List Loc), t.heap = H1 → s.vm.Alike t.vm → px u → BX E u t → H.size ≤ H1.size → (∀ q : Nat, q < H.size → ¬ AX q → H1[q]? = H[q]?) → va_S A0 H0 H1 locs1 → H1[q9]? = some ce → ce.vm = .none → s.vm.findClass E = some ce.cls → vx_W p l e R s m args below meth c H1 locs1 (cells + mc) (slots + ms) Q (F0 m pc ls rest) q9)
    (kk : ∀ (r : UInt64) (u : S) (t : State) (H1 : Heap) (locs1 : List Loc), t.heap = H1 → s.vm.Alike t.vm → post r u → B u t → H.size ≤ H1.size → (∀ q : Nat, q < H.size → ¬ A1 q → H1[q]? = H[q]?) → va_S A0 H0 H1 locs1 → W p l e R s m args below meth c H1 locs1 (cells + mc) (slots + ms) Q (F0 m (pc + 3) ls (.double r :: rest))) : W p l e R s m args below meth c H locs cells slots Q (F0 m pc ls st0) := by
  intro T hT X
  rcases hr T hT X with ⟨v, st₀, t, T', L, h0, X', hL, e1, e2, ⟨⟨r, u, hv, hp, hb⟩, hF⟩, st⟩ | ⟨q, st₀, t, T', L, E, ce, h0, X', hL, e1, e2, ⟨u, hp, hb, hF⟩, hce, hcv, hcl, st⟩
  · cases hv
    obtain ⟨k1, k2, k3⟩ := vx_keep h0 e1 hS hA hf hL hF
    obtain ⟨t2, a1, b1⟩ := kk r u t T'.heap (locs ++ L) e1.symm (by rw [← e2]; exact X'.warmed.alike) hp hb k1 k2 k3 T' rfl X'
    exact ⟨t2, st t2 a1, b1⟩
  · obtain ⟨k1, k2, k3⟩ := vx_keep h0 e1 hS hAX hf hL hF
    obtain ⟨t2, a1, b1⟩ := kx E ce q u t T'.heap (locs ++ L) e1.symm (by rw [← e2]; exact X'.warmed.alike) hp hb k1 k2 k3 (by rw [e1]; exact hce) hcv hcl T' rfl X'
    exact ⟨t2, st.trans a1, b1⟩
theorem vx_callv {S SX : Type} {post : S → Prop} {px : SX → Prop} {B : S → State → Prop} {BX : String → SX → State → Prop} {AX : Nat → Prop} (hr : vx_Run p l e R s m args below meth c H locs cells slots mc ms (F0 m pc ls st0) rest (va_Qv post B A1 a) (vx_X px BX AX) free) (hS : va_S A0 H0 H locs) (hA : ∀ q, q < H.size → A1 q → A0 q) (hf : ∀ q, free q → A0 q) (hAX : ∀ q, q < H.size → AX q → A0 q)
    (kx : ∀ (E : String) (ce : Cell) (q9 : Addr) (u : SX) (t : State) (H1 : Heap) (locs1 : List Loc), t.heap = H1 → s.vm.Alike t.vm → px u → BX E u t → H.size ≤ H1.size → (∀ q : Nat, q < H.size → ¬ AX q → H1[q]? = H[q]?) → va_S A0 H0 H1 locs1 → H1[q9]? = some ce → ce.vm = .none → s.vm.findClass E = some ce.cls → vx_W p l e R s m args below meth c H1 locs1 (cells + mc) (slots + ms) Q (F0 m pc ls rest) q9)
    (kk : ∀ (u : S) (t : State) (H1 : Heap) (locs1 : List Loc), t.heap = H1 → s.vm.Alike t.vm → post u → B u t → H.size ≤ H1.size → (∀ q : Nat, q < H.size → ¬ A1 q → H1[q]? = H[q]?) → va_S A0 H0 H1 locs1 → W p l e R s m args below meth c H1 locs1 (cells + mc) (slots + ms) Q (F0 m (pc + 3) ls (rest))) : W p l e R s m args below meth c H locs cells slots Q (F0 m pc ls st0) := by
  intro T hT X
  rcases hr T hT X with ⟨v, st₀, t, T', L, h0, X', hL, e1, e2, ⟨⟨u, hv, hp, hb⟩, hF⟩, st⟩ | ⟨q, st₀, t, T', L, E, ce, h0, X', hL, e1, e2, ⟨u, hp, hb, hF⟩, hce, hcv, hcl, st⟩
  · cases hv
    obtain ⟨k1, k2, k3⟩ := vx_keep h0 e1 hS hA hf hL hF
    obtain ⟨t2, a1, b1⟩ := kk u t T'.heap (locs ++ L) e1.symm (by rw [← e2]; exact X'.warmed.alike) hp hb k1 k2 k3 T' rfl X'
    exact ⟨t2, st t2 a1, b1⟩
  · obtain ⟨k1, k2, k3⟩ := vx_keep h0 e1 hS hAX hf hL hF
    obtain ⟨t2, a1, b1⟩ := kx E ce q u t T'.heap (locs ++ L) e1.symm (by rw [← e2]; exact X'.warmed.alike) hp hb k1 k2 k3 (by rw [e1]; exact hce) hcv hcl T' rfl X'
    exact ⟨t2, st.trans a1, b1⟩
/-- caught by the row x of this method's table; the rows ahead don't take it -/
theorem vx_catch {own name : String} {E : String} {ce : Cell} {q : Addr} (hown : s.vm.findClass own = some m.cls) (pre : List ExceptionTableEntry) (x : ExceptionTableEntry) (suf : List ExceptionTableEntry) (hsplit : c.exceptionTable.toList = pre ++ x :: suf)
    (hpass : ∀ z ∈ pre, covers z pc = false ∨ (z.catchType ≠ 0 ∧ ∃ nm : String, (Cond.classLink own z.catchType nm).before args s = true ∧ va_Nc E nm s)) (hx : covers x pc = true) (h0 : x.catchType ≠ 0)
    (hlink : (Cond.classLink own x.catchType name).before args s = true) (hcast : (Cond.castable E name).before args s = true) (hcell : H[q]? = some ce) (hv : ce.vm = .none) (hcl : s.vm.findClass E = some ce.cls)
    (kk : W p l e R s m args below meth c H locs cells slots Q (F0 m x.handlerPc ls [.ref q])) : vx_W p l e R s m args below meth c H locs cells slots Q (F0 m pc ls rest) q := by
  intro T hT X
  have hpl : e.platform.magicAccessors = ({} : Platform).magicAccessors := by rw [X.admits.platform]
  obtain ⟨c3, c4, hc3, hc4, hasg⟩ := Cond.castable_spec hcast
  cases Option.some.inj (hc3.symm.trans hcl)
  obtain ⟨c5, hc5, hcl5⟩ := Cond.classLink_spec hown hlink e.platform hpl
  cases Option.some.inj (hc4.symm.trans hc5)
  obtain ⟨vm', X', st⟩ := X.thenCaughtThrough q (g := F0 m pc ls rest) rfl (Steps.refl _) (by rw [hT]; exact hcell) (by rw [hv]; rfl) (by obtain ⟨k9, h9, -⟩ := Vm.findClass_spec hcl; exact ⟨k9, h9⟩) pre x suf hsplit
    (fun z hz => by
      rcases hpass z hz with h | ⟨hz0, nm, hl1, hn1⟩
      · exact Or.inl h
      · obtain ⟨c6, hc6, hcl6⟩ := Cond.classLink_spec hown hl1 e.platform hpl
        obtain ⟨a8, b8, h1, h2, h3⟩ := hn1
        cases Option.some.inj (h1.symm.trans hcl)
        cases Option.some.inj (h2.symm.trans hc6)
        exact Or.inr ⟨hz0, _, hcl6, h3⟩) hx (Or.inr ⟨h0, c4, hcl5, hasg⟩)
  obtain ⟨t, a1, b1⟩ := kk (T.setVm vm') hT X'
  exact ⟨t, st.trans a1, b1⟩
end Rows
section Ends
variable {p : Program} {l : Launch} {e : Env} {R : Room} {s : State} {m : MethodId} {args : Array Value} {below : List Frame} {meth : Method} {c : Code} {H : Heap} {locs : List Loc} {cells slots : Nat} {Q : State → Prop}
variable {mc ms : Nat} {free : Addr → Prop} {A0 A1 : Nat → Prop} {H0 : Heap} {a : Array Value} {ls : Array Slot} {st0 rest : List Value}
variable {Qc : Array Value → State → Outcome → State → Prop} {XC : String → State → State → Prop}
/-- what a body that may throw owes at its end -/
def vx_MQ (below : List Frame) (Qc : Array Value → State → Outcome → State → Prop) (XC : String → State → State → Prop) (a : Array Value) (s : State) (mc ms : Nat) (free : Addr → Prop) : State → Prop := fun t =>
  ∃ o, t.status = .running ∧ Ended t below o ∧ vx_Q Qc XC mc ms free a s o t
theorem vx_ret {g : JFrame} {mc ms : Nat} (k : W p l e R s m args below meth c H locs cells slots (MQ below Qc args s mc ms free) g) : W p l e R s m args below meth c H locs cells slots (vx_MQ below Qc XC args s mc ms free) g := by
  intro T hT X
  obtain ⟨t, a1, o, b1, b2, b3, b4⟩ := k T hT X
  exact ⟨t, a1, o, b1, b2, Or.inl ⟨b3, b4⟩⟩
/-- not caught here: it goes on to the caller -/
theorem vx_widen {g : JFrame} {q : Addr} {k n : Nat} (h1 : cells ≤ k) (h2 : slots ≤ n) (kk : vx_W p l e R s m args below meth c H locs k n Q g q) : vx_W p l e R s m args below meth c H locs cells slots Q g q := fun T hT X => kk T hT (stand_widen X h1 h2)
theorem vx_out {pc : Nat} {E : String} {ce : Cell} {q : Addr} {mc ms : Nat} (hout : ∀ x ∈ c.exceptionTable.toList, covers x pc = false) (hlocks : meth.locks = false) (hcell : H[q]? = some ce) (hv : ce.vm = .none) (hcl : s.vm.findClass E = some ce.cls)
    (hx : ∀ t : State, t.heap = H → s.vm.Alike t.vm → XC E s t) (hf : ∀ z ∈ locs, free z.base) (hc : cells ≤ mc) (hs : slots ≤ ms) :
    vx_W p l e R s m args below meth c H locs cells slots (vx_MQ below Qc XC args s mc ms free) (F0 m pc ls rest) q := by
  intro T hT X
  obtain ⟨st1, hrun, hend, hW, hsm⟩ := X.leaveThrown q (g := F0 m pc ls rest) rfl rfl rfl hout hlocks
  have hcell9 : (T.setFrames (.throwing q :: below)).heap[q]? = some ce := by
    show T.heap[q]? = some ce
    rw [hT]; exact hcell
  exact ⟨_, st1, .threw q, hrun, hend, Or.inr ⟨q, rfl, E, ce, locs, hx _ hT hW.alike, hcell9, hv, hcl, hW, hsm.mono hc hs, hf⟩⟩
theorem vx_frame {U : State} {k n : Nat} (h : s.sameButNew ({ U with vm := s.vm } : State) locs k n) : s.heap.size ≤ U.heap.size ∧ ∀ q : Nat, q < s.heap.size → (∀ z ∈ locs, z.base ≠ q) → U.heap[q]? = s.heap[q]? := by
  obtain ⟨-, h2, -, -, -, h6⟩ := h
  refine ⟨h2, fun q hq hz => ?_⟩
  obtain ⟨c9, e1, e2, e3, e4⟩ := h6 q _ (Array.getElem?_eq_getElem hq)
  have hs : c9.slots = (s.heap[q]).slots := Array.ext_getElem? fun i => e4 i fun hm => hz _ hm rfl
  have h9 : c9 = s.heap[q] := by
    rw [hs] at e2
    exact e2
  have e5 : U.heap[q]? = some c9 := e1
  rw [e5, h9, Array.getElem?_eq_getElem hq]
/-- the words of a throw but the four that speak of the heap -/
def vx_no (w : Cond) : Bool := decide (w ≠ .isRef (.static Bundle.tN "UNASSIGNED_STACK" Bundle.steD)) && decide (w ≠ .isRef (.static Bundle.tN "SUPPRESSED_SENTINEL" Bundle.listD)) && decide (w ≠ .laysStatic Bundle.tN "UNASSIGNED_STACK" Bundle.steD) && decide (w ≠ .laysStatic Bundle.tN "SUPPRESSED_SENTINEL" Bundle.listD)
def vx_at0 (own : String) (ic : Nat) (X : String) (names : List String) : List Cond := (Bundle.ownAtoms0 own ic X names).filter vx_no
def vx_atS (own : String) (ic : Nat) (X : String) (names : List String) : List Cond := (Bundle.ownAtoms own ic X names).filter vx_no
/-- a word that the tables alone decide, or a good one -/
def vx_ot (w : Cond) : Bool := w.onTables || goodWord w
theorem vx_ot_at {args a' : Array Value} {s U : State} {w : Cond} (hW : s.WarmedH U.vm) (hvm : s.vm = U.vm) (hg : vx_ot w = true) (h : w.before args s = true) : w.before a' U = true := by
  simp only [vx_ot, Bool.or_eq_true] at hg
  rcases hg with hg | hg
  · exact va_tabs hg hvm h
  · exact word_at hW (good_of_word hg) h
/-- a list's words: the good ones out of the method's own list, the others by premises of their own -/
theorem vx_hat {args : Array Value} {s : State} {L B : List Cond} (h1 : ∀ w ∈ L.filter goodWord, w.before args s = true) (h2 : ∀ w ∈ L.filter (fun w => !goodWord w), w ∈ B) (h3 : ∀ w ∈ B, w.before args s = true) : ∀ w ∈ L, w.before args s = true := by
  intro w hw
  by_cases g : goodWord w = true
  · exact h1 w (List.mem_filter.mpr ⟨hw, g⟩)
  · refine h3 w (h2 w (List.mem_filter.mpr ⟨hw, ?_⟩))
    show (!goodWord w) = true
    cases hgw : goodWord w
    · rfl
    · exact absurd hgw g
theorem vx_c {args : Array Value} {s : State} {w : Cond} {B : List Cond} (h : w.before args s = true) (t : ∀ w ∈ B, w.before args s = true) : ∀ w' ∈ w :: B, w'.before args s = true := fun w' h' => (List.mem_cons.mp h').elim (fun e => by rw [e]; exact h) (t w')
theorem vx_n {args : Array Value} {s : State} : ∀ w ∈ ([] : List Cond), w.before args s = true := fun _ h => nomatch h
theorem vx_own {args : Array Value} {s : State} {L : List Cond} (h1 : ∀ w ∈ L.filter vx_no, w.before args s = true)
    (hU : (Cond.isRef (.static Bundle.tN "UNASSIGNED_STACK" Bundle.steD)).before args s = true) (hN : (Cond.isRef (.static Bundle.tN "SUPPRESSED_SENTINEL" Bundle.listD)).before args s = true)
    (lU : (Cond.laysStatic Bundle.tN "UNASSIGNED_STACK" Bundle.steD).before args s = true) (lN : (Cond.laysStatic Bundle.tN "SUPPRESSED_SENTINEL" Bundle.listD).before args s = true) : ∀ w ∈ L, w.before args s = true := by
  intro w hw
  by_cases e1 : w = .isRef (.static Bundle.tN "UNASSIGNED_STACK" Bundle.steD)
  · rw [e1]; exact hU
  · by_cases e2 : w = .isRef (.static Bundle.tN "SUPPRESSED_SENTINEL" Bundle.listD)
    · rw [e2]; exact hN
    · by_cases e3 : w = .laysStatic Bundle.tN "UNASSIGNED_STACK" Bundle.steD
      · rw [e3]; exact lU
      · by_cases e4 : w = .laysStatic Bundle.tN "SUPPRESSED_SENTINEL" Bundle.listD
        · rw [e4]; exact lN
        · exact h1 w (List.mem_filter.mpr ⟨hw, by unfold vx_no; rw [decide_eq_true e1, decide_eq_true e2, decide_eq_true e3, decide_eq_true e4]; rfl⟩)
/-- where a static field lies, its class's statics cell in H -/
def vx_L (C n d : String) (A : Nat → Prop) (U : State) (H : Heap) : Prop := ∃ (c : ClassId) (k : Class) (i : Nat) (f : Field) (a : Nat) (cell : Cell), U.vm.findClass C = some c ∧ U.fieldFound? C n d = some (c, k, i, f) ∧ f.isStatic = true ∧ k.statics = some a ∧ H[a]? = some cell ∧ cell.vm.isStatics = true ∧ cell.cls = c ∧ f.slot < cell.slots.size ∧ k.staticTypes[f.slot]? = some f.type ∧ ¬ A a
theorem vx_L.moved {C n d : String} {A : Nat → Prop} {u U : State} {H : Heap} (hvm : u.vm.Alike U.vm) (h : vx_L C n d A u H) : vx_L C n d A U H := by
  obtain ⟨c, k, i, f, a, cell, h1, h2, h3, h4, h5, h6, h7, h8, h9, h10⟩ := h
  obtain ⟨k', hi', he⟩ := State.fieldFound?_setVm hvm h2
  exact ⟨c, k', i, f, a, cell, by rw [hvm.findClass]; exact h1, hi', h3, by rw [he]; exact h4, h5, h6, h7, h8, by rw [he]; exact h9, h10⟩
theorem vx_L.kept {C n d : String} {A : Nat → Prop} {U : State} {H H1 : Heap} (h : vx_L C n d A U H) (hq : ∀ a : Nat, a < H.size → ¬ A a → H1[a]? = H[a]?) : vx_L C n d A U H1 := by
  obtain ⟨c, k, i, f, a, cell, h1, h2, h3, h4, h5, h6, h7, h8, h9, h10⟩ := h
  exact ⟨c, k, i, f, a, cell, h1, h2, h3, h4, by rw [hq a (Array.getElem?_eq_some_iff.mp h5).1 h10]; exact h5, h6, h7, h8, h9, h10⟩
theorem vx_L.narrow {C n d : String} {A B : Nat → Prop} {U : State} {H : Heap} (h : vx_L C n d A U H) (hAB : ∀ q, B q → A q) : vx_L C n d B U H := by
  obtain ⟨c, k, i, f, a, cell, h1, h2, h3, h4, h5, h6, h7, h8, h9, h10⟩ := h
  exact ⟨c, k, i, f, a, cell, h1, h2, h3, h4, h5, h6, h7, h8, h9, fun z => h10 (hAB _ z)⟩
theorem vx_L.word {C n d : String} {A : Nat → Prop} {s : State} {args : Array Value} (h : vx_L C n d A s s.heap) : (Cond.laysStatic C n d).before args s = true := by
  obtain ⟨c, k, i, f, a, cell, h1, h2, h3, h4, h5, h6, h7, h8, h9, -⟩ := h
  show (Cond.laysStatic C n d).holds args s none s [] = true
  exact Cond.laysStatic_of h1 h2 h3 h4 h5 h6 h7 h8 h9
/-- .. and what it holds: null or some reference -/
def vx_Zq (C n d : String) (A : Nat → Prop) (U : State) (H : Heap) : Prop := va_Zq C n d A U H ∧ vx_L C n d A U H
theorem vx_Zq.moved {C n d : String} {A : Nat → Prop} {u U : State} {H : Heap} (hvm : u.vm.Alike U.vm) (h : vx_Zq C n d A u H) : vx_Zq C n d A U H := ⟨va_Zq.moved hvm h.1, vx_L.moved hvm h.2⟩
theorem vx_Zq.kept {C n d : String} {A : Nat → Prop} {U : State} {H H1 : Heap} (h : vx_Zq C n d A U H) (hq : ∀ a : Nat, a < H.size → ¬ A a → H1[a]? = H[a]?) : vx_Zq C n d A U H1 := ⟨va_Zq.kept h.1 hq, vx_L.kept h.2 hq⟩
theorem vx_Zq.narrow {C n d : String} {A B : Nat → Prop} {U : State} {H : Heap} (h : vx_Zq C n d A U H) (hAB : ∀ q, B q → A q) : vx_Zq C n d B U H := ⟨va_Zq.narrow h.1 hAB, vx_L.narrow h.2 hAB⟩
theorem vx_Zqof {args : Array Value} {s : State} {C n d : String} {A : Nat → Prop} (hl : (Cond.laysStatic C n d).before args s = true) (hini : (Cond.initialized C).before args s = true) (h : (Cond.isRef (.static C n d)).before args s = true) (hA : ∀ a : Nat, a < s.heap.size → ¬ A a) : vx_Zq C n d A s s.heap := by
  refine ⟨va_Zqof hl hini h hA, ?_⟩
  obtain ⟨c, k, i, f, a, cell, h1, h2, h3, h4, h5, h6, h7, h8, h9⟩ := Cond.laysStatic_spec hl
  exact ⟨c, k, i, f, a, cell, h1, h2, h3, h4, h5, h6, h7, h8, h9, hA a (Array.getElem?_eq_some_iff.mp h5).1⟩
theorem vx_isRef {C n d : String} {v : Value} {A : Nat → Prop} {s : State} {args : Array Value} (h : va_Z C n d v A s s.heap) (hv : v.isRef = true) : (Cond.isRef (.static C n d)).before args s = true := by
  obtain ⟨cf, kf, fi, f, a, cell, h1, h2, h3, h4, h5, h6, h7, -⟩ := h
  have he : (Term.static C n d).eval args s none [] s = some v := by
    simp [Term.eval, State.fieldNamed?, h1, h2, h4, h5, h6, h7]
  simp only [Cond.before, Cond.holds, Cond.value, he]
  cases v <;> simp_all [Value.isRef]
theorem vx_isRefq {C n d : String} {A : Nat → Prop} {s : State} {args : Array Value} (h : va_Zq C n d A s s.heap) : (Cond.isRef (.static C n d)).before args s = true := by
  rcases h with h | ⟨t, h⟩
  · exact vx_isRef h rfl
  · exact vx_isRef h rfl
/-- the same frame, seen from here: as if the method were called anew in this heap -/
theorem vx_rebase {T : State} (X : Stand p l e R s m args below meth c T locs cells slots) {R' : Room} (hf : R'.frames ≤ R.frames) (hl : R'.locals ≤ R.locals) (hc : cells + R'.cells ≤ R.cells) (hs : slots + R'.slots ≤ R.slots) :
    Stand p l e R' ((T.setVm s.vm).setFrames (.invoking m args :: below)) m args below meth c T [] 0 0 := by
  have htop : (T.setVm s.vm).topJava?.isSome := X.here.top
  have hF : ((T.setVm s.vm).setFrames (.invoking m args :: below)).frames = .invoking m args :: below := State.frames_setFrames _ (State.cur_lt_of_top htop)
  obtain ⟨g₀, hg0⟩ := Option.isSome_iff_exists.mp htop
  obtain ⟨r, hr⟩ := State.topJava?_eq_some.mp hg0
  have hl9 : e.platform.stackLimits (T.setVm s.vm).me = e.platform.stackLimits s.me := X.limits
  have hb9 : (T.setVm s.vm).me.stackBytes = s.me.stackBytes := X.bytes
  refine ⟨X.admits, X.cas, X.clock, hF, ?_, X.hears, X.method, X.code, X.here, X.tail, X.warmed, ?_, ?_, ?_⟩
  · have h := X.room
    have hU : ((T.setVm s.vm).setFrames (.invoking m args :: below)).localsInUse = s.localsInUse := by
      rw [State.localsInUse_invoking hF (meth := meth) (c := c) X.method X.code, State.localsInUse_invoking X.frames X.method X.code]
    simp only [State.hasRoom, Bool.and_eq_true, decide_eq_true_eq] at h ⊢
    obtain ⟨⟨⟨⟨h1, h2, h3, h4, h5, h6⟩, h7⟩, h8⟩, h9⟩ := h
    rw [X.frames, List.length_cons] at h2 h3
    have q1 := X.heapSize
    have q2 := X.used
    simp only [hF, hU, List.length_cons, State.stackLimits_setFrames, State.stackBytes_setFrames, hl9, hb9]
    refine ⟨⟨⟨⟨by omega, by omega, by omega, by omega, by omega, h6⟩, ?_⟩, ?_⟩, X.book⟩
    · show T.heap.size + R'.cells ≤ e.platform.maxCells
      omega
    · show T.slotsUsed + R'.slots ≤ e.platform.maxSlots
      omega
  · rw [State.stackLimits_setFrames]; rfl
  · rw [State.stackBytes_setFrames]; rfl
  · refine ⟨?_, Nat.le_refl _, Nat.le_refl _, ?_, ?_, fun a c9 h9 => ⟨c9, h9, rfl, rfl, fun _ _ => rfl⟩⟩
    · obtain ⟨t, ht, -⟩ := State.frames_cons hr
      show T.setVm s.vm = { ((T.setVm s.vm).setFrames (.invoking m args :: below)).setFrames (T.setVm s.vm).frames with heap := T.heap, slotsUsed := T.slotsUsed }
      rw [State.setFrames_setFrames, State.setFrames_self ht]
      rfl
    · show T.slotsUsed = T.slotsUsed + ((T.heap.toList.drop T.heap.size).map (·.slots.size)).sum
      rw [List.drop_eq_nil_of_le (Nat.le_of_eq Array.length_toList)]
      rfl
    · show ((T.heap.toList.drop T.heap.size).map (·.slots.size)).sum ≤ 0
      rw [List.drop_eq_nil_of_le (Nat.le_of_eq Array.length_toList)]
      exact Nat.le_refl _
/-- 'throw new E()': new; dup; invokespecial; athrow -/
theorem vx_throw0 {cc : ByteArray} {pc : Nat} (hexec : p.tables.exec = Jvm.exec) (hb : c.code = cc) (hl : l.stackTraces = false) {own cls : String} {names : List String} {ik ic mc ms : Nat} {A : Nat → Prop}
    (hown : s.vm.findClass own = some m.cls) (hcls : Bundle.fit cls = true) (hnames : ∀ n ∈ names, Bundle.fit n = true)
    (hk : (Cond.classLink own ik cls).before args s = true) (hini : (Cond.initialized cls).before args s = true) (hat : ∀ w ∈ vx_at0 own ic cls names, w.before args s = true)
    (hgood : ∀ w ∈ Cond.classLink own ik cls :: Cond.initialized cls :: vx_at0 own ic cls names, vx_ot w = true)
    (hU : vx_Zq Bundle.tN "UNASSIGNED_STACK" Bundle.steD A s s.heap) (hN : vx_Zq Bundle.tN "SUPPRESSED_SENTINEL" Bundle.listD A s s.heap) (hS : va_S A s.heap H locs) (hsize : ls.size = c.maxLocals)
    (d0 : decode cc pc = .ok (.new ik, 3)) (d3 : decode cc (pc + 3) = .ok (.dup, 1)) (d4 : decode cc (pc + 4) = .ok (.invokespecial ic, 3)) (d7 : decode cc (pc + 7) = .ok (.athrow, 1))
    (hout : ∀ x ∈ c.exceptionTable.toList, covers x (pc + 7) = false)
    (hRframes : names.length + 3 < R.frames) (hRlocals : (rest.map fun v => v.category).sum + (13 * (names.length + 1) + 42) ≤ R.locals) (hRcells : cells + 1 ≤ R.cells) (hRslots : slots + 6 ≤ R.slots) (hlocks : meth.locks = false)
    (hx : ∀ t : State, s.vm.Alike t.vm → H.size ≤ t.heap.size → (∀ q : Nat, q < H.size → t.heap[q]? = H[q]?) → XC cls s t)
    (hf : ∀ z ∈ locs, free z.base) (hc : cells + 1 ≤ mc) (hs : slots + 6 ≤ ms) :
    W p l e R s m args below meth c H locs cells slots (vx_MQ below Qc XC args s mc ms free) (F0 m pc ls rest) := by
  intro T hT X
  have htr : e.platform.stackTraces = false := (show e.platform.stackTraces = l.stackTraces by rw [X.admits.platform]).trans hl
  have Y := vx_rebase X (R' := { frames := R.frames, locals := R.locals, cells := 1, slots := 6 }) (Nat.le_refl _) (Nat.le_refl _) hRcells hRslots
  obtain ⟨s', hA⟩ : ∃ z, z = (T.setVm s.vm).setFrames (.invoking m args :: below) := ⟨_, rfl⟩
  rw [← hA] at Y
  have hvm : s'.vm = s.vm := by rw [hA]; rfl
  have hhp : s'.heap = H := by rw [hA]; exact hT
  have hW0 : s.WarmedH s'.vm := by rw [hvm]; exact State.WarmedH.refl s
  have hat' : ∀ w ∈ vx_at0 own ic cls names, w.before args s' = true := fun w hw => vx_ot_at hW0 hvm.symm (hgood w (List.mem_cons_of_mem _ (List.mem_cons_of_mem _ hw))) (hat w hw)
  have hk' : (Cond.classLink own ik cls).before args s' = true := vx_ot_at hW0 hvm.symm (hgood _ List.mem_cons_self) hk
  have hini' : (Cond.initialized cls).before args s' = true := vx_ot_at hW0 hvm.symm (hgood _ (List.mem_cons_of_mem _ List.mem_cons_self)) hini
  have hU' : vx_Zq Bundle.tN "UNASSIGNED_STACK" Bundle.steD A s' s'.heap := by rw [hhp]; exact vx_Zq.moved hW0.alike (hU.kept hS.2.1)
  have hN' : vx_Zq Bundle.tN "SUPPRESSED_SENTINEL" Bundle.listD A s' s'.heap := by rw [hhp]; exact vx_Zq.moved hW0.alike (hN.kept hS.2.1)
  have h : ∀ w ∈ Bundle.ownAtoms0 own ic cls names, w.before args s' = true := vx_own hat' (vx_isRefq hU'.1) (vx_isRefq hN'.1) hU'.2.word hN'.2.word
  have hown' : s'.vm.findClass own = some m.cls := by rw [hvm]; exact hown
  have hins : (Cond.instantiable cls 6).before args s' = true := h _ (by simp [Bundle.ownAtoms0])
  obtain ⟨vm₁, cX, kX, hfX, hkX, -, -, X₁, st1⟩ := Y.newCold hexec (own := own) (C := cls) (index := ik) (n := 6) hown' hk' hins hini'
    (g := F0 m pc ls rest) rfl (by rw [hb]; exact d0) (Nat.le_refl _) (Nat.le_refl _)
  generalize hT1 : (T.setVm vm₁).pushCell { cls := cX, slots := kX.instanceTypes.map defaultValue, vm := .none } = T1 at X₁ st1
  have hcat : (Value.ref T.heap.size).category = 1 := rfl
  have hcellA : T1.heap[T.heap.size]? = some (freshCell cX kX) := by rw [← hT1]; exact State.heap_pushCell_size _ _
  have d3' : decode c.code (pc + 3) = .ok (.dup, 1) := by rw [hb]; exact d3
  obtain ⟨U, hsteps, hrun, hend, hW, hsame, ce, hce, hO⟩ := X₁.ctorThrow0 hexec htr (own := own) (cls := cls) (names := names) (ic := ic) hown' hcls hnames h (fun x hx => nomatch hx) hfX hkX hcellA (by rw [hhp, hT]; exact Nat.le_refl _)
    (g := { method := m, pc := pc + 4, locals := ls, stack := .ref T.heap.size :: .ref T.heap.size :: rest, locked := none }) rfl hsize rfl rfl (rest := rest) rfl
    (by rw [hb]; exact d4) (by rw [hb]; exact d7) hout hRframes (by simp only [List.map_cons, List.sum_cons, hcat]; omega) hlocks
  obtain ⟨f1, f2⟩ := vx_frame hsame
  rw [hhp] at f1 f2
  have hWs : s.WarmedH U.vm := State.WarmedH.trans hW0 hW
  have hcl : s.vm.findClass cls = some ce.cls := by
    have h9 := hO.cls
    rw [hvm] at h9
    exact h9
  have hall : s.sameButNew ({ U with vm := s.vm } : State) locs mc ms := by
    subst hA
    obtain ⟨e1, e2⟩ := hsame
    rw [State.setFrames_setFrames] at e1
    have h2 : (T.setVm s.vm).sameButNew ({ U with vm := s.vm } : State) [] (0 + 1) (0 + 6) := ⟨e1, e2⟩
    have h3 := X.same.trans h2
    rw [List.append_nil] at h3
    exact h3.mono hc hs
  refine ⟨U, ?_, .threw T.heap.size, hrun, hend, Or.inr ⟨T.heap.size, rfl, cls, ce, locs, hx U hWs.alike f1 (fun q hq => f2 q hq (fun z hz => nomatch hz)), hce, hO.vm, hcl, hWs, hall, hf⟩⟩
  refine st1 _ ?_
  show Steps p.tables e below (T1.setTop { method := m, pc := pc + 3, locals := ls, stack := .ref T.heap.size :: rest, locked := none }) _
  jvm_step X₁.here [X₁.here.top, hexec, d3', Value.category]
  exact hsteps
/-- 'throw new E("text")': new; dup; ldc; invokespecial; athrow -/
theorem vx_throwS {cc : ByteArray} {pc : Nat} (hexec : p.tables.exec = Jvm.exec) (hb : c.code = cc) (hl : l.stackTraces = false) {own cls text : String} {names : List String} {ik is ic mc ms sa : Nat} {A : Nat → Prop}
    (hown : s.vm.findClass own = some m.cls) (hcls : Bundle.fit cls = true) (hnames : ∀ n ∈ names, Bundle.fit n = true)
    (hk : (Cond.classLink own ik cls).before args s = true) (hini : (Cond.initialized cls).before args s = true) (hstr : vk_R own is text sa s) (hat : ∀ w ∈ vx_atS own ic cls names, w.before args s = true)
    (hgood : ∀ w ∈ Cond.classLink own ik cls :: Cond.initialized cls :: vx_atS own ic cls names, vx_ot w = true)
    (hU : vx_Zq Bundle.tN "UNASSIGNED_STACK" Bundle.steD A s s.heap) (hN : vx_Zq Bundle.tN "SUPPRESSED_SENTINEL" Bundle.listD A s s.heap) (hS : va_S A s.heap H locs) (hsize : ls.size = c.maxLocals)
    (d0 : decode cc pc = .ok (.new ik, 3)) (d3 : decode cc (pc + 3) = .ok (.dup, 1)) (d4 : decode cc (pc + 4) = .ok (.ldc is, 2)) (d6 : decode cc (pc + 6) = .ok (.invokespecial ic, 3)) (d9 : decode cc (pc + 9) = .ok (.athrow, 1))
    (hout : ∀ x ∈ c.exceptionTable.toList, covers x (pc + 9) = false)
    (hRframes : names.length + 3 < R.frames) (hRlocals : (rest.map fun v => v.category).sum + (13 * (names.length + 1) + 43) ≤ R.locals) (hRcells : cells + 1 ≤ R.cells) (hRslots : slots + 6 ≤ R.slots) (hlocks : meth.locks = false)
    (hx : ∀ t : State, s.vm.Alike t.vm → H.size ≤ t.heap.size → (∀ q : Nat, q < H.size → t.heap[q]? = H[q]?) → XC cls s t)
    (hf : ∀ z ∈ locs, free z.base) (hc : cells + 1 ≤ mc) (hs : slots + 6 ≤ ms) :
    W p l e R s m args below meth c H locs cells slots (vx_MQ below Qc XC args s mc ms free) (F0 m pc ls rest) := by
  intro T hT X
  have htr : e.platform.stackTraces = false := (show e.platform.stackTraces = l.stackTraces by rw [X.admits.platform]).trans hl
  have Y := vx_rebase X (R' := { frames := R.frames, locals := R.locals, cells := 1, slots := 6 }) (Nat.le_refl _) (Nat.le_refl _) hRcells hRslots
  obtain ⟨s', hA⟩ : ∃ z, z = (T.setVm s.vm).setFrames (.invoking m args :: below) := ⟨_, rfl⟩
  rw [← hA] at Y
  have hvm : s'.vm = s.vm := by rw [hA]; rfl
  have hhp : s'.heap = H := by rw [hA]; exact hT
  have hW0 : s.WarmedH s'.vm := by rw [hvm]; exact State.WarmedH.refl s
  have hat' : ∀ w ∈ vx_atS own ic cls names, w.before args s' = true := fun w hw => vx_ot_at hW0 hvm.symm (hgood w (List.mem_cons_of_mem _ (List.mem_cons_of_mem _ hw))) (hat w hw)
  have hk' : (Cond.classLink own ik cls).before args s' = true := vx_ot_at hW0 hvm.symm (hgood _ List.mem_cons_self) hk
  have hini' : (Cond.initialized cls).before args s' = true := vx_ot_at hW0 hvm.symm (hgood _ (List.mem_cons_of_mem _ List.mem_cons_self)) hini
  have hU' : vx_Zq Bundle.tN "UNASSIGNED_STACK" Bundle.steD A s' s'.heap := by rw [hhp]; exact vx_Zq.moved hW0.alike (hU.kept hS.2.1)
  have hN' : vx_Zq Bundle.tN "SUPPRESSED_SENTINEL" Bundle.listD A s' s'.heap := by rw [hhp]; exact vx_Zq.moved hW0.alike (hN.kept hS.2.1)
  have h : ∀ w ∈ Bundle.ownAtoms own ic cls names, w.before args s' = true := vx_own hat' (vx_isRefq hU'.1) (vx_isRefq hN'.1) hU'.2.word hN'.2.word
  have hown' : s'.vm.findClass own = some m.cls := by rw [hvm]; exact hown
  have hins : (Cond.instantiable cls 6).before args s' = true := h _ (by simp [Bundle.ownAtoms])
  obtain ⟨vm₁, cX, kX, hfX, hkX, -, -, X₁, st1⟩ := Y.newCold hexec (own := own) (C := cls) (index := ik) (n := 6) hown' hk' hins hini'
    (g := F0 m pc ls rest) rfl (by rw [hb]; exact d0) (Nat.le_refl _) (Nat.le_refl _)
  generalize hT1 : (T.setVm vm₁).pushCell { cls := cX, slots := kX.instanceTypes.map defaultValue, vm := .none } = T1 at X₁ st1
  have hcat : (Value.ref T.heap.size).category = 1 := rfl
  have hcellA : T1.heap[T.heap.size]? = some (freshCell cX kX) := by rw [← hT1]; exact State.heap_pushCell_size _ _
  have d3' : decode c.code (pc + 3) = .ok (.dup, 1) := by rw [hb]; exact d3
  have d4' : decode c.code (pc + 4) = .ok (.ldc is, 2) := by rw [hb]; exact d4
  have hstr' : vk_R own is text sa s' := vk_R.warm hW0 hstr
  obtain ⟨U, hsteps, hrun, hend, hW, hsame, ce, hce, hO⟩ := X₁.ctorThrowS hexec htr (own := own) (cls := cls) (names := names) (ic := ic) hown' hcls hnames h (fun x hx => nomatch hx) hfX hkX hcellA (by rw [hhp, hT]; exact Nat.le_refl _) (msg := .ref sa) rfl
    (g := { method := m, pc := pc + 6, locals := ls, stack := .ref sa :: .ref T.heap.size :: .ref T.heap.size :: rest, locked := none }) rfl hsize rfl rfl (rest := rest) rfl
    (by rw [hb]; exact d6) (by rw [hb]; exact d9) hout hRframes (by simp only [List.map_cons, List.sum_cons, hcat]; omega) hlocks
  obtain ⟨f1, f2⟩ := vx_frame hsame
  rw [hhp] at f1 f2
  have hWs : s.WarmedH U.vm := State.WarmedH.trans hW0 hW
  have hcl : s.vm.findClass cls = some ce.cls := by
    have h9 := hO.cls
    rw [hvm] at h9
    exact h9
  have hall : s.sameButNew ({ U with vm := s.vm } : State) locs mc ms := by
    subst hA
    obtain ⟨e1, e2⟩ := hsame
    rw [State.setFrames_setFrames] at e1
    have h2 : (T.setVm s.vm).sameButNew ({ U with vm := s.vm } : State) [] (0 + 1) (0 + 6) := ⟨e1, e2⟩
    have h3 := X.same.trans h2
    rw [List.append_nil] at h3
    exact h3.mono hc hs
  refine ⟨U, ?_, .threw T.heap.size, hrun, hend, Or.inr ⟨T.heap.size, rfl, cls, ce, locs, hx U hWs.alike f1 (fun q hq => f2 q hq (fun z hz => nomatch hz)), hce, hO.vm, hcl, hWs, hall, hf⟩⟩
  refine st1 _ ?_
  show Steps p.tables e below (T1.setTop { method := m, pc := pc + 3, locals := ls, stack := .ref T.heap.size :: rest, locked := none }) _
  jvm_step X₁.here [X₁.here.top, hexec, d3', Value.category]
  exact X₁.ldcString hexec (own := own) (text := text) (index := is) (a := sa) hown' hstr'.1 hstr'.2
    (g := { method := m, pc := pc + 4, locals := ls, stack := .ref T.heap.size :: .ref T.heap.size :: rest, locked := none }) rfl d4' _ hsteps
/-- 'throw new E("text")', the text by a wide index -/
theorem vx_throwSW {cc : ByteArray} {pc : Nat} (hexec : p.tables.exec = Jvm.exec) (hb : c.code = cc) (hl : l.stackTraces = false) {own cls text : String} {names : List String} {ik is ic mc ms sa : Nat} {A : Nat → Prop}
    (hown : s.vm.findClass own = some m.cls) (hcls : Bundle.fit cls = true) (hnames : ∀ n ∈ names, Bundle.fit n = true)
    (hk : (Cond.classLink own ik cls).before args s = true) (hini : (Cond.initialized cls).before args s = true) (hstr : vk_R own is text sa s) (hat : ∀ w ∈ vx_atS own ic cls names, w.before args s = true)
    (hgood : ∀ w ∈ Cond.classLink own ik cls :: Cond.initialized cls :: vx_atS own ic cls names, vx_ot w = true)
    (hU : vx_Zq Bundle.tN "UNASSIGNED_STACK" Bundle.steD A s s.heap) (hN : vx_Zq Bundle.tN "SUPPRESSED_SENTINEL" Bundle.listD A s s.heap) (hS : va_S A s.heap H locs) (hsize : ls.size = c.maxLocals)
    (d0 : decode cc pc = .ok (.new ik, 3)) (d3 : decode cc (pc + 3) = .ok (.dup, 1)) (d4 : decode cc (pc + 4) = .ok (.ldc_w is, 3)) (d7 : decode cc (pc + 7) = .ok (.invokespecial ic, 3)) (d10 : decode cc (pc + 10) = .ok (.athrow, 1))
    (hout : ∀ x ∈ c.exceptionTable.toList, covers x (pc + 10) = false)
    (hRframes : names.length + 3 < R.frames) (hRlocals : (rest.map fun v => v.category).sum + (13 * (names.length + 1) + 43) ≤ R.locals) (hRcells : cells + 1 ≤ R.cells) (hRslots : slots + 6 ≤ R.slots) (hlocks : meth.locks = false)
    (hx : ∀ t : State, s.vm.Alike t.vm → H.size ≤ t.heap.size → (∀ q : Nat, q < H.size → t.heap[q]? = H[q]?) → XC cls s t)
    (hf : ∀ z ∈ locs, free z.base) (hc : cells + 1 ≤ mc) (hs : slots + 6 ≤ ms) :
    W p l e R s m args below meth c H locs cells slots (vx_MQ below Qc XC args s mc ms free) (F0 m pc ls rest) := by
  intro T hT X
  have htr : e.platform.stackTraces = false := (show e.platform.stackTraces = l.stackTraces by rw [X.admits.platform]).trans hl
  have Y := vx_rebase X (R' := { frames := R.frames, locals := R.locals, cells := 1, slots := 6 }) (Nat.le_refl _) (Nat.le_refl _) hRcells hRslots
  obtain ⟨s', hA⟩ : ∃ z, z = (T.setVm s.vm).setFrames (.invoking m args :: below) := ⟨_, rfl⟩
  rw [← hA] at Y
  have hvm : s'.vm = s.vm := by rw [hA]; rfl
  have hhp : s'.heap = H := by rw [hA]; exact hT
  have hW0 : s.WarmedH s'.vm := by rw [hvm]; exact State.WarmedH.refl s
  have hat' : ∀ w ∈ vx_atS own ic cls names, w.before args s' = true := fun w hw => vx_ot_at hW0 hvm.symm (hgood w (List.mem_cons_of_mem _ (List.mem_cons_of_mem _ hw))) (hat w hw)
  have hk' : (Cond.classLink own ik cls).before args s' = true := vx_ot_at hW0 hvm.symm (hgood _ List.mem_cons_self) hk
  have hini' : (Cond.initialized cls).before args s' = true := vx_ot_at hW0 hvm.symm (hgood _ (List.mem_cons_of_mem _ List.mem_cons_self)) hini
  have hU' : vx_Zq Bundle.tN "UNASSIGNED_STACK" Bundle.steD A s' s'.heap := by rw [hhp]; exact vx_Zq.moved hW0.alike (hU.kept hS.2.1)
  have hN' : vx_Zq Bundle.tN "SUPPRESSED_SENTINEL" Bundle.listD A s' s'.heap := by rw [hhp]; exact vx_Zq.moved hW0.alike (hN.kept hS.2.1)
  have h : ∀ w ∈ Bundle.ownAtoms own ic cls names, w.before args s' = true := vx_own hat' (vx_isRefq hU'.1) (vx_isRefq hN'.1) hU'.2.word hN'.2.word
  have hown' : s'.vm.findClass own = some m.cls := by rw [hvm]; exact hown
  have hins : (Cond.instantiable cls 6).before args s' = true := h _ (by simp [Bundle.ownAtoms])
  obtain ⟨vm₁, cX, kX, hfX, hkX, -, -, X₁, st1⟩ := Y.newCold hexec (own := own) (C := cls) (index := ik) (n := 6) hown' hk' hins hini'
    (g := F0 m pc ls rest) rfl (by rw [hb]; exact d0) (Nat.le_refl _) (Nat.le_refl _)
  generalize hT1 : (T.setVm vm₁).pushCell { cls := cX, slots := kX.instanceTypes.map defaultValue, vm := .none } = T1 at X₁ st1
  have hcat : (Value.ref T.heap.size).category = 1 := rfl
  have hcellA : T1.heap[T.heap.size]? = some (freshCell cX kX) := by rw [← hT1]; exact State.heap_pushCell_size _ _
  have d3' : decode c.code (pc + 3) = .ok (.dup, 1) := by rw [hb]; exact d3
  have d4' : decode c.code (pc + 4) = .ok (.ldc_w is, 3) := by rw [hb]; exact d4
  have hstr' : vk_R own is text sa s' := vk_R.warm hW0 hstr
  obtain ⟨U, hsteps, hrun, hend, hW, hsame, ce, hce, hO⟩ := X₁.ctorThrowS hexec htr (own := own) (cls := cls) (names := names) (ic := ic) hown' hcls hnames h (fun x hx => nomatch hx) hfX hkX hcellA (by rw [hhp, hT]; exact Nat.le_refl _) (msg := .ref sa) rfl
    (g := { method := m, pc := pc + 7, locals := ls, stack := .ref sa :: .ref T.heap.size :: .ref T.heap.size :: rest, locked := none }) rfl hsize rfl rfl (rest := rest) rfl
    (by rw [hb]; exact d7) (by rw [hb]; exact d10) hout hRframes (by simp only [List.map_cons, List.sum_cons, hcat]; omega) hlocks
  obtain ⟨f1, f2⟩ := vx_frame hsame
  rw [hhp] at f1 f2
  have hWs : s.WarmedH U.vm := State.WarmedH.trans hW0 hW
  have hcl : s.vm.findClass cls = some ce.cls := by
    have h9 := hO.cls
    rw [hvm] at h9
    exact h9
  have hall : s.sameButNew ({ U with vm := s.vm } : State) locs mc ms := by
    subst hA
    obtain ⟨e1, e2⟩ := hsame
    rw [State.setFrames_setFrames] at e1
    have h2 : (T.setVm s.vm).sameButNew ({ U with vm := s.vm } : State) [] (0 + 1) (0 + 6) := ⟨e1, e2⟩
    have h3 := X.same.trans h2
    rw [List.append_nil] at h3
    exact h3.mono hc hs
  refine ⟨U, ?_, .threw T.heap.size, hrun, hend, Or.inr ⟨T.heap.size, rfl, cls, ce, locs, hx U hWs.alike f1 (fun q hq => f2 q hq (fun z hz => nomatch hz)), hce, hO.vm, hcl, hWs, hall, hf⟩⟩
  refine st1 _ ?_
  show Steps p.tables e below (T1.setTop { method := m, pc := pc + 3, locals := ls, stack := .ref T.heap.size :: rest, locked := none }) _
  jvm_step X₁.here [X₁.here.top, hexec, d3', Value.category]
  exact X₁.ldcStringW hexec (own := own) (text := text) (index := is) (a := sa) hown' hstr'.1 hstr'.2
    (g := { method := m, pc := pc + 4, locals := ls, stack := .ref T.heap.size :: .ref T.heap.size :: rest, locked := none }) rfl d4' _ hsteps
end Ends
section Bodies
variable {l : Launch}
theorem vx_ofW {y : MethodName} {ws ws' : List Cond} {rm : Room} {Pc : Array Value → State → Prop} {Qc : Array Value → State → Outcome → State → Prop} {XC : String → State → State → Prop} {mc ms : Nat} {free : Addr → Prop} {cc : ByteArray} {maxL : Nat} {ret : Option FieldType}
    (hy : plainName y.cls = true) (hw : ws = Cond.code y cc maxL ret :: ws')
    (body : ∀ p e s m args below meth c s₁, BodyLoose p l y (headSpec ws rm) cc maxL ret e s m args below meth c s₁ → c.maxLocals = maxL → (∀ x ∈ c.exceptionTable.toList, False) → Pc args s →
      W p l e (headSpec ws rm).room s m args below meth c s.heap [] 0 0 (vx_MQ below Qc XC args s mc ms free) (entryFrame m args maxL)) : vx_Met l y ws rm Pc Qc XC mc ms free := by
  refine MetFree.of_bodyS (code := cc) (maxLocals := maxL) (ret := ret) hy ?_ ?_
  · intro args s m h hn
    obtain ⟨meth, c, h1, h2, h3, h4, h5, h6, -, -⟩ := Cond.code_spec hn (atoms_spec (ws := ws) h _ (by rw [hw]; exact List.mem_cons_self))
    exact ⟨meth, c, h1, h2, h3, h4, h5, h6⟩
  · intro p e s m args below meth c s₁ B hml hP _
    have hh0 : s₁.heap = s.heap := by rw [B.state]; rfl
    have ht : ∀ x ∈ c.exceptionTable.toList, False := by
      obtain ⟨meth9, c9, h1, h2, -, -, -, -, h7, -⟩ := Cond.code_spec B.named (atoms_spec (ws := ws) B.pre _ (by rw [hw]; exact List.mem_cons_self))
      cases Option.some.inj (h1.symm.trans B.method)
      cases Option.some.inj (h2.symm.trans (Stand.of_body B).code)
      intro x hx
      rw [Array.isEmpty_iff.mp h7] at hx
      cases hx
    obtain ⟨t, a1, o, b1, b2, b3⟩ := body p e s m args below meth c s₁ B hml ht hP s₁ hh0 (Stand.of_body B)
    exact ⟨t, o, a1, b1, b2, b3⟩
/-- the table of a body with handlers -/
theorem vx_table {p : Program} {x y : MethodName} {S : Spec} {cc bytes : ByteArray} {maxL maxL' : Nat} {ret ret' : Option FieldType} {e : Env} {s s₁ : State} {m : MethodId} {args : Array Value} {below : List Frame} {meth : Method} {c : Code} {hh : List (Nat × Nat × Nat × Nat)}
    (B : BodyLoose p l y S cc maxL ret e s m args below meth c s₁) (h : (Cond.codeWith y bytes maxL' ret' hh).before args s = true) : c.exceptionTable.toList = tableOf hh := by
  obtain ⟨m9, meth9, c9, hn9, h1, h2, -, -, h6, -⟩ := Cond.codeWith_spec h
  cases Option.some.inj (hn9.symm.trans B.named)
  cases Option.some.inj (h1.symm.trans B.method)
  cases Option.some.inj (h2.symm.trans (Stand.of_body B).code)
  rw [← h6, table_eq]
end Bodies
end VXA
/-! ===== END ===== -/
/-! ===== BEGIN a static call of a method with an exception table ===== -/
section VXS
variable {p : Program} {l : Launch} {e : Env} {R : Room} {s : State} {m : MethodId} {args : Array Value} {below : List Frame} {meth : Method} {c : Code} {T : State} {H : Heap} {locs : List Loc} {cells slots : Nat}
abbrev vx_CSW (R : Room) (s : State) (args : Array Value) (own : String) (index : Nat) (y : MethodName) (bytes : ByteArray) (maxL : Nat) (ret : Option FieldType) (hh : List (Nat × Nat × Nat × Nat)) (ws : List Cond) (rm : Room) (mc ms n : Nat) : Prop :=
  (rm.cells = mc ∧ rm.slots = ms ∧ rm.frames + 1 ≤ R.frames ∧ 8 + (maxL + 11) + rm.locals ≤ R.locals ∧ (∀ w ∈ ws, ∀ (a' : Array Value) (U : State), s.WarmedH U.vm → w.before a' U = true) ∧ Cond.codeWith y bytes maxL ret hh ∈ ws) ∧
  (Cond.codeWith y bytes maxL ret hh).before args s = true ∧ (Cond.initialized y.cls).before args s = true ∧ (y.cls ≠ "java/lang/invoke/MethodHandle" ∧ y.cls ≠ "java/lang/invoke/VarHandle") ∧
  (∀ sig, parseMethodDescriptor y.desc = some sig → n = sig.parameters.length) ∧ (Cond.methodLink own index y).before args s = true ∧ (Cond.static y).before args s = true
theorem vx_cwSW {own : String} {index maxL mc ms : Nat} {y : MethodName} {bytes : ByteArray} {ret : Option FieldType} {hh : List (Nat × Nat × Nat × Nat)} {Ts ws ws' : List Cond} {rm : Room} (n : Nat) (ht : ∀ w ∈ Ts, w.before args s = true) (hT : GoodIn Ts (va_wsS own index y ws)) (hw : ws = Cond.codeWith y bytes maxL ret hh :: ws') (hrc : rm.cells = mc) (hrs : rm.slots = ms)
    (hd : y.cls ≠ "java/lang/invoke/MethodHandle" ∧ y.cls ≠ "java/lang/invoke/VarHandle" ∧ (parseMethodDescriptor y.desc).map (fun d => d.parameters.length) = some n) (hR : rm.frames + 1 ≤ R.frames ∧ 8 + (maxL + 11) + rm.locals ≤ R.locals) :
    vx_CSW R s args own index y bytes maxL ret hh ws rm mc ms n := by
  have ok : ∀ w ∈ va_wsS own index y ws, w.before args s = true := fun w h => ht w (hT w h).1
  have hG : GoodIn Ts ws := fun w h => hT w (by unfold va_wsS; exact List.mem_append_right _ h)
  have hc : Cond.codeWith y bytes maxL ret hh ∈ ws := by rw [hw]; exact List.mem_cons_self
  refine ⟨⟨hrc, hrs, hR.1, hR.2, pay_in ht hG, hc⟩, ht _ (hG _ hc).1, ok _ (by simp [va_wsS]), ⟨hd.1, hd.2.1⟩, fun sig h => ?_, ok _ (by simp [va_wsS]), ok _ (by simp [va_wsS])⟩
  have h2 := hd.2.2
  rw [h] at h2
  exact (Option.some.inj h2).symm
theorem vx_callSW (X : Stand p l e R s m args below meth c T locs cells slots) (hexec : p.tables.exec = Jvm.exec) {own : String} {index : Nat} {y : MethodName} {bytes : ByteArray} {maxL : Nat} {ret : Option FieldType} {hh : List (Nat × Nat × Nat × Nat)}
    (hown : s.vm.findClass own = some m.cls) (hlink : (Cond.methodLink own index y).before args s = true) (hstat : (Cond.static y).before args s = true) (hinit : (Cond.initialized y.cls).before args s = true)
    (hcode : (Cond.codeWith y bytes maxL ret hh).before args s = true) (hy : y.cls ≠ "java/lang/invoke/MethodHandle" ∧ y.cls ≠ "java/lang/invoke/VarHandle")
    {W9 : Nat} {Pre : Pt → Array Value → Prop} {Post : Pt → Array Value → Option Value → Pt → Prop} (hK : Back l R p e below s args y 3 W9 Pre Post)
    {g : JFrame} (hg : g.method = m) (hsize : g.locals.size = c.maxLocals) {argsL rest : List Value} (hlen : ∀ sig, parseMethodDescriptor y.desc = some sig → argsL.length = sig.parameters.length)
    (hstack : g.stack = argsL.reverse ++ rest) (hW : 2 * g.monitorRoom + (rest.map fun v => v.category).sum ≤ W9) (hdg : decode c.code g.pc = .ok (.invokestatic index, 3))
    (hpre : ∀ vm₁, s.WarmedH vm₁ → Pre ⟨T.setVm vm₁, locs, cells, slots⟩ argsL.toArray) :
    ∃ (v : Option Value) (vm₁ : Vm) (B : Pt), s.WarmedH vm₁ ∧ Stand p l e R s m args below meth c B.U B.locs B.cells B.slots ∧ Post ⟨T.setVm vm₁, locs, cells, slots⟩ argsL.toArray v B ∧
      ∀ target, Steps p.tables e below (B.U.setTop { g with pc := g.pc + 3, stack := v.toList ++ rest }) target → Steps p.tables e below (T.setTop g) target := by
  obtain ⟨mk, methM, cM, hnamed, hmethM, -, -, -, -, -, -, hsigM⟩ := Cond.codeWith_spec hcode
  have hstatic : methM.isStatic = true := Cond.static_spec hnamed hmethM hstat
  obtain ⟨kP, hkP, -⟩ := className_of_methodNamed hnamed
  have hinitP : kP.init = .initialized := Cond.initialized_spec (findClass_of_methodNamed hnamed) hkP hinit
  obtain ⟨vm₁, X₁, hstep₁⟩ := X.invokestatic hexec hown hlink hnamed hmethM hstatic hkP hinitP hy (g := g) hg (argsL := argsL) (rest := rest) (hlen _ hsigM) hstack hdg
  obtain ⟨v, B, X', hpost, hsteps⟩ := hK m meth c ⟨T.setVm vm₁, locs, cells, slots⟩ { g with stack := rest } (.invokestatic index) mk argsL.toArray X₁ hg hsize hdg hW (X₁.named hnamed) (hpre vm₁ X₁.warmed)
  exact ⟨v, vm₁, B, X₁.warmed, X', hpost, fun target h => hstep₁ _ fun acts => by rw [doInvoke_state]; exact hsteps.trans h⟩
theorem vx_runSW {y : MethodName} {bytes cc : ByteArray} {maxL nL mc ms n index : Nat} {ret : Option FieldType} {hh : List (Nat × Nat × Nat × Nat)} {ws : List Cond} {rm : Room} {Pc : Array Value → State → Prop} {Qc : Array Value → State → Outcome → State → Prop} {free : Addr → Prop} {Ts : List Cond} {own : String} {As rest : List Value} {g : JFrame}
    (S : CallFix p m c cc nL s args Ts own) (hM : Met l y ws rm Pc Qc mc ms free) (cw : vx_CSW R s args own index y bytes maxL ret hh ws rm mc ms n) (hp : PreS s H Pc As)
    (hg : g.method = m) (hn : As.length = n) (hsize : g.locals.size = nL) (hstack : g.stack = As.reverse ++ rest) (hW : 2 * g.monitorRoom + (rest.map fun v => v.category).sum ≤ 8) (hdg : decode cc g.pc = .ok (.invokestatic index, 3)) (hf : cells + mc ≤ R.cells ∧ slots + ms ≤ R.slots) :
    va_Run p l e R s m args below meth c H locs cells slots mc ms g rest (Qc As.toArray) (free) := by
  obtain ⟨⟨hrc, hrs, hfr, hlo, hws, hcw⟩, hcode, hini, hy, hlen, hl, hstt⟩ := cw
  have hK : Back l R p e below s args y 3 8 (PreOf R mc ms Pc) (PostOf Qc mc ms free) := va_backW (hh := hh) (bytes := bytes) (maxL := maxL) (ret := ret) hM hp.1 hrc hrs hfr hlo hws hcw (fun a' U hW => word_at hW (Or.inl (by first | rfl | simp [Cond.onTables, Cond.keeps, Cond.steady])) hini)
  obtain ⟨hx, hb, hml, ho, -⟩ := S
  intro T hT X
  obtain ⟨v, vm₁, ⟨U', l2, c2, s2⟩, hW₁, X', ⟨g', mk, t, L, e1, e2, hq, h1, hL, h2, h3⟩, st⟩ := vx_callSW X hx (hh := hh) (bytes := bytes) (maxL := maxL) (ret := ret) ho hl hstt hini hcode hy hK hg (hsize.trans hml.symm) (argsL := As) (rest := rest) (fun sig h => hn.trans (hlen sig h)) hstack hW (by rw [hb]; exact hdg)
    (fun vm₁ hW₁ => ⟨hf.1, hf.2, hp.2 (T.setVm vm₁) hT hW₁⟩)
  dsimp only [Pt.U, Pt.locs, Pt.cells, Pt.slots] at X' e1 e2 h1 h2 h3 st
  subst h1; subst h2; subst h3
  exact ⟨v, (T.setVm vm₁).calling g' mk As.toArray, t, U', L, hT, X', hL, e1, e2, hq, st⟩
/-- not caught here, past rows that name other classes: it goes on to the caller -/
theorem vx_outP {p : Program} {l : Launch} {e : Env} {R : Room} {s : State} {m : MethodId} {args : Array Value} {below : List Frame} {meth : Method} {c : Code} {H : Heap} {locs : List Loc} {cells slots : Nat} {free : Addr → Prop} {ls : Array Slot} {rest : List Value} {Qc : Array Value → State → Outcome → State → Prop} {XC : String → State → State → Prop}
    {pc : Nat} {own E : String} {ce : Cell} {q : Addr} {mc ms : Nat} (hown : s.vm.findClass own = some m.cls) (hlocks : meth.locks = false)
    (hpass : ∀ z ∈ c.exceptionTable.toList, covers z pc = false ∨ (z.catchType ≠ 0 ∧ ∃ nm : String, (Cond.classLink own z.catchType nm).before args s = true ∧ va_Nc E nm s)) (hcell : H[q]? = some ce) (hv : ce.vm = .none) (hcl : s.vm.findClass E = some ce.cls)
    (hx : ∀ t : State, t.heap = H → s.vm.Alike t.vm → XC E s t) (hf : ∀ z ∈ locs, free z.base) (hc : cells ≤ mc) (hs : slots ≤ ms) :
    vx_W p l e R s m args below meth c H locs cells slots (vx_MQ below Qc XC args s mc ms free) (F0 m pc ls rest) q := by
  intro T hT X
  have hpl : e.platform.magicAccessors = ({} : Platform).magicAccessors := by rw [X.admits.platform]
  obtain ⟨vm', hW', X', st⟩ := X.outThrough hlocks q (g := F0 m pc ls rest) rfl rfl rfl (cell := ce) (by rw [hT]; exact hcell) (by rw [hv]; rfl)
    (by obtain ⟨k9, h9, -⟩ := Vm.findClass_spec hcl; exact ⟨k9, h9⟩) (fun z hz => by
      rcases hpass z hz with h | ⟨hz0, nm, hl1, hn1⟩
      · exact Or.inl h
      · obtain ⟨c6, hc6, hcl6⟩ := Cond.classLink_spec hown hl1 e.platform hpl
        obtain ⟨a8, b8, h1, h2, h3⟩ := hn1
        cases Option.some.inj (h1.symm.trans hcl)
        cases Option.some.inj (h2.symm.trans hc6)
        exact Or.inr ⟨hz0, _, hcl6, h3⟩)
  obtain ⟨g₀, hfr⟩ := X'.frames_eq
  have hcell9 : ((T.setVm vm').setFrames (.throwing q :: below)).heap[q]? = some ce := by
    show T.heap[q]? = some ce
    rw [hT]; exact hcell
  have hend : Ended ((T.setVm vm').setFrames (.throwing q :: below)) below (.threw q) := State.frames_setFrames _ (State.cur_lt_of_frames hfr)
  refine ⟨(T.setVm vm').setFrames (.throwing q :: below), ?_, .threw q, X'.here.running, hend, Or.inr ⟨q, rfl, E, ce, locs, hx _ hT (X'.ends _).1.alike, hcell9, hv, hcl, (X'.ends _).1, (X'.ends _).2.mono hc hs, hf⟩⟩
  rw [X.pushThrowing_eq]
  exact st
/-- a thing of a world lies in the heap -/
theorem vx_lt {D : va_G} {cl : List vw_C} {ws : va_W} {H1 : Heap} (h : va_P D cl ws H1) {k : Nat} {q : Nat × va_E} (hk : ws[k]? = some q) : q.1 < H1.size := (h k q hk).lt
end VXS
/-! ===== END ===== -/
/-! ===== BEGIN methods with a table of their own: called by a name, returning or throwing ===== -/
section VXH
/-! vx_backW, vx_callVX, vx_callSX, vx_callVW, vx_runVW, vx_runVX, vx_runSX, vx_ofWH follow the same proofs as their sisters above (Free/Laws.lean, Shelf42/LK1.lean); vx_outP calls Shelf42/NT130.lean (outThrough). -/
section
variable {l : Launch} {R : Room} {p : Program} {e : Env} {below : List Frame} {s : State} {sargs : Array Value} {y : MethodName} {len W9 : Nat}
theorem vx_backW {ws : List Cond} {rm : Room} {Pc : Array Value → State → Prop} {Qc : Array Value → State → Outcome → State → Prop} {XC : String → State → State → Prop} {mc ms : Nat} {free : Addr → Prop} {bytes : ByteArray} {maxL : Nat} {ret : Option FieldType} {hh : List (Nat × Nat × Nat × Nat)}
    (hM : vx_Met l y ws rm Pc Qc XC mc ms free) (hblind : FrameBlind Pc) (hrc : rm.cells = mc) (hrs : rm.slots = ms)
    (hframes : rm.frames + 1 ≤ R.frames) (hlocals : W9 + (maxL + 11) + rm.locals ≤ R.locals)
    (hws : ∀ w ∈ ws, ∀ a' U, s.WarmedH U.vm → w.before a' U = true) (hcode : Cond.codeWith y bytes maxL ret hh ∈ ws) (hinit : ∀ a' U, s.WarmedH U.vm → (Cond.initialized y.cls).before a' U = true) :
    vx_Back l R p e below s sargs y len W9 (PreOf R mc ms Pc) (PostOf Qc mc ms free) (vx_Post XC mc ms free) := by
  intro m meth c A g ig mk a X hg hsize hdg hW hn hp
  have h1 : (headSpec ws rm).pre.before a A.U = true := atoms_intro fun w hw => hws w hw _ _ X.warmed
  have h2 : (Cond.codeWith y bytes maxL ret hh).before a A.U = true := hws _ hcode _ _ X.warmed
  have h3 : (Cond.initialized y.cls).before a A.U = true := hinit _ _ X.warmed
  have h4 : A.cells + (headSpec ws rm).room.cells ≤ R.cells := by rw [show (headSpec ws rm).room.cells = mc from hrc]; exact hp.1
  have h5 : A.slots + (headSpec ws rm).room.slots ≤ R.slots := by rw [show (headSpec ws rm).room.slots = ms from hrs]; exact hp.2.1
  have hPc : Pc a (A.U.calling g mk a) := hblind _ _ _ _ hp.2.2
  obtain ⟨U, Ls, c0, s0⟩ := A
  dsimp only [Pt.U, Pt.locs, Pt.cells, Pt.slots] at h1 h2 h3 h4 h5 X hn hPc ⊢
  obtain ⟨m9, methY, cY, hn9, hmY, hcY, -, hlY, -⟩ := Cond.codeWith_spec h2
  cases Option.some.inj (hn9.symm.trans hn)
  obtain ⟨kY, hkY, -⟩ := className_of_methodNamed hn
  have hinitY : kY.init = .initialized := Cond.initialized_spec (findClass_of_methodNamed hn) hkY h3
  have h : At U g.method c below := by rw [hg]; exact X.here
  have hlocals9 : W9 + (maxL + 11) + (headSpec ws rm).room.locals ≤ R.locals := hlocals
  have happ : (headSpec ws rm).appliesLoose y e.platform (U.calling g mk a) = true :=
    Spec.appliesLoose_calling (g := g) h hdg hn hkY hinitY
      (X.room_calling (g := g) (R' := (headSpec ws rm).room) hsize hmY hcY hframes (by rw [hlY]; omega) h4 h5) h1
  obtain ⟨mid, hmid⟩ := h.above
  have hfr : (U.setTop g).frames = (.java g :: mid) ++ below := by rw [State.frames_setTop' g h.top, hmid]; rfl
  obtain ⟨o, s₂, hsteps, -, hend, hq⟩ := Steps.callFree hM p X.admits X.cas X.clock (acts := []) hfr happ hPc trivial
  have hq' : vx_Q Qc XC mc ms free a (U.calling g mk a) o s₂ := hq
  rw [State.frames_setTop' g h.top] at hend
  obtain ⟨g₀, hg0⟩ := Option.isSome_iff_exists.mp h.top
  obtain ⟨r, hr⟩ := State.topJava?_eq_some.mp hg0
  have hr' : (({ U with heap := s₂.heap, slotsUsed := s₂.slotsUsed } : State).setVm s₂.vm).frames = .java g₀ :: r := hr
  rcases hq' with ⟨hqc, L, hfe, hL⟩ | ⟨q, rfl, E, ce, L, hx, hce, hcv, hcl, hW₂, hsm, hL⟩
  · obtain ⟨⟨v, rfl⟩, hW₂, e2, q2, q3, q4, q5, q6⟩ := id hfe
    have e3 : s₂ = ({ (U.calling g mk a).setFrames s₂.frames with heap := s₂.heap, slotsUsed := s₂.slotsUsed } : State).setVm s₂.vm := by
      have : s₂ = ({ s₂ with vm := (U.calling g mk a).vm } : State).setVm s₂.vm := rfl
      rw [e2] at this
      exact this
    obtain ⟨c₂, i₂, len₂, hc₂, hd₂, hf₂⟩ := hend
    have hW' : U.WarmedH s₂.vm := hW₂
    have hcc : c₂ = c := by
      have h1 : s₂.code? g.method = U.code? g.method := by
        rw [State.code?_eq, State.code?_eq, hW'.alike.method?]
      exact Option.some.inj (hc₂.symm.trans (h1.trans h.code))
    subst hcc
    have hlen : len₂ = len := by rw [hdg] at hd₂; cases hd₂; rfl
    subst hlen
    have hs₂ : s₂ = (({ U with heap := s₂.heap, slotsUsed := s₂.slotsUsed } : State).setVm s₂.vm).setTop { g with pc := g.pc + len₂, stack := v.toList ++ g.stack } := by
      refine e3.trans ?_
      rw [hf₂, State.calling_eq h.top, State.setFrames_setFrames, State.setTop_of_frames _ hr', hr]
      rfl
    have hsame : U.sameButNew ({ U with heap := s₂.heap, slotsUsed := s₂.slotsUsed } : State) L mc ms := by
      refine ⟨?_, q2, q3, q4, q5, q6⟩
      obtain ⟨t, ht, -⟩ := State.frames_cons hr
      show ({ U with heap := s₂.heap, slotsUsed := s₂.slotsUsed } : State) = { U.setFrames U.frames with heap := s₂.heap, slotsUsed := s₂.slotsUsed }
      rw [State.setFrames_self ht]
    subst hg
    refine Or.inl ⟨v, ⟨(({ U with heap := s₂.heap, slotsUsed := s₂.slotsUsed } : State).setVm s₂.vm), Ls ++ L, c0 + mc, s0 + ms⟩,
      ⟨X.admits, X.cas, X.clock, X.frames, X.room, X.hears, X.method, X.code, (X.here.setHeapUsed s₂.heap s₂.slotsUsed).setVm hW'.alike, X.tail, State.WarmedH.trans X.warmed hW', X.limits, X.bytes, X.same.trans (hsame.setVm s.vm)⟩,
      ⟨g, mk, s₂, L, rfl, rfl, hqc, rfl, hL, rfl, rfl⟩, ?_⟩
    show Steps p.tables e below _ ((({ U with heap := s₂.heap, slotsUsed := s₂.slotsUsed } : State).setVm s₂.vm).setTop { g with pc := g.pc + len₂, stack := v.toList ++ g.stack })
    rw [← hs₂]
    exact hsteps
  · obtain ⟨e2, q2, q3, q4, q5, q6⟩ := id hsm
    have e3 : s₂ = ({ (U.calling g mk a).setFrames s₂.frames with heap := s₂.heap, slotsUsed := s₂.slotsUsed } : State).setVm s₂.vm := by
      have : s₂ = ({ s₂ with vm := (U.calling g mk a).vm } : State).setVm s₂.vm := rfl
      rw [e2] at this
      exact this
    have hf₂ : s₂.frames = .throwing q :: .java g :: U.frames.tail := hend
    have hW' : U.WarmedH s₂.vm := hW₂
    have hs₂ : s₂ = ((({ U with heap := s₂.heap, slotsUsed := s₂.slotsUsed } : State).setVm s₂.vm).setTop g).pushFrame (.throwing q) := by
      refine e3.trans ?_
      rw [hf₂, State.calling_eq h.top, State.setFrames_setFrames, State.pushFrame, State.frames_setTop _ hr', State.setTop_of_frames _ hr', State.setFrames_setFrames, hr]
      rfl
    have hsame : U.sameButNew ({ U with heap := s₂.heap, slotsUsed := s₂.slotsUsed } : State) L mc ms := by
      refine ⟨?_, q2, q3, q4, q5, q6⟩
      obtain ⟨t, ht, -⟩ := State.frames_cons hr
      show ({ U with heap := s₂.heap, slotsUsed := s₂.slotsUsed } : State) = { U.setFrames U.frames with heap := s₂.heap, slotsUsed := s₂.slotsUsed }
      rw [State.setFrames_self ht]
    subst hg
    refine Or.inr ⟨q, ⟨(({ U with heap := s₂.heap, slotsUsed := s₂.slotsUsed } : State).setVm s₂.vm), Ls ++ L, c0 + mc, s0 + ms⟩,
      ⟨X.admits, X.cas, X.clock, X.frames, X.room, X.hears, X.method, X.code, (X.here.setHeapUsed s₂.heap s₂.slotsUsed).setVm hW'.alike, X.tail, State.WarmedH.trans X.warmed hW', X.limits, X.bytes, X.same.trans (hsame.setVm s.vm)⟩,
      ⟨g, mk, s₂, L, E, ce, rfl, rfl, hx, hce, hcv, hcl, rfl, hL, rfl, rfl⟩, ?_⟩
    show Steps p.tables e below _ (((({ U with heap := s₂.heap, slotsUsed := s₂.slotsUsed } : State).setVm s₂.vm).setTop g).pushFrame (.throwing q))
    rw [← hs₂]
    exact hsteps
end
variable {p : Program} {l : Launch} {e : Env} {R : Room} {s : State} {m : MethodId} {args : Array Value} {below : List Frame} {meth : Method} {c : Code} {T : State} {H : Heap} {locs : List Loc} {cells slots : Nat}
theorem vx_callVX (X : Stand p l e R s m args below meth c T locs cells slots) (hexec : p.tables.exec = Jvm.exec) {own C : String} {index : Nat} {y : MethodName} {bytes : ByteArray} {maxL : Nat} {ret : Option FieldType} {hh : List (Nat × Nat × Nat × Nat)}
    (hown : s.vm.findClass own = some m.cls) (hlink : (Cond.methodLink own index y).before args s = true) (hinst : (Cond.instanceMethod y).before args s = true) (hsel : (Cond.selects C y y).before args s = true)
    (hcode : (Cond.codeWith y bytes maxL ret hh).before args s = true) (hy : y.cls ≠ "java/lang/invoke/MethodHandle" ∧ y.cls ≠ "java/lang/invoke/VarHandle")
    {W9 : Nat} {Pre : Pt → Array Value → Prop} {Post : Pt → Array Value → Option Value → Pt → Prop} {PostX : Pt → Array Value → Addr → Pt → Prop} (hK : vx_Back l R p e below s args y 3 W9 Pre Post PostX)
    {b : Addr} {cellB : Cell} (hcell : T.heap[b]? = some cellB) (hobj : cellB.vm.isStatics = false) (hcls : s.vm.findClass C = some cellB.cls)
    {g : JFrame} (hg : g.method = m) (hsize : g.locals.size = c.maxLocals) {argsL rest : List Value} (hlen : ∀ sig, parseMethodDescriptor y.desc = some sig → argsL.length = sig.parameters.length)
    (hstack : g.stack = argsL.reverse ++ .ref b :: rest) (hW : 2 * g.monitorRoom + (rest.map fun v => v.category).sum ≤ W9) (hdg : decode c.code g.pc = .ok (.invokevirtual index, 3))
    (hpre : ∀ vm₁, s.WarmedH vm₁ → Pre ⟨T.setVm vm₁, locs, cells, slots⟩ (Value.ref b :: argsL).toArray) :
    (∃ (v : Option Value) (vm₁ : Vm) (B : Pt), s.WarmedH vm₁ ∧ Stand p l e R s m args below meth c B.U B.locs B.cells B.slots ∧ Post ⟨T.setVm vm₁, locs, cells, slots⟩ (Value.ref b :: argsL).toArray v B ∧
      ∀ target, Steps p.tables e below (B.U.setTop { g with pc := g.pc + 3, stack := v.toList ++ rest }) target → Steps p.tables e below (T.setTop g) target) ∨
    (∃ (q : Addr) (vm₁ : Vm) (B : Pt), s.WarmedH vm₁ ∧ Stand p l e R s m args below meth c B.U B.locs B.cells B.slots ∧ PostX ⟨T.setVm vm₁, locs, cells, slots⟩ (Value.ref b :: argsL).toArray q B ∧
      Steps p.tables e below (T.setTop g) ((B.U.setTop { g with stack := rest }).pushFrame (.throwing q))) := by
  obtain ⟨mk, methM, hnamed, hmethM, hstM, habM⟩ := Cond.instanceMethod_spec hinst
  obtain ⟨m8, methM', cM, hn8, hmethM', -, -, -, -, -, -, hsigM⟩ := Cond.codeWith_spec hcode
  cases Option.some.inj (hn8.symm.trans hnamed)
  cases hmethM.symm.trans hmethM'
  obtain ⟨c2, r2, m2, q1, q2, q3, q4, kP, hkP, hkPi⟩ := Cond.selects_spec hsel
  cases hcls.symm.trans q1
  cases (State.methodFound?_of_named hnamed hy).symm.trans q2
  cases hnamed.symm.trans q3
  have hselP : selectMethod e.platform s.vm cellB.cls mk = .method mk := by rw [Launch.admits_selectMethod X.admits]; exact q4
  obtain ⟨vm₁, X₁, hstep₁⟩ := X.invokevirtual hexec hown hlink hnamed hmethM hstM hkP hkPi hy (a := b) (cell := cellB) hcell
    (fun z h => by rw [h] at hobj; cases hobj) hselP hmethM habM hkP hkPi (g := g) hg (argsL := argsL) (rest := rest) (hlen _ hsigM) hstack hdg
  rcases hK m meth c ⟨T.setVm vm₁, locs, cells, slots⟩ { g with stack := rest } (.invokevirtual index) mk (Value.ref b :: argsL).toArray X₁ hg hsize hdg hW (X₁.named hnamed) (hpre vm₁ X₁.warmed) with ⟨v, B, X', hpost, hsteps⟩ | ⟨q, B, X', hpost, hsteps⟩
  · exact Or.inl ⟨v, vm₁, B, X₁.warmed, X', hpost, fun target h => hstep₁ _ fun acts => by rw [doInvoke_state]; exact hsteps.trans h⟩
  · exact Or.inr ⟨q, vm₁, B, X₁.warmed, X', hpost, hstep₁ _ fun acts => by rw [doInvoke_state]; exact hsteps⟩
theorem vx_callSX (X : Stand p l e R s m args below meth c T locs cells slots) (hexec : p.tables.exec = Jvm.exec) {own : String} {index : Nat} {y : MethodName} {bytes : ByteArray} {maxL : Nat} {ret : Option FieldType} {hh : List (Nat × Nat × Nat × Nat)}
    (hown : s.vm.findClass own = some m.cls) (hlink : (Cond.methodLink own index y).before args s = true) (hstat : (Cond.static y).before args s = true) (hinit : (Cond.initialized y.cls).before args s = true)
    (hcode : (Cond.codeWith y bytes maxL ret hh).before args s = true) (hy : y.cls ≠ "java/lang/invoke/MethodHandle" ∧ y.cls ≠ "java/lang/invoke/VarHandle")
    {W9 : Nat} {Pre : Pt → Array Value → Prop} {Post : Pt → Array Value → Option Value → Pt → Prop} {PostX : Pt → Array Value → Addr → Pt → Prop} (hK : vx_Back l R p e below s args y 3 W9 Pre Post PostX)
    {g : JFrame} (hg : g.method = m) (hsize : g.locals.size = c.maxLocals) {argsL rest : List Value} (hlen : ∀ sig, parseMethodDescriptor y.desc = some sig → argsL.length = sig.parameters.length)
    (hstack : g.stack = argsL.reverse ++ rest) (hW : 2 * g.monitorRoom + (rest.map fun v => v.category).sum ≤ W9) (hdg : decode c.code g.pc = .ok (.invokestatic index, 3))
    (hpre : ∀ vm₁, s.WarmedH vm₁ → Pre ⟨T.setVm vm₁, locs, cells, slots⟩ argsL.toArray) :
    (∃ (v : Option Value) (vm₁ : Vm) (B : Pt), s.WarmedH vm₁ ∧ Stand p l e R s m args below meth c B.U B.locs B.cells B.slots ∧ Post ⟨T.setVm vm₁, locs, cells, slots⟩ argsL.toArray v B ∧
      ∀ target, Steps p.tables e below (B.U.setTop { g with pc := g.pc + 3, stack := v.toList ++ rest }) target → Steps p.tables e below (T.setTop g) target) ∨
    (∃ (q : Addr) (vm₁ : Vm) (B : Pt), s.WarmedH vm₁ ∧ Stand p l e R s m args below meth c B.U B.locs B.cells B.slots ∧ PostX ⟨T.setVm vm₁, locs, cells, slots⟩ argsL.toArray q B ∧
      Steps p.tables e below (T.setTop g) ((B.U.setTop { g with stack := rest }).pushFrame (.throwing q))) := by
  obtain ⟨mk, methM, cM, hnamed, hmethM, -, -, -, -, -, -, hsigM⟩ := Cond.codeWith_spec hcode
  have hstatic : methM.isStatic = true := Cond.static_spec hnamed hmethM hstat
  obtain ⟨kP, hkP, -⟩ := className_of_methodNamed hnamed
  have hinitP : kP.init = .initialized := Cond.initialized_spec (findClass_of_methodNamed hnamed) hkP hinit
  obtain ⟨vm₁, X₁, hstep₁⟩ := X.invokestatic hexec hown hlink hnamed hmethM hstatic hkP hinitP hy (g := g) hg (argsL := argsL) (rest := rest) (hlen _ hsigM) hstack hdg
  rcases hK m meth c ⟨T.setVm vm₁, locs, cells, slots⟩ { g with stack := rest } (.invokestatic index) mk argsL.toArray X₁ hg hsize hdg hW (X₁.named hnamed) (hpre vm₁ X₁.warmed) with ⟨v, B, X', hpost, hsteps⟩ | ⟨q, B, X', hpost, hsteps⟩
  · exact Or.inl ⟨v, vm₁, B, X₁.warmed, X', hpost, fun target h => hstep₁ _ fun acts => by rw [doInvoke_state]; exact hsteps.trans h⟩
  · exact Or.inr ⟨q, vm₁, B, X₁.warmed, X', hpost, hstep₁ _ fun acts => by rw [doInvoke_state]; exact hsteps⟩
theorem vx_callVW (X : Stand p l e R s m args below meth c T locs cells slots) (hexec : p.tables.exec = Jvm.exec) {own C : String} {index : Nat} {y : MethodName} {bytes : ByteArray} {maxL : Nat} {ret : Option FieldType} {hh : List (Nat × Nat × Nat × Nat)}
    (hown : s.vm.findClass own = some m.cls) (hlink : (Cond.methodLink own index y).before args s = true) (hinst : (Cond.instanceMethod y).before args s = true) (hsel : (Cond.selects C y y).before args s = true)
    (hcode : (Cond.codeWith y bytes maxL ret hh).before args s = true) (hy : y.cls ≠ "java/lang/invoke/MethodHandle" ∧ y.cls ≠ "java/lang/invoke/VarHandle")
    {W9 : Nat} {Pre : Pt → Array Value → Prop} {Post : Pt → Array Value → Option Value → Pt → Prop} (hK : Back l R p e below s args y 3 W9 Pre Post)
    {b : Addr} {cellB : Cell} (hcell : T.heap[b]? = some cellB) (hobj : cellB.vm.isStatics = false) (hcls : s.vm.findClass C = some cellB.cls)
    {g : JFrame} (hg : g.method = m) (hsize : g.locals.size = c.maxLocals) {argsL rest : List Value} (hlen : ∀ sig, parseMethodDescriptor y.desc = some sig → argsL.length = sig.parameters.length)
    (hstack : g.stack = argsL.reverse ++ .ref b :: rest) (hW : 2 * g.monitorRoom + (rest.map fun v => v.category).sum ≤ W9) (hdg : decode c.code g.pc = .ok (.invokevirtual index, 3))
    (hpre : ∀ vm₁, s.WarmedH vm₁ → Pre ⟨T.setVm vm₁, locs, cells, slots⟩ (Value.ref b :: argsL).toArray) :
    ∃ (v : Option Value) (vm₁ : Vm) (B : Pt), s.WarmedH vm₁ ∧ Stand p l e R s m args below meth c B.U B.locs B.cells B.slots ∧ Post ⟨T.setVm vm₁, locs, cells, slots⟩ (Value.ref b :: argsL).toArray v B ∧
      ∀ target, Steps p.tables e below (B.U.setTop { g with pc := g.pc + 3, stack := v.toList ++ rest }) target → Steps p.tables e below (T.setTop g) target := by
  obtain ⟨mk, methM, hnamed, hmethM, hstM, habM⟩ := Cond.instanceMethod_spec hinst
  obtain ⟨m8, methM', cM, hn8, hmethM', -, -, -, -, -, -, hsigM⟩ := Cond.codeWith_spec hcode
  cases Option.some.inj (hn8.symm.trans hnamed)
  cases hmethM.symm.trans hmethM'
  obtain ⟨c2, r2, m2, q1, q2, q3, q4, kP, hkP, hkPi⟩ := Cond.selects_spec hsel
  cases hcls.symm.trans q1
  cases (State.methodFound?_of_named hnamed hy).symm.trans q2
  cases hnamed.symm.trans q3
  have hselP : selectMethod e.platform s.vm cellB.cls mk = .method mk := by rw [Launch.admits_selectMethod X.admits]; exact q4
  obtain ⟨vm₁, X₁, hstep₁⟩ := X.invokevirtual hexec hown hlink hnamed hmethM hstM hkP hkPi hy (a := b) (cell := cellB) hcell
    (fun z h => by rw [h] at hobj; cases hobj) hselP hmethM habM hkP hkPi (g := g) hg (argsL := argsL) (rest := rest) (hlen _ hsigM) hstack hdg
  obtain ⟨v, B, X', hpost, hsteps⟩ := hK m meth c ⟨T.setVm vm₁, locs, cells, slots⟩ { g with stack := rest } (.invokevirtual index) mk (Value.ref b :: argsL).toArray X₁ hg hsize hdg hW (X₁.named hnamed) (hpre vm₁ X₁.warmed)
  exact ⟨v, vm₁, B, X₁.warmed, X', hpost, fun target h => hstep₁ _ fun acts => by rw [doInvoke_state]; exact hsteps.trans h⟩
abbrev vx_CVW (R : Room) (s : State) (args : Array Value) (own C : String) (index : Nat) (y : MethodName) (bytes : ByteArray) (maxL : Nat) (ret : Option FieldType) (hh : List (Nat × Nat × Nat × Nat)) (ws : List Cond) (rm : Room) (mc ms n : Nat) : Prop :=
  (rm.cells = mc ∧ rm.slots = ms ∧ rm.frames + 1 ≤ R.frames ∧ 8 + (maxL + 11) + rm.locals ≤ R.locals ∧ (∀ w ∈ ws, ∀ (a' : Array Value) (U : State), s.WarmedH U.vm → w.before a' U = true) ∧ Cond.codeWith y bytes maxL ret hh ∈ ws) ∧
  (Cond.codeWith y bytes maxL ret hh).before args s = true ∧ (Cond.initialized y.cls).before args s = true ∧ (y.cls ≠ "java/lang/invoke/MethodHandle" ∧ y.cls ≠ "java/lang/invoke/VarHandle") ∧
  (∀ sig, parseMethodDescriptor y.desc = some sig → n = sig.parameters.length) ∧ (Cond.methodLink own index y).before args s = true ∧ (Cond.instanceMethod y).before args s = true ∧ (Cond.selects C y y).before args s = true
theorem vx_cwVW {own C : String} {index maxL mc ms : Nat} {y : MethodName} {bytes : ByteArray} {ret : Option FieldType} {hh : List (Nat × Nat × Nat × Nat)} {Ts ws ws' : List Cond} {rm : Room} (n : Nat) (ht : ∀ w ∈ Ts, w.before args s = true) (hT : GoodIn Ts (wsV own index C y ws)) (hw : ws = Cond.codeWith y bytes maxL ret hh :: ws') (hrc : rm.cells = mc) (hrs : rm.slots = ms)
    (hd : y.cls = C ∧ y.cls ≠ "java/lang/invoke/MethodHandle" ∧ y.cls ≠ "java/lang/invoke/VarHandle" ∧ (parseMethodDescriptor y.desc).map (fun d => d.parameters.length) = some n) (hR : rm.frames + 1 ≤ R.frames ∧ 8 + (maxL + 11) + rm.locals ≤ R.locals) :
    vx_CVW R s args own C index y bytes maxL ret hh ws rm mc ms n := by
  obtain ⟨hC, hd⟩ := hd
  subst hC
  have ok : ∀ w ∈ wsV own index y.cls y ws, w.before args s = true := fun w h => ht w (hT w h).1
  have hG : GoodIn Ts ws := fun w h => hT w (by unfold wsV; exact List.mem_append_right _ h)
  have hc : Cond.codeWith y bytes maxL ret hh ∈ ws := by rw [hw]; exact List.mem_cons_self
  refine ⟨⟨hrc, hrs, hR.1, hR.2, pay_in ht hG, hc⟩, ht _ (hG _ hc).1, ok _ (by simp [wsV]), ⟨hd.1, hd.2.1⟩, fun sig h => ?_, ok _ (by simp [wsV]), ok _ (by simp [wsV]), ok _ (by simp [wsV])⟩
  have h2 := hd.2.2
  rw [h] at h2
  exact (Option.some.inj h2).symm
theorem vx_runVW {y : MethodName} {bytes cc : ByteArray} {maxL nL mc ms n index : Nat} {ret : Option FieldType} {hh : List (Nat × Nat × Nat × Nat)} {ws : List Cond} {rm : Room} {Pc : Array Value → State → Prop} {Qc : Array Value → State → Outcome → State → Prop} {free : Addr → Prop} {Ts : List Cond} {own C : String} {b : Addr} {As rest : List Value} {g : JFrame}
    (S : CallFix p m c cc nL s args Ts own) (hM : Met l y ws rm Pc Qc mc ms free) (cw : vx_CVW R s args own C index y bytes maxL ret hh ws rm mc ms n) (hp : PreV s H C b Pc As)
    (hg : g.method = m) (hn : As.length = n) (hsize : g.locals.size = nL) (hstack : g.stack = As.reverse ++ .ref b :: rest) (hW : 2 * g.monitorRoom + (rest.map fun v => v.category).sum ≤ 8) (hdg : decode cc g.pc = .ok (.invokevirtual index, 3)) (hf : cells + mc ≤ R.cells ∧ slots + ms ≤ R.slots) :
    va_Run p l e R s m args below meth c H locs cells slots mc ms g rest (Qc (Value.ref b :: As).toArray) free := by
  obtain ⟨⟨hrc, hrs, hfr, hlo, hws, hcw⟩, hcode, hini, hy, hlen, hl, hin, hse⟩ := cw
  have hK : Back l R p e below s args y 3 8 (PreOf R mc ms Pc) (PostOf Qc mc ms free) := va_backW (hh := hh) (bytes := bytes) (maxL := maxL) (ret := ret) hM hp.1 hrc hrs hfr hlo hws hcw (fun a' U hW => word_at hW (Or.inl (by first | rfl | simp [Cond.onTables, Cond.keeps, Cond.steady])) hini)
  obtain ⟨hx, hb, hml, ho, -⟩ := S
  obtain ⟨-, ⟨cellB, hcB, hoB, hclB⟩, hPc⟩ := hp
  intro T hT X
  obtain ⟨v, vm₁, ⟨U', l2, c2, s2⟩, hW₁, X', ⟨g', mk, t, L, e1, e2, hq, h1, hL, h2, h3⟩, st⟩ := vx_callVW X hx (C := C) (hh := hh) (bytes := bytes) (maxL := maxL) (ret := ret) ho hl hin hse hcode hy hK (by rw [hT]; exact hcB) hoB hclB hg (hsize.trans hml.symm) (argsL := As) (rest := rest) (fun sig h => hn.trans (hlen sig h)) hstack hW (by rw [hb]; exact hdg)
    (fun vm₁ hW₁ => ⟨hf.1, hf.2, hPc (T.setVm vm₁) hT hW₁⟩)
  dsimp only [Pt.U, Pt.locs, Pt.cells, Pt.slots] at X' e1 e2 h1 h2 h3 st
  subst h1; subst h2; subst h3
  exact ⟨v, (T.setVm vm₁).calling g' mk (Value.ref b :: As).toArray, t, U', L, hT, X', hL, e1, e2, hq, st⟩
section
variable {y : MethodName} {bytes cc : ByteArray} {maxL nL mc ms n index : Nat} {ret : Option FieldType} {ws : List Cond} {rm : Room} {Pc : Array Value → State → Prop} {Qc : Array Value → State → Outcome → State → Prop} {XC : String → State → State → Prop} {free : Addr → Prop} {Ts : List Cond} {own C : String} {b : Addr} {As rest : List Value} {g : JFrame}
theorem vx_runVX {hh : List (Nat × Nat × Nat × Nat)} (S : CallFix p m c cc nL s args Ts own) (hM : vx_Met l y ws rm Pc Qc XC mc ms free) (cw : vx_CVW R s args own C index y bytes maxL ret hh ws rm mc ms n) (hp : PreV s H C b Pc As)
    (hg : g.method = m) (hn : As.length = n) (hsize : g.locals.size = nL) (hstack : g.stack = As.reverse ++ .ref b :: rest) (hW : 2 * g.monitorRoom + (rest.map fun v => v.category).sum ≤ 8) (hdg : decode cc g.pc = .ok (.invokevirtual index, 3)) (hf : cells + mc ≤ R.cells ∧ slots + ms ≤ R.slots) :
    vx_Run p l e R s m args below meth c H locs cells slots mc ms g rest (Qc (Value.ref b :: As).toArray) XC free := by
  obtain ⟨⟨hrc, hrs, hfr, hlo, hws, hcw⟩, hcode, hini, hy, hlen, hl, hin, hse⟩ := cw
  have hK : vx_Back l R p e below s args y 3 8 (PreOf R mc ms Pc) (PostOf Qc mc ms free) (vx_Post XC mc ms free) := vx_backW (hh := hh) (bytes := bytes) (maxL := maxL) (ret := ret) hM hp.1 hrc hrs hfr hlo hws hcw (fun a' U hW => word_at hW (Or.inl (by first | rfl | simp [Cond.onTables, Cond.keeps, Cond.steady])) hini)
  obtain ⟨hx, hb, hml, ho, -⟩ := S
  obtain ⟨-, ⟨cellB, hcB, hoB, hclB⟩, hPc⟩ := hp
  intro T hT X
  rcases vx_callVX X hx (C := C) (hh := hh) (bytes := bytes) (maxL := maxL) (ret := ret) ho hl hin hse hcode hy hK (by rw [hT]; exact hcB) hoB hclB hg (hsize.trans hml.symm) (argsL := As) (rest := rest) (fun sig h => hn.trans (hlen sig h)) hstack hW (by rw [hb]; exact hdg)
    (fun vm₁ hW₁ => ⟨hf.1, hf.2, hPc (T.setVm vm₁) hT hW₁⟩) with ⟨v, vm₁, ⟨U', l2, c2, s2⟩, hW₁, X', ⟨g', mk, t, L, e1, e2, hq, h1, hL, h2, h3⟩, st⟩ | ⟨q, vm₁, ⟨U', l2, c2, s2⟩, hW₁, X', ⟨g', mk, t, L, E, ce, e1, e2, hq, hce, hcv, hcl, h1, hL, h2, h3⟩, st⟩
  · dsimp only [Pt.U, Pt.locs, Pt.cells, Pt.slots] at X' e1 e2 h1 h2 h3 st
    subst h1; subst h2; subst h3
    exact Or.inl ⟨v, (T.setVm vm₁).calling g' mk (Value.ref b :: As).toArray, t, U', L, hT, X', hL, e1, e2, hq, st⟩
  · dsimp only [Pt.U, Pt.locs, Pt.cells, Pt.slots] at X' e1 e2 h1 h2 h3 st hcl
    subst h1; subst h2; subst h3
    exact Or.inr ⟨q, (T.setVm vm₁).calling g' mk (Value.ref b :: As).toArray, t, U', L, E, ce, hT, X', hL, e1, e2, hq, hce, hcv, vx_cls hW₁ hcl, st⟩
theorem vx_runSX {hh : List (Nat × Nat × Nat × Nat)} (S : CallFix p m c cc nL s args Ts own) (hM : vx_Met l y ws rm Pc Qc XC mc ms free) (cw : vx_CSW R s args own index y bytes maxL ret hh ws rm mc ms n) (hp : PreS s H Pc As)
    (hg : g.method = m) (hn : As.length = n) (hsize : g.locals.size = nL) (hstack : g.stack = As.reverse ++ rest) (hW : 2 * g.monitorRoom + (rest.map fun v => v.category).sum ≤ 8) (hdg : decode cc g.pc = .ok (.invokestatic index, 3)) (hf : cells + mc ≤ R.cells ∧ slots + ms ≤ R.slots) :
    vx_Run p l e R s m args below meth c H locs cells slots mc ms g rest (Qc As.toArray) XC free := by
  obtain ⟨⟨hrc, hrs, hfr, hlo, hws, hcw⟩, hcode, hini, hy, hlen, hl, hstt⟩ := cw
  have hK : vx_Back l R p e below s args y 3 8 (PreOf R mc ms Pc) (PostOf Qc mc ms free) (vx_Post XC mc ms free) := vx_backW (hh := hh) (bytes := bytes) (maxL := maxL) (ret := ret) hM hp.1 hrc hrs hfr hlo hws hcw (fun a' U hW => word_at hW (Or.inl (by first | rfl | simp [Cond.onTables, Cond.keeps, Cond.steady])) hini)
  obtain ⟨hx, hb, hml, ho, -⟩ := S
  intro T hT X
  rcases vx_callSX X hx (hh := hh) (bytes := bytes) (maxL := maxL) (ret := ret) ho hl hstt hini hcode hy hK hg (hsize.trans hml.symm) (argsL := As) (rest := rest) (fun sig h => hn.trans (hlen sig h)) hstack hW (by rw [hb]; exact hdg)
    (fun vm₁ hW₁ => ⟨hf.1, hf.2, hp.2 (T.setVm vm₁) hT hW₁⟩) with ⟨v, vm₁, ⟨U', l2, c2, s2⟩, hW₁, X', ⟨g', mk, t, L, e1, e2, hq, h1, hL, h2, h3⟩, st⟩ | ⟨q, vm₁, ⟨U', l2, c2, s2⟩, hW₁, X', ⟨g', mk, t, L, E, ce, e1, e2, hq, hce, hcv, hcl, h1, hL, h2, h3⟩, st⟩
  · dsimp only [Pt.U, Pt.locs, Pt.cells, Pt.slots] at X' e1 e2 h1 h2 h3 st
    subst h1; subst h2; subst h3
    exact Or.inl ⟨v, (T.setVm vm₁).calling g' mk As.toArray, t, U', L, hT, X', hL, e1, e2, hq, st⟩
  · dsimp only [Pt.U, Pt.locs, Pt.cells, Pt.slots] at X' e1 e2 h1 h2 h3 st hcl
    subst h1; subst h2; subst h3
    exact Or.inr ⟨q, (T.setVm vm₁).calling g' mk As.toArray, t, U', L, E, ce, hT, X', hL, e1, e2, hq, hce, hcv, vx_cls hW₁ hcl, st⟩
end
end VXH
theorem vx_ofWH {l : Launch} {y : MethodName} {ws ws' : List Cond} {rm : Room} {Pc : Array Value → State → Prop} {Qc : Array Value → State → Outcome → State → Prop} {XC : String → State → State → Prop} {mc ms : Nat} {free : Addr → Prop} {cc : ByteArray} {maxL : Nat} {ret : Option FieldType} {hh : List (Nat × Nat × Nat × Nat)}
    (hy : plainName y.cls = true) (hw : ws = Cond.codeWith y cc maxL ret hh :: ws')
    (body : ∀ p e s m args below meth c s₁, BodyLoose p l y (headSpec ws rm) cc maxL ret e s m args below meth c s₁ → c.maxLocals = maxL → Pc args s →
      W p l e (headSpec ws rm).room s m args below meth c s.heap [] 0 0 (vx_MQ below Qc XC args s mc ms free) (entryFrame m args maxL)) : vx_Met l y ws rm Pc Qc XC mc ms free := by
  refine MetFree.of_bodyS (code := cc) (maxLocals := maxL) (ret := ret) hy ?_ ?_
  · intro args s m h hn
    obtain ⟨m9, meth, c, hn9, h1, h2, h3, h4, -, h5, h6, -⟩ := Cond.codeWith_spec (atoms_spec (ws := ws) h _ (by rw [hw]; exact List.mem_cons_self))
    cases hn.symm.trans hn9
    exact ⟨meth, c, h1, h2, h3, h4, h5, h6⟩
  · intro p e s m args below meth c s₁ B hml hP _
    have hh0 : s₁.heap = s.heap := by rw [B.state]; rfl
    obtain ⟨t, a1, o, b1, b2, b3⟩ := body p e s m args below meth c s₁ B hml hP s₁ hh0 (Stand.of_body B)
    exact ⟨t, o, a1, b1, b2, b3⟩
/-! ===== END ===== -/
/-! ===== BEGIN a method of a class above, found by the receiver, that may throw (follows va_callVU, va_runU of this kit) ===== -/
section
variable {p : Program} {l : Launch} {e : Env} {R : Room} {s : State} {m : MethodId} {args : Array Value} {below : List Frame} {meth : Method} {c : Code} {H : Heap} {locs : List Loc} {cells slots : Nat}
theorem vx_callVU {T : State} {locs : List Loc} {cells slots : Nat} (X : Stand p l e R s m args below meth c T locs cells slots) (hexec : p.tables.exec = Jvm.exec) {own C owner : String} {index : Nat} {x y : MethodName} {bytes : ByteArray} {maxL : Nat} {ret : Option FieldType}
    (hown : s.vm.findClass own = some m.cls) (hlink : (Cond.methodLink own index x).before args s = true) (hsame : (Cond.sameMethod x.cls owner x.name x.desc).before args s = true)
    (hd0 : va_Decl s ⟨owner, x.name, x.desc⟩) (howner : owner ≠ "java/lang/invoke/MethodHandle" ∧ owner ≠ "java/lang/invoke/VarHandle")
    (hsel : (Cond.selects C x y).before args s = true) (hinst : (Cond.instanceMethod y).before args s = true) (hcode : (Cond.code y bytes maxL ret).before args s = true)
    {W : Nat} {Pre : Pt → Array Value → Prop} {Post : Pt → Array Value → Option Value → Pt → Prop} {PostX : Pt → Array Value → Addr → Pt → Prop} (hK : vx_Back l R p e below s args y 3 W Pre Post PostX)
    {b : Addr} {cellB : Cell} (hcell : T.heap[b]? = some cellB) (hobj : cellB.vm.isStatics = false) (hcls : s.vm.findClass C = some cellB.cls)
    {g : JFrame} (hg : g.method = m) (hsize : g.locals.size = c.maxLocals) {argsL rest : List Value} (hlen : ∀ sig, parseMethodDescriptor x.desc = some sig → argsL.length = sig.parameters.length)
    (hstack : g.stack = argsL.reverse ++ .ref b :: rest) (hW : 2 * g.monitorRoom + (rest.map fun v => v.category).sum ≤ W) (hdg : decode c.code g.pc = .ok (.invokevirtual index, 3))
    (hpre : ∀ vm₁, s.WarmedH vm₁ → Pre ⟨T.setVm vm₁, locs, cells, slots⟩ (Value.ref b :: argsL).toArray) :
    (∃ (v : Option Value) (vm₁ : Vm) (B : Pt), s.WarmedH vm₁ ∧ Stand p l e R s m args below meth c B.U B.locs B.cells B.slots ∧ Post ⟨T.setVm vm₁, locs, cells, slots⟩ (Value.ref b :: argsL).toArray v B ∧
      ∀ target, Steps p.tables e below (B.U.setTop { g with pc := g.pc + 3, stack := v.toList ++ rest }) target → Steps p.tables e below (T.setTop g) target) ∨
    (∃ (q : Addr) (vm₁ : Vm) (B : Pt), s.WarmedH vm₁ ∧ Stand p l e R s m args below meth c B.U B.locs B.cells B.slots ∧ PostX ⟨T.setVm vm₁, locs, cells, slots⟩ (Value.ref b :: argsL).toArray q B ∧
      Steps p.tables e below (T.setTop g) ((B.U.setTop { g with stack := rest }).pushFrame (.throwing q))) := by
  obtain ⟨r0, r, hn, hrm, hstR, hsigR⟩ := hd0
  obtain ⟨cn, ck, r1, hcn, hck, hni, hf, hn1⟩ := Cond.sameMethod_found hsame
  cases hn.symm.trans hn1
  obtain ⟨mk, methM, hnamed, hmethM, -, habM⟩ := Cond.instanceMethod_spec hinst
  obtain ⟨c2, r2, m2, q1, q2, q3, q4, kP, hkP, hkPi⟩ := Cond.selects_spec hsel
  cases hcls.symm.trans q1
  cases hf.symm.trans q2
  cases hnamed.symm.trans q3
  have hselP : selectMethod e.platform s.vm cellB.cls r0 = .method mk := by rw [Launch.admits_selectMethod X.admits]; exact q4
  obtain ⟨vm₁, X₁, hstep₁⟩ := X.invokevirtualUp hexec hown hlink hsame howner hn hrm hstR (a := b) (cell := cellB) hcell
    (fun z h => by rw [h] at hobj; cases hobj) hselP hmethM habM hkP hkPi (g := g) hg (argsL := argsL) (rest := rest) (hlen _ hsigR) hstack hdg
  rcases hK m meth c ⟨T.setVm vm₁, locs, cells, slots⟩ { g with stack := rest } (.invokevirtual index) mk (Value.ref b :: argsL).toArray X₁ hg hsize hdg hW (X₁.named hnamed) (hpre vm₁ X₁.warmed) with ⟨v, B, X', hpost, hsteps⟩ | ⟨q, B, X', hpost, hsteps⟩
  · exact Or.inl ⟨v, vm₁, B, X₁.warmed, X', hpost, fun target h => hstep₁ _ fun acts => by rw [doInvoke_state]; exact hsteps.trans h⟩
  · exact Or.inr ⟨q, vm₁, B, X₁.warmed, X', hpost, hstep₁ _ fun acts => by rw [doInvoke_state]; exact hsteps⟩
theorem vx_runU {x y : MethodName} {bytes cc : ByteArray} {maxL nL mc ms n index : Nat} {ret : Option FieldType} {ws : List Cond} {rm : Room} {Pc : Array Value → State → Prop} {Qc : Array Value → State → Outcome → State → Prop} {XC : String → State → State → Prop} {free : Addr → Prop} {Ts : List Cond} {own C owner : String} {b : Addr} {As rest : List Value} {g : JFrame}
    (S : CallFix p m c cc nL s args Ts own) (hM : vx_Met l y ws rm Pc Qc XC mc ms free) (cw : va_CU R s args own C owner index x y bytes maxL ret ws rm mc ms n) (hp : PreV s H C b Pc As)
    (hg : g.method = m) (hn : As.length = n) (hsize : g.locals.size = nL) (hstack : g.stack = As.reverse ++ .ref b :: rest) (hW : 2 * g.monitorRoom + (rest.map fun v => v.category).sum ≤ 8) (hdg : decode cc g.pc = .ok (.invokevirtual index, 3)) (hf : cells + mc ≤ R.cells ∧ slots + ms ≤ R.slots) :
    vx_Run p l e R s m args below meth c H locs cells slots mc ms g rest (Qc (Value.ref b :: As).toArray) XC free := by
  obtain ⟨hrc, hrs, hfr, hlo, hws, hcw⟩ := cw.back
  have hini := cw.init
  have hK : vx_Back l R p e below s args y 3 8 (PreOf R mc ms Pc) (PostOf Qc mc ms free) (vx_Post XC mc ms free) := vx_back (bytes := bytes) (maxL := maxL) (ret := ret) hM hp.1 hrc hrs hfr hlo hws hcw (fun a' U hW => word_at hW (Or.inl (by first | rfl | simp [Cond.onTables, Cond.keeps, Cond.steady])) hini)
  obtain ⟨hx, hb, hml, ho, -⟩ := S
  obtain ⟨-, ⟨cellB, hcB, hoB, hclB⟩, hPc⟩ := hp
  intro T hT X
  rcases vx_callVU X hx (C := C) (owner := owner) (bytes := bytes) (maxL := maxL) (ret := ret) ho cw.link cw.same cw.decl cw.notMH cw.sel cw.inst cw.code hK (by rw [hT]; exact hcB) hoB hclB hg (hsize.trans hml.symm) (argsL := As) (rest := rest) (fun sig h => hn.trans (cw.len sig h)) hstack hW (by rw [hb]; exact hdg)
    (fun vm₁ hW₁ => ⟨hf.1, hf.2, hPc (T.setVm vm₁) hT hW₁⟩) with ⟨v, vm₁, ⟨U', l2, c2, s2⟩, hW₁, X', ⟨g', mk, t, L, e1, e2, hq, h1, hL, h2, h3⟩, st⟩ | ⟨q, vm₁, ⟨U', l2, c2, s2⟩, hW₁, X', ⟨g', mk, t, L, E, ce, e1, e2, hq, hce, hcv, hcl, h1, hL, h2, h3⟩, st⟩
  · dsimp only [Pt.U, Pt.locs, Pt.cells, Pt.slots] at X' e1 e2 h1 h2 h3 st
    subst h1; subst h2; subst h3
    exact Or.inl ⟨v, (T.setVm vm₁).calling g' mk (Value.ref b :: As).toArray, t, U', L, hT, X', hL, e1, e2, hq, st⟩
  · dsimp only [Pt.U, Pt.locs, Pt.cells, Pt.slots] at X' e1 e2 h1 h2 h3 st hcl
    subst h1; subst h2; subst h3
    exact Or.inr ⟨q, (T.setVm vm₁).calling g' mk (Value.ref b :: As).toArray, t, U', L, E, ce, hT, X', hL, e1, e2, hq, hce, hcv, vx_cls hW₁ hcl, st⟩
end
/-! ===== END ===== -/
end
section
/-! EXCEPTIONS: the kinds' fail, by contracts that return or throw. -/
def xE_i : String := "java/lang/IllegalStateException"
def xE_a : String := "java/lang/IllegalArgumentException"
def xE_u : String := "java/lang/UnsupportedOperationException"
def x_nm : List String := ["java/lang/RuntimeException", "java/lang/Exception"]
theorem xa_of {L : List Cond} (h1 : ∀ w ∈ L, w ∈ lw_tbl) (h2 : L.all (fun w => goodWord w || isNst w) = true) : ∀ w ∈ L, w ∈ TW ∨ w ∈ NW := by
  intro w hw
  have h3 := List.all_eq_true.mp h2 w hw
  rcases Bool.or_eq_true_iff.mp h3 with h | h
  · exact Or.inl (List.mem_filter.mpr ⟨h1 w hw, h⟩)
  · exact Or.inr (List.mem_filter.mpr ⟨h1 w hw, h⟩)
theorem xa_Ho : ∀ w ∈ vx_atS n_Ho 11 xE_i x_nm, w ∈ TW ∨ w ∈ NW := xa_of (by decide +kernel) (by decide +kernel)
theorem xa_Tw : ∀ w ∈ vx_atS n_Tw 22 xE_u x_nm, w ∈ TW ∨ w ∈ NW := xa_of (by decide +kernel) (by decide +kernel)
theorem xa_Ma : ∀ w ∈ vx_atS n_Ma 29 xE_a x_nm, w ∈ TW ∨ w ∈ NW := xa_of (by decide +kernel) (by decide +kernel)
theorem xa_Hi : ∀ w ∈ vx_atS n_Hb 281 xE_i x_nm, w ∈ TW ∨ w ∈ NW := xa_of (by decide +kernel) (by decide +kernel)
theorem xa_Ha : ∀ w ∈ vx_atS n_Hb 274 xE_a x_nm, w ∈ TW ∨ w ∈ NW := xa_of (by decide +kernel) (by decide +kernel)
theorem xo_Ho : ∀ w ∈ Cond.classLink n_Ho 7 xE_i :: Cond.initialized xE_i :: vx_atS n_Ho 11 xE_i x_nm, vx_ot w = true := by decide +kernel
theorem xo_Tw : ∀ w ∈ Cond.classLink n_Tw 18 xE_u :: Cond.initialized xE_u :: vx_atS n_Tw 22 xE_u x_nm, vx_ot w = true := by decide +kernel
theorem xo_Ma : ∀ w ∈ Cond.classLink n_Ma 25 xE_a :: Cond.initialized xE_a :: vx_atS n_Ma 29 xE_a x_nm, vx_ot w = true := by decide +kernel
theorem xo_Hi : ∀ w ∈ Cond.classLink n_Hb 277 xE_i :: Cond.initialized xE_i :: vx_atS n_Hb 281 xE_i x_nm, vx_ot w = true := by decide +kernel
theorem xo_Ha : ∀ w ∈ Cond.classLink n_Hb 270 xE_a :: Cond.initialized xE_a :: vx_atS n_Hb 274 xE_a x_nm, vx_ot w = true := by decide +kernel
theorem xl_Ho_c : Cond.classLink n_Ho 7 xE_i ∈ TW := tw_of 909 (by decide +kernel) (by decide +kernel)
theorem xl_Tw_c : Cond.classLink n_Tw 18 xE_u ∈ TW := tw_of 892 (by decide +kernel) (by decide +kernel)
theorem xl_Ma_c : Cond.classLink n_Ma 25 xE_a ∈ TW := tw_of 821 (by decide +kernel) (by decide +kernel)
theorem xl_i : Cond.initialized xE_i ∈ TW := tw_of 71 (by decide +kernel) (by decide +kernel)
theorem xl_u : Cond.initialized xE_u ∈ TW := tw_of 73 (by decide +kernel) (by decide +kernel)
theorem xl_a : Cond.initialized xE_a ∈ TW := tw_of 70 (by decide +kernel) (by decide +kernel)
theorem xl_Hb_i : Cond.classLink n_Hb 277 xE_i ∈ TW := tw_of 806 (by decide +kernel) (by decide +kernel)
theorem xl_Hb_a : Cond.classLink n_Hb 270 xE_a ∈ TW := tw_of 804 (by decide +kernel) (by decide +kernel)
theorem xl_Hb_u : Cond.classLink n_Hb 297 xE_u ∈ TW := tw_of 805 (by decide +kernel) (by decide +kernel)
theorem xf_nm : ∀ n ∈ x_nm, Bundle.fit n = true := by decide +kernel
theorem xf_i : Bundle.fit xE_i = true := by decide +kernel
theorem xf_a : Bundle.fit xE_a = true := by decide +kernel
theorem xf_u : Bundle.fit xE_u = true := by decide +kernel
/-- what a throw needs beside the words -/
def Exs (g : GC) (U : State) : Prop := vx_Zq Bundle.tN "UNASSIGNED_STACK" Bundle.steD (AB g) U U.heap ∧ vx_Zq Bundle.tN "SUPPRESSED_SENTINEL" Bundle.listD (AB g) U U.heap ∧ (∃ a, vk_R n_Ho 9 "a horse fails" a U) ∧ (∃ a, vk_R n_Tw 20 "a horse of two homes fails" a U) ∧ (∃ a, vk_R n_Ma 27 "a mare fails" a U) ∧ (∃ a, vk_R n_Hb 272 "no such shelf" a U) ∧ (∃ a, vk_R n_Hb 279 "no row, or no such place in it" a U) ∧ va_Nc xE_u xE_a U ∧ va_Nc xE_i xE_a U ∧ va_Nc xE_i xE_u U
theorem Exs.moved {g : GC} {s U : State} {H : Heap} {locs : List Loc} (h : Exs g s) (hW : s.WarmedH U.vm) (hU : U.heap = H) (hS : va_S (AB g) s.heap H locs) : Exs g U := by
  obtain ⟨h1, h2, ⟨a3, h3⟩, ⟨a4, h4⟩, ⟨a5, h5⟩, ⟨a6, h6⟩, ⟨a7, h7⟩, h8, h9, h10⟩ := h
  refine ⟨?_, ?_, ⟨a3, h3.warm hW⟩, ⟨a4, h4.warm hW⟩, ⟨a5, h5.warm hW⟩, ⟨a6, h6.warm hW⟩, ⟨a7, h7.warm hW⟩, h8.moved hW.alike, h9.moved hW.alike, h10.moved hW.alike⟩
  · rw [hU]; exact (h1.moved hW.alike).kept (fun a b d => hS.2.1 a b d)
  · rw [hU]; exact (h2.moved hW.alike).kept (fun a b d => hS.2.1 a b d)
theorem Exs.same {g : GC} {s U : State} (h : Exs g s) (hv : U.vm = s.vm) (hU : U.heap = s.heap) : Exs g U := by
  obtain ⟨h1, h2, ⟨a3, h3⟩, ⟨a4, h4⟩, ⟨a5, h5⟩, ⟨a6, h6⟩, ⟨a7, h7⟩, h8, h9, h10⟩ := h
  have hA : s.vm.Alike U.vm := by rw [hv]; exact Vm.Alike.refl s.vm
  exact ⟨by rw [hU]; exact h1.moved hA, by rw [hU]; exact h2.moved hA, ⟨a3, h3.same hv⟩, ⟨a4, h4.same hv⟩, ⟨a5, h5.same hv⟩, ⟨a6, h6.same hv⟩, ⟨a7, h7.same hv⟩, h8.moved hA, h9.moved hA, h10.moved hA⟩
def xPre (g : GC) (w : WD) (U : State) : Prop := Wpr g w U ∧ Exs g U
def rmx (lvl : Nat) : Room := { frames := lvl, cells := 1, slots := 6, locals := 40 * lvl }
theorem x_blind {g : GC} {w : WD} {av : List Value} : FrameBlind (va_Pc av (fun U => xPre g w U)) := fun a U fr mk q => by
  obtain ⟨q0, ⟨⟨qP, qK, qb⟩, qn⟩, qe⟩ := q
  exact ⟨q0, ⟨⟨qP, va_K.moved (u := U) (U := U.calling fr mk a) (Vm.Alike.refl U.vm) qK, qb⟩, qn.same rfl⟩, qe.same rfl rfl⟩
abbrev xQX (g : GC) (E : Option String) (w : WD) : String → State → State → Prop := vx_X (fun (_ : Unit) => True) (fun E' _ t => E = some E' ∧ Wat g w t) (AB g)
/-- returns (E none), or throws E; the world stays -/
def Mx (g : GC) (l : Launch) (y : MethodName) (cc : ByteArray) (nL : Nat) (lvl : Nat) (av : List Value) (w : WD) (E : Option String) : Prop :=
  vx_Met l y (.code y cc nL none :: TW) (rmx lvl) (va_Pc av (fun U => xPre g w U)) (va_Qv (fun (_ : Unit) => E = none) (fun _ t => Wat g w t) (AB g)) (xQX g E w) 1 6 (AB g)
/-- or answers a long -/
def MxL (g : GC) (l : Launch) (y : MethodName) (cc : ByteArray) (nL : Nat) (lvl : Nat) (av : List Value) (w : WD) (E : Option String) (r : Int64) : Prop :=
  vx_Met l y (.code y cc nL (some .long) :: TW) (rmx lvl) (va_Pc av (fun U => xPre g w U)) (va_Ql (fun (r2 : Int64) (_ : Unit) => E = none ∧ r2 = r) (fun _ t => Wat g w t) (AB g)) (xQX g E w) 1 6 (AB g)
theorem wat_later {g : GC} {w : WD} {s t : State} {H : Heap} {locs : List Loc} (hK : va_K g.1 vcls (gtys g) s) (hb : g_b g ≤ s.heap.size) (hP : va_P g.1 vcls (wl g w) H) (hS : va_S (AB g) s.heap H locs) (hA : s.vm.Alike t.vm) (h1 : H.size ≤ t.heap.size) (h2 : ∀ q : Nat, q < H.size → t.heap[q]? = H[q]?) : Wat g w t ∧ va_F (AB g) s t :=
  ⟨⟨fun k q hk => (hP k q hk).kept (h2 q.1 (hP k q hk).lt), va_K.moved hA hK, Nat.le_trans hb (Nat.le_trans hS.1 h1)⟩, ⟨Nat.le_trans hS.1 h1, fun q a b => (h2 q (Nat.lt_of_lt_of_le a hS.1)).trans (hS.2.1 q a b)⟩⟩
section FL
variable {g : GC} {l : Launch} {o : Nat} {v : Int32} {w : WD}
theorem x_Co_fail (hg : gOk g) : Mx g l y_Co_fail c_Co_fail 2 6 [.ref (g_a g o), .int v] w none := by
  refine vx_ofW (cc := c_Co_fail) (maxL := 2) (ret := none) pn_Co rfl ?_
  intro p e s m args below meth c s₁ B hml hex hv
  obtain ⟨rfl, ⟨⟨hP, hK, hb⟩, hnw⟩, hE⟩ := hv
  rw [lg_entry_eq]
  refine W.widen (k := 1) (n := 6) (by omega) (by omega) (vx_ret (W.vret B.exec B.bytes B.returns (fun t ht hW => ⟨⟨(), rfl, rfl, by rw [ht]; exact hP, va_K.moved hW.alike hK, by rw [ht]; exact hb⟩, (va_S.rf (A := AB g)).F ht⟩) (fun q h => nomatch h) d_Co_fail_0 B.notSynchronized))
theorem x_Ho_fail (hg : gOk g) (hlt : l.stackTraces = false) : Mx g l y_Ho_fail c_Ho_fail 2 6 [.ref (g_a g o), .int v] w (if v = 0 then none else some xE_i) := by
  refine vx_ofW (cc := c_Ho_fail) (maxL := 2) (ret := none) pn_Ho rfl ?_
  intro p e s m args below meth c s₁ B hml hex hv
  obtain ⟨rfl, ⟨⟨hP, hK, hb⟩, hnw⟩, hE⟩ := hv
  have hts := atoms_spec (ws := .code y_Ho_fail c_Ho_fail 2 none :: TW) B.pre
  have hown : s.vm.findClass n_Ho = some m.cls := findClass_of_methodNamed B.named
  have htw : ∀ w ∈ TW, w.before _ s = true := fun w hw => hts w (List.mem_cons_of_mem _ hw)
  have hl := lv_entry [Value.ref (g_a g o), Value.int v] (n := 2) (Nat.le_of_ble_eq_true rfl)
  rw [lg_entry_eq]
  generalize (lg_sl [Value.ref (g_a g o), Value.int v] ++ List.replicate (2 - (lg_sl [Value.ref (g_a g o), Value.int v]).length) Slot.unset).toArray = ls at hl ⊢
  refine lv_iload_n B.exec B.bytes d_Ho_fail_0 rfl (lv_at hl 1 rfl) ?_
  refine lv_if_eq (tgt := 14) B.exec B.bytes d_Ho_fail_1 (by decide) (fun c1 => ?_) (fun c1 => ?_)
  · refine W.widen (k := 1) (n := 6) (by omega) (by omega) (vx_ret (W.vret B.exec B.bytes B.returns (fun t ht hW => ⟨⟨(), rfl, if_pos c1, by rw [ht]; exact hP, va_K.moved hW.alike hK, by rw [ht]; exact hb⟩, (va_S.rf (A := AB g)).F ht⟩) (fun q h => nomatch h) d_Ho_fail_14 B.notSynchronized))
  · obtain ⟨sa, hstr⟩ := hE.2.2.1
    refine vx_throwS (own := n_Ho) (cls := xE_i) (text := "a horse fails") (names := x_nm) (ik := 7) (is := 9) (ic := 11) (sa := sa) (A := AB g) B.exec B.bytes hlt hown xf_i xf_nm (htw _ xl_Ho_c) (htw _ xl_i) hstr (fun w hw => (xa_Ho w hw).elim (fun h => htw w h) (fun h => hnw.use h)) xo_Ho hE.1 hE.2.1 va_S.rf (hl.1.trans hml.symm) d_Ho_fail_4 d_Ho_fail_7 d_Ho_fail_8 d_Ho_fail_10 d_Ho_fail_13 (fun x hx => (hex x hx).elim) (by decide) (by decide) (by decide) (by decide) B.notSynchronized (fun t hA h1 h2 => ?_) (fun q h => nomatch h) (by decide) (by decide)
    obtain ⟨q1, q2⟩ := wat_later (locs := []) hK hb hP va_S.rf hA h1 h2
    exact ⟨(), trivial, ⟨if_neg c1, q1⟩, q2⟩
theorem x_Tw_fail (hg : gOk g) (hlt : l.stackTraces = false) : Mx g l y_Tw_fail c_Tw_fail 2 6 [.ref (g_a g o), .int v] w (if v = 0 then none else some xE_u) := by
  refine vx_ofW (cc := c_Tw_fail) (maxL := 2) (ret := none) pn_Tw rfl ?_
  intro p e s m args below meth c s₁ B hml hex hv
  obtain ⟨rfl, ⟨⟨hP, hK, hb⟩, hnw⟩, hE⟩ := hv
  have hts := atoms_spec (ws := .code y_Tw_fail c_Tw_fail 2 none :: TW) B.pre
  have hown : s.vm.findClass n_Tw = some m.cls := findClass_of_methodNamed B.named
  have htw : ∀ w ∈ TW, w.before _ s = true := fun w hw => hts w (List.mem_cons_of_mem _ hw)
  have hl := lv_entry [Value.ref (g_a g o), Value.int v] (n := 2) (Nat.le_of_ble_eq_true rfl)
  rw [lg_entry_eq]
  generalize (lg_sl [Value.ref (g_a g o), Value.int v] ++ List.replicate (2 - (lg_sl [Value.ref (g_a g o), Value.int v]).length) Slot.unset).toArray = ls at hl ⊢
  refine lv_iload_n B.exec B.bytes d_Tw_fail_0 rfl (lv_at hl 1 rfl) ?_
  refine lv_if_eq (tgt := 14) B.exec B.bytes d_Tw_fail_1 (by decide) (fun c1 => ?_) (fun c1 => ?_)
  · refine W.widen (k := 1) (n := 6) (by omega) (by omega) (vx_ret (W.vret B.exec B.bytes B.returns (fun t ht hW => ⟨⟨(), rfl, if_pos c1, by rw [ht]; exact hP, va_K.moved hW.alike hK, by rw [ht]; exact hb⟩, (va_S.rf (A := AB g)).F ht⟩) (fun q h => nomatch h) d_Tw_fail_14 B.notSynchronized))
  · obtain ⟨sa, hstr⟩ := hE.2.2.2.1
    refine vx_throwS (own := n_Tw) (cls := xE_u) (text := "a horse of two homes fails") (names := x_nm) (ik := 18) (is := 20) (ic := 22) (sa := sa) (A := AB g) B.exec B.bytes hlt hown xf_u xf_nm (htw _ xl_Tw_c) (htw _ xl_u) hstr (fun w hw => (xa_Tw w hw).elim (fun h => htw w h) (fun h => hnw.use h)) xo_Tw hE.1 hE.2.1 va_S.rf (hl.1.trans hml.symm) d_Tw_fail_4 d_Tw_fail_7 d_Tw_fail_8 d_Tw_fail_10 d_Tw_fail_13 (fun x hx => (hex x hx).elim) (by decide) (by decide) (by decide) (by decide) B.notSynchronized (fun t hA h1 h2 => ?_) (fun q h => nomatch h) (by decide) (by decide)
    obtain ⟨q1, q2⟩ := wat_later (locs := []) hK hb hP va_S.rf hA h1 h2
    exact ⟨(), trivial, ⟨if_neg c1, q1⟩, q2⟩
theorem x_Ma_fail (hg : gOk g) (hlt : l.stackTraces = false) : Mx g l y_Ma_fail c_Ma_fail 2 6 [.ref (g_a g o), .int v] w (if v = 0 then none else some xE_a) := by
  refine vx_ofW (cc := c_Ma_fail) (maxL := 2) (ret := none) pn_Ma rfl ?_
  intro p e s m args below meth c s₁ B hml hex hv
  obtain ⟨rfl, ⟨⟨hP, hK, hb⟩, hnw⟩, hE⟩ := hv
  have hts := atoms_spec (ws := .code y_Ma_fail c_Ma_fail 2 none :: TW) B.pre
  have hown : s.vm.findClass n_Ma = some m.cls := findClass_of_methodNamed B.named
  have htw : ∀ w ∈ TW, w.before _ s = true := fun w hw => hts w (List.mem_cons_of_mem _ hw)
  have hl := lv_entry [Value.ref (g_a g o), Value.int v] (n := 2) (Nat.le_of_ble_eq_true rfl)
  rw [lg_entry_eq]
  generalize (lg_sl [Value.ref (g_a g o), Value.int v] ++ List.replicate (2 - (lg_sl [Value.ref (g_a g o), Value.int v]).length) Slot.unset).toArray = ls at hl ⊢
  refine lv_iload_n B.exec B.bytes d_Ma_fail_0 rfl (lv_at hl 1 rfl) ?_
  refine lv_if_eq (tgt := 14) B.exec B.bytes d_Ma_fail_1 (by decide) (fun c1 => ?_) (fun c1 => ?_)
  · refine W.widen (k := 1) (n := 6) (by omega) (by omega) (vx_ret (W.vret B.exec B.bytes B.returns (fun t ht hW => ⟨⟨(), rfl, if_pos c1, by rw [ht]; exact hP, va_K.moved hW.alike hK, by rw [ht]; exact hb⟩, (va_S.rf (A := AB g)).F ht⟩) (fun q h => nomatch h) d_Ma_fail_14 B.notSynchronized))
  · obtain ⟨sa, hstr⟩ := hE.2.2.2.2.1
    refine vx_throwS (own := n_Ma) (cls := xE_a) (text := "a mare fails") (names := x_nm) (ik := 25) (is := 27) (ic := 29) (sa := sa) (A := AB g) B.exec B.bytes hlt hown xf_a xf_nm (htw _ xl_Ma_c) (htw _ xl_a) hstr (fun w hw => (xa_Ma w hw).elim (fun h => htw w h) (fun h => hnw.use h)) xo_Ma hE.1 hE.2.1 va_S.rf (hl.1.trans hml.symm) d_Ma_fail_4 d_Ma_fail_7 d_Ma_fail_8 d_Ma_fail_10 d_Ma_fail_13 (fun x hx => (hex x hx).elim) (by decide) (by decide) (by decide) (by decide) B.notSynchronized (fun t hA h1 h2 => ?_) (fun q h => nomatch h) (by decide) (by decide)
    obtain ⟨q1, q2⟩ := wat_later (locs := []) hK hb hP va_S.rf hA h1 h2
    exact ⟨(), trivial, ⟨if_neg c1, q1⟩, q2⟩
end FL
end
