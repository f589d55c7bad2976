section
-- ===== PART A: goes FIRST, ahead of the names: the tables' words, and 'selects' of the private methods out of them =====
/-- a private method of a class that the tables say can be made, by its rows of tables_1 -/
def lw_okq (q : MethodName × Nat) : Prop := (q.1.cls ≠ "java/lang/invoke/MethodHandle" ∧ q.1.cls ≠ "java/lang/invoke/VarHandle") ∧ Cond.instantiable q.1.cls q.2 ∈ tables_1 ∧ Cond.privateMethod q.1 ∈ tables_1 ∧ Cond.instanceMethod q.1 ∈ tables_1
theorem lw_p0 : lw_okq (⟨"HiredByLonging", "refusalOfRow", "(I)I"⟩, 7) := ⟨⟨by decide +kernel, by decide +kernel⟩, List.mem_of_getElem? (i := 24) (by decide +kernel), List.mem_of_getElem? (i := 210) (by decide +kernel), List.mem_of_getElem? (i := 211) (by decide +kernel)⟩
theorem lw_p1 : lw_okq (⟨"HiredByLonging", "refusalOf", "(II)I"⟩, 7) := ⟨⟨by decide +kernel, by decide +kernel⟩, List.mem_of_getElem? (i := 24) (by decide +kernel), List.mem_of_getElem? (i := 214) (by decide +kernel), List.mem_of_getElem? (i := 215) (by decide +kernel)⟩
theorem lw_p2 : lw_okq (⟨"HiredByLonging$Land", "followHorse", "(LHiredByLonging$Shelf;I)Z"⟩, 5) := ⟨⟨by decide +kernel, by decide +kernel⟩, List.mem_of_getElem? (i := 89) (by decide +kernel), List.mem_of_getElem? (i := 250) (by decide +kernel), List.mem_of_getElem? (i := 251) (by decide +kernel)⟩
theorem lw_p3 : lw_okq (⟨"HiredByLonging$Land", "followOats", "(I)Z"⟩, 5) := ⟨⟨by decide +kernel, by decide +kernel⟩, List.mem_of_getElem? (i := 89) (by decide +kernel), List.mem_of_getElem? (i := 269) (by decide +kernel), List.mem_of_getElem? (i := 270) (by decide +kernel)⟩
theorem lw_p4 : lw_okq (⟨"HiredByLonging$Land", "followDays", "(I)Z"⟩, 5) := ⟨⟨by decide +kernel, by decide +kernel⟩, List.mem_of_getElem? (i := 89) (by decide +kernel), List.mem_of_getElem? (i := 273) (by decide +kernel), List.mem_of_getElem? (i := 274) (by decide +kernel)⟩
theorem lw_p5 : lw_okq (⟨"HiredByLonging$Land", "followLonging", "(II)Z"⟩, 5) := ⟨⟨by decide +kernel, by decide +kernel⟩, List.mem_of_getElem? (i := 89) (by decide +kernel), List.mem_of_getElem? (i := 348) (by decide +kernel), List.mem_of_getElem? (i := 349) (by decide +kernel)⟩
theorem lw_p6 : lw_okq (⟨"HiredByLonging", "isHorse", "(I)Z"⟩, 7) := ⟨⟨by decide +kernel, by decide +kernel⟩, List.mem_of_getElem? (i := 24) (by decide +kernel), List.mem_of_getElem? (i := 412) (by decide +kernel), List.mem_of_getElem? (i := 413) (by decide +kernel)⟩
theorem lw_p7 : lw_okq (⟨"HiredByLonging", "refusalOfKind", "(I)I"⟩, 7) := ⟨⟨by decide +kernel, by decide +kernel⟩, List.mem_of_getElem? (i := 24) (by decide +kernel), List.mem_of_getElem? (i := 456) (by decide +kernel), List.mem_of_getElem? (i := 457) (by decide +kernel)⟩
theorem lw_p8 : lw_okq (⟨"HiredByLonging", "daysOfRide", "(LHiredByLonging$Steed;I)I"⟩, 7) := ⟨⟨by decide +kernel, by decide +kernel⟩, List.mem_of_getElem? (i := 24) (by decide +kernel), List.mem_of_getElem? (i := 465) (by decide +kernel), List.mem_of_getElem? (i := 466) (by decide +kernel)⟩
theorem lw_p9 : lw_okq (⟨"HiredByLonging", "daysOfLaterRide", "(LHiredByLonging$Steed;II)I"⟩, 7) := ⟨⟨by decide +kernel, by decide +kernel⟩, List.mem_of_getElem? (i := 24) (by decide +kernel), List.mem_of_getElem? (i := 554) (by decide +kernel), List.mem_of_getElem? (i := 555) (by decide +kernel)⟩
theorem lw_p10 : lw_okq (⟨"HiredByLonging", "feesOf", "(LHiredByLonging$Steed;I)I"⟩, 7) := ⟨⟨by decide +kernel, by decide +kernel⟩, List.mem_of_getElem? (i := 24) (by decide +kernel), List.mem_of_getElem? (i := 583) (by decide +kernel), List.mem_of_getElem? (i := 584) (by decide +kernel)⟩
theorem lw_p11 : lw_okq (⟨"HiredByLonging", "isTold", "(LHiredByLonging$Steed;LHiredByLonging$Shelf;I)Z"⟩, 7) := ⟨⟨by decide +kernel, by decide +kernel⟩, List.mem_of_getElem? (i := 24) (by decide +kernel), List.mem_of_getElem? (i := 622) (by decide +kernel), List.mem_of_getElem? (i := 623) (by decide +kernel)⟩
theorem lw_p12 : lw_okq (⟨"HiredByLonging$Shelf", "leastOfSort", "()I"⟩, 6) := ⟨⟨by decide +kernel, by decide +kernel⟩, List.mem_of_getElem? (i := 152) (by decide +kernel), List.mem_of_getElem? (i := 630) (by decide +kernel), List.mem_of_getElem? (i := 631) (by decide +kernel)⟩
theorem lw_p13 : lw_okq (⟨"HiredByLonging", "kindsTold", "(LHiredByLonging$Shelf;II)I"⟩, 7) := ⟨⟨by decide +kernel, by decide +kernel⟩, List.mem_of_getElem? (i := 24) (by decide +kernel), List.mem_of_getElem? (i := 647) (by decide +kernel), List.mem_of_getElem? (i := 648) (by decide +kernel)⟩
theorem lw_p14 : lw_okq (⟨"HiredByLonging", "figuresTold", "(LHiredByLonging$Shelf;II)I"⟩, 7) := ⟨⟨by decide +kernel, by decide +kernel⟩, List.mem_of_getElem? (i := 24) (by decide +kernel), List.mem_of_getElem? (i := 651) (by decide +kernel), List.mem_of_getElem? (i := 652) (by decide +kernel)⟩
theorem lw_p15 : lw_okq (⟨"HiredByLonging", "isBest", "(IIIII)Z"⟩, 7) := ⟨⟨by decide +kernel, by decide +kernel⟩, List.mem_of_getElem? (i := 24) (by decide +kernel), List.mem_of_getElem? (i := 659) (by decide +kernel), List.mem_of_getElem? (i := 660) (by decide +kernel)⟩
def lw_privs_1 : List (MethodName × Nat) := [(⟨"HiredByLonging", "refusalOfRow", "(I)I"⟩, 7), (⟨"HiredByLonging", "refusalOf", "(II)I"⟩, 7), (⟨"HiredByLonging$Land", "followHorse", "(LHiredByLonging$Shelf;I)Z"⟩, 5), (⟨"HiredByLonging$Land", "followOats", "(I)Z"⟩, 5), (⟨"HiredByLonging$Land", "followDays", "(I)Z"⟩, 5), (⟨"HiredByLonging$Land", "followLonging", "(II)Z"⟩, 5), (⟨"HiredByLonging", "isHorse", "(I)Z"⟩, 7), (⟨"HiredByLonging", "refusalOfKind", "(I)I"⟩, 7), (⟨"HiredByLonging", "daysOfRide", "(LHiredByLonging$Steed;I)I"⟩, 7), (⟨"HiredByLonging", "daysOfLaterRide", "(LHiredByLonging$Steed;II)I"⟩, 7), (⟨"HiredByLonging", "feesOf", "(LHiredByLonging$Steed;I)I"⟩, 7), (⟨"HiredByLonging", "isTold", "(LHiredByLonging$Steed;LHiredByLonging$Shelf;I)Z"⟩, 7), (⟨"HiredByLonging$Shelf", "leastOfSort", "()I"⟩, 6), (⟨"HiredByLonging", "kindsTold", "(LHiredByLonging$Shelf;II)I"⟩, 7), (⟨"HiredByLonging", "figuresTold", "(LHiredByLonging$Shelf;II)I"⟩, 7), (⟨"HiredByLonging", "isBest", "(IIIII)Z"⟩, 7)]
theorem lw_r1 : ∀ q ∈ lw_privs_1, lw_okq q := List.forall_mem_cons.mpr ⟨lw_p0, List.forall_mem_cons.mpr ⟨lw_p1, List.forall_mem_cons.mpr ⟨lw_p2, List.forall_mem_cons.mpr ⟨lw_p3, List.forall_mem_cons.mpr ⟨lw_p4, List.forall_mem_cons.mpr ⟨lw_p5, List.forall_mem_cons.mpr ⟨lw_p6, List.forall_mem_cons.mpr ⟨lw_p7, List.forall_mem_cons.mpr ⟨lw_p8, List.forall_mem_cons.mpr ⟨lw_p9, List.forall_mem_cons.mpr ⟨lw_p10, List.forall_mem_cons.mpr ⟨lw_p11, List.forall_mem_cons.mpr ⟨lw_p12, List.forall_mem_cons.mpr ⟨lw_p13, List.forall_mem_cons.mpr ⟨lw_p14, List.forall_mem_cons.mpr ⟨lw_p15, fun _ h => absurd h List.not_mem_nil⟩⟩⟩⟩⟩⟩⟩⟩⟩⟩⟩⟩⟩⟩⟩⟩
theorem lw_p16 : lw_okq (⟨"java/lang/Throwable", "fillInStackTrace", "(I)Ljava/lang/Throwable;"⟩, 6) := ⟨⟨by decide +kernel, by decide +kernel⟩, List.mem_of_getElem? (i := 809) (by decide +kernel), List.mem_of_getElem? (i := 807) (by decide +kernel), List.mem_of_getElem? (i := 808) (by decide +kernel)⟩
theorem lw_p17 : lw_okq (⟨"HiredByLongingModel", "wrongRow", "(I)I"⟩, 35) := ⟨⟨by decide +kernel, by decide +kernel⟩, List.mem_of_getElem? (i := 888) (by decide +kernel), List.mem_of_getElem? (i := 1009) (by decide +kernel), List.mem_of_getElem? (i := 1010) (by decide +kernel)⟩
theorem lw_p18 : lw_okq (⟨"HiredByLongingModel", "readStatement", "()V"⟩, 35) := ⟨⟨by decide +kernel, by decide +kernel⟩, List.mem_of_getElem? (i := 888) (by decide +kernel), List.mem_of_getElem? (i := 1017) (by decide +kernel), List.mem_of_getElem? (i := 1018) (by decide +kernel)⟩
theorem lw_p19 : lw_okq (⟨"HiredByLongingModel", "here", "()I"⟩, 35) := ⟨⟨by decide +kernel, by decide +kernel⟩, List.mem_of_getElem? (i := 888) (by decide +kernel), List.mem_of_getElem? (i := 1021) (by decide +kernel), List.mem_of_getElem? (i := 1022) (by decide +kernel)⟩
theorem lw_p20 : lw_okq (⟨"HiredByLongingModel", "readNumbers", "(II)V"⟩, 35) := ⟨⟨by decide +kernel, by decide +kernel⟩, List.mem_of_getElem? (i := 888) (by decide +kernel), List.mem_of_getElem? (i := 1028) (by decide +kernel), List.mem_of_getElem? (i := 1029) (by decide +kernel)⟩
theorem lw_p21 : lw_okq (⟨"HiredByLongingModel", "readDigits", "(I)I"⟩, 35) := ⟨⟨by decide +kernel, by decide +kernel⟩, List.mem_of_getElem? (i := 888) (by decide +kernel), List.mem_of_getElem? (i := 1032) (by decide +kernel), List.mem_of_getElem? (i := 1033) (by decide +kernel)⟩
theorem lw_p22 : lw_okq (⟨"HiredByLongingModel", "open", "()V"⟩, 35) := ⟨⟨by decide +kernel, by decide +kernel⟩, List.mem_of_getElem? (i := 888) (by decide +kernel), List.mem_of_getElem? (i := 1038) (by decide +kernel), List.mem_of_getElem? (i := 1039) (by decide +kernel)⟩
theorem lw_p23 : lw_okq (⟨"HiredByLongingModel", "carryAll", "([IZ)V"⟩, 35) := ⟨⟨by decide +kernel, by decide +kernel⟩, List.mem_of_getElem? (i := 888) (by decide +kernel), List.mem_of_getElem? (i := 1042) (by decide +kernel), List.mem_of_getElem? (i := 1043) (by decide +kernel)⟩
theorem lw_p24 : lw_okq (⟨"HiredByLongingModel", "carry", "(I)I"⟩, 35) := ⟨⟨by decide +kernel, by decide +kernel⟩, List.mem_of_getElem? (i := 888) (by decide +kernel), List.mem_of_getElem? (i := 1046) (by decide +kernel), List.mem_of_getElem? (i := 1047) (by decide +kernel)⟩
theorem lw_p25 : lw_okq (⟨"HiredByLongingModel", "comesTold", "(I)Z"⟩, 35) := ⟨⟨by decide +kernel, by decide +kernel⟩, List.mem_of_getElem? (i := 888) (by decide +kernel), List.mem_of_getElem? (i := 1050) (by decide +kernel), List.mem_of_getElem? (i := 1051) (by decide +kernel)⟩
theorem lw_p26 : lw_okq (⟨"HiredByLongingModel", "horseComes", "(IIII)Z"⟩, 35) := ⟨⟨by decide +kernel, by decide +kernel⟩, List.mem_of_getElem? (i := 888) (by decide +kernel), List.mem_of_getElem? (i := 1054) (by decide +kernel), List.mem_of_getElem? (i := 1055) (by decide +kernel)⟩
theorem lw_p27 : lw_okq (⟨"HiredByLongingModel", "isHorse", "(I)Z"⟩, 35) := ⟨⟨by decide +kernel, by decide +kernel⟩, List.mem_of_getElem? (i := 888) (by decide +kernel), List.mem_of_getElem? (i := 1062) (by decide +kernel), List.mem_of_getElem? (i := 1063) (by decide +kernel)⟩
theorem lw_p28 : lw_okq (⟨"HiredByLongingModel", "ride", "(II)I"⟩, 35) := ⟨⟨by decide +kernel, by decide +kernel⟩, List.mem_of_getElem? (i := 888) (by decide +kernel), List.mem_of_getElem? (i := 1066) (by decide +kernel), List.mem_of_getElem? (i := 1067) (by decide +kernel)⟩
theorem lw_p29 : lw_okq (⟨"HiredByLongingModel", "rideOn", "(II)V"⟩, 35) := ⟨⟨by decide +kernel, by decide +kernel⟩, List.mem_of_getElem? (i := 888) (by decide +kernel), List.mem_of_getElem? (i := 1070) (by decide +kernel), List.mem_of_getElem? (i := 1071) (by decide +kernel)⟩
theorem lw_p30 : lw_okq (⟨"HiredByLongingModel", "goalOf", "(I)I"⟩, 35) := ⟨⟨by decide +kernel, by decide +kernel⟩, List.mem_of_getElem? (i := 888) (by decide +kernel), List.mem_of_getElem? (i := 1074) (by decide +kernel), List.mem_of_getElem? (i := 1075) (by decide +kernel)⟩
theorem lw_p31 : lw_okq (⟨"HiredByLongingModel", "paceOf", "(I)I"⟩, 35) := ⟨⟨by decide +kernel, by decide +kernel⟩, List.mem_of_getElem? (i := 888) (by decide +kernel), List.mem_of_getElem? (i := 1081) (by decide +kernel), List.mem_of_getElem? (i := 1082) (by decide +kernel)⟩
def lw_privs_2 : List (MethodName × Nat) := [(⟨"java/lang/Throwable", "fillInStackTrace", "(I)Ljava/lang/Throwable;"⟩, 6), (⟨"HiredByLongingModel", "wrongRow", "(I)I"⟩, 35), (⟨"HiredByLongingModel", "readStatement", "()V"⟩, 35), (⟨"HiredByLongingModel", "here", "()I"⟩, 35), (⟨"HiredByLongingModel", "readNumbers", "(II)V"⟩, 35), (⟨"HiredByLongingModel", "readDigits", "(I)I"⟩, 35), (⟨"HiredByLongingModel", "open", "()V"⟩, 35), (⟨"HiredByLongingModel", "carryAll", "([IZ)V"⟩, 35), (⟨"HiredByLongingModel", "carry", "(I)I"⟩, 35), (⟨"HiredByLongingModel", "comesTold", "(I)Z"⟩, 35), (⟨"HiredByLongingModel", "horseComes", "(IIII)Z"⟩, 35), (⟨"HiredByLongingModel", "isHorse", "(I)Z"⟩, 35), (⟨"HiredByLongingModel", "ride", "(II)I"⟩, 35), (⟨"HiredByLongingModel", "rideOn", "(II)V"⟩, 35), (⟨"HiredByLongingModel", "goalOf", "(I)I"⟩, 35), (⟨"HiredByLongingModel", "paceOf", "(I)I"⟩, 35)]
theorem lw_r2 : ∀ q ∈ lw_privs_2, lw_okq q := List.forall_mem_cons.mpr ⟨lw_p16, List.forall_mem_cons.mpr ⟨lw_p17, List.forall_mem_cons.mpr ⟨lw_p18, List.forall_mem_cons.mpr ⟨lw_p19, List.forall_mem_cons.mpr ⟨lw_p20, List.forall_mem_cons.mpr ⟨lw_p21, List.forall_mem_cons.mpr ⟨lw_p22, List.forall_mem_cons.mpr ⟨lw_p23, List.forall_mem_cons.mpr ⟨lw_p24, List.forall_mem_cons.mpr ⟨lw_p25, List.forall_mem_cons.mpr ⟨lw_p26, List.forall_mem_cons.mpr ⟨lw_p27, List.forall_mem_cons.mpr ⟨lw_p28, List.forall_mem_cons.mpr ⟨lw_p29, List.forall_mem_cons.mpr ⟨lw_p30, List.forall_mem_cons.mpr ⟨lw_p31, fun _ h => absurd h List.not_mem_nil⟩⟩⟩⟩⟩⟩⟩⟩⟩⟩⟩⟩⟩⟩⟩⟩
theorem lw_p32 : lw_okq (⟨"HiredByLongingModel", "walkOf", "(I)I"⟩, 35) := ⟨⟨by decide +kernel, by decide +kernel⟩, List.mem_of_getElem? (i := 888) (by decide +kernel), List.mem_of_getElem? (i := 1088) (by decide +kernel), List.mem_of_getElem? (i := 1089) (by decide +kernel)⟩
theorem lw_p33 : lw_okq (⟨"HiredByLongingModel", "dayBy", "(Z)V"⟩, 35) := ⟨⟨by decide +kernel, by decide +kernel⟩, List.mem_of_getElem? (i := 888) (by decide +kernel), List.mem_of_getElem? (i := 1092) (by decide +kernel), List.mem_of_getElem? (i := 1093) (by decide +kernel)⟩
theorem lw_p34 : lw_okq (⟨"HiredByLongingModel", "pinesOf", "(I)I"⟩, 35) := ⟨⟨by decide +kernel, by decide +kernel⟩, List.mem_of_getElem? (i := 888) (by decide +kernel), List.mem_of_getElem? (i := 1096) (by decide +kernel), List.mem_of_getElem? (i := 1097) (by decide +kernel)⟩
theorem lw_p35 : lw_okq (⟨"HiredByLongingModel", "daysCome", "(I)Z"⟩, 35) := ⟨⟨by decide +kernel, by decide +kernel⟩, List.mem_of_getElem? (i := 888) (by decide +kernel), List.mem_of_getElem? (i := 1100) (by decide +kernel), List.mem_of_getElem? (i := 1101) (by decide +kernel)⟩
theorem lw_p36 : lw_okq (⟨"HiredByLongingModel", "goDays", "(I)V"⟩, 35) := ⟨⟨by decide +kernel, by decide +kernel⟩, List.mem_of_getElem? (i := 888) (by decide +kernel), List.mem_of_getElem? (i := 1105) (by decide +kernel), List.mem_of_getElem? (i := 1106) (by decide +kernel)⟩
theorem lw_p37 : lw_okq (⟨"HiredByLongingModel", "close", "()V"⟩, 35) := ⟨⟨by decide +kernel, by decide +kernel⟩, List.mem_of_getElem? (i := 888) (by decide +kernel), List.mem_of_getElem? (i := 1109) (by decide +kernel), List.mem_of_getElem? (i := 1110) (by decide +kernel)⟩
theorem lw_p38 : lw_okq (⟨"HiredByLongingModel", "wrongKept", "(I)I"⟩, 35) := ⟨⟨by decide +kernel, by decide +kernel⟩, List.mem_of_getElem? (i := 888) (by decide +kernel), List.mem_of_getElem? (i := 1129) (by decide +kernel), List.mem_of_getElem? (i := 1130) (by decide +kernel)⟩
theorem lw_p39 : lw_okq (⟨"HiredByLongingModel", "allLonging", "()I"⟩, 35) := ⟨⟨by decide +kernel, by decide +kernel⟩, List.mem_of_getElem? (i := 888) (by decide +kernel), List.mem_of_getElem? (i := 1154) (by decide +kernel), List.mem_of_getElem? (i := 1155) (by decide +kernel)⟩
theorem lw_p40 : lw_okq (⟨"HiredByLongingModel", "ownRide", "(II)I"⟩, 35) := ⟨⟨by decide +kernel, by decide +kernel⟩, List.mem_of_getElem? (i := 888) (by decide +kernel), List.mem_of_getElem? (i := 1162) (by decide +kernel), List.mem_of_getElem? (i := 1163) (by decide +kernel)⟩
theorem lw_p41 : lw_okq (⟨"HiredByLongingModel", "takeChain", "(II)V"⟩, 35) := ⟨⟨by decide +kernel, by decide +kernel⟩, List.mem_of_getElem? (i := 888) (by decide +kernel), List.mem_of_getElem? (i := 1174) (by decide +kernel), List.mem_of_getElem? (i := 1175) (by decide +kernel)⟩
theorem lw_p42 : lw_okq (⟨"HiredByLongingModel", "secondRides", "(IIII)V"⟩, 35) := ⟨⟨by decide +kernel, by decide +kernel⟩, List.mem_of_getElem? (i := 888) (by decide +kernel), List.mem_of_getElem? (i := 1178) (by decide +kernel), List.mem_of_getElem? (i := 1179) (by decide +kernel)⟩
theorem lw_p43 : lw_okq (⟨"HiredByLongingModel", "thirdRides", "(IIIII)V"⟩, 35) := ⟨⟨by decide +kernel, by decide +kernel⟩, List.mem_of_getElem? (i := 888) (by decide +kernel), List.mem_of_getElem? (i := 1182) (by decide +kernel), List.mem_of_getElem? (i := 1183) (by decide +kernel)⟩
theorem lw_p44 : lw_okq (⟨"HiredByLongingModel", "feesOf", "(II)I"⟩, 35) := ⟨⟨by decide +kernel, by decide +kernel⟩, List.mem_of_getElem? (i := 888) (by decide +kernel), List.mem_of_getElem? (i := 1236) (by decide +kernel), List.mem_of_getElem? (i := 1237) (by decide +kernel)⟩
theorem lw_p45 : lw_okq (⟨"HiredByLongingModel", "isRow", "(III)Z"⟩, 35) := ⟨⟨by decide +kernel, by decide +kernel⟩, List.mem_of_getElem? (i := 888) (by decide +kernel), List.mem_of_getElem? (i := 1247) (by decide +kernel), List.mem_of_getElem? (i := 1248) (by decide +kernel)⟩
theorem lw_p46 : lw_okq (⟨"HiredByLongingModel", "skipped", "(I)J"⟩, 35) := ⟨⟨by decide +kernel, by decide +kernel⟩, List.mem_of_getElem? (i := 888) (by decide +kernel), List.mem_of_getElem? (i := 1251) (by decide +kernel), List.mem_of_getElem? (i := 1252) (by decide +kernel)⟩
theorem lw_p47 : lw_okq (⟨"HiredByLongingModel", "waitedRide", "(III)I"⟩, 35) := ⟨⟨by decide +kernel, by decide +kernel⟩, List.mem_of_getElem? (i := 888) (by decide +kernel), List.mem_of_getElem? (i := 1266) (by decide +kernel), List.mem_of_getElem? (i := 1267) (by decide +kernel)⟩
def lw_privs_3 : List (MethodName × Nat) := [(⟨"HiredByLongingModel", "walkOf", "(I)I"⟩, 35), (⟨"HiredByLongingModel", "dayBy", "(Z)V"⟩, 35), (⟨"HiredByLongingModel", "pinesOf", "(I)I"⟩, 35), (⟨"HiredByLongingModel", "daysCome", "(I)Z"⟩, 35), (⟨"HiredByLongingModel", "goDays", "(I)V"⟩, 35), (⟨"HiredByLongingModel", "close", "()V"⟩, 35), (⟨"HiredByLongingModel", "wrongKept", "(I)I"⟩, 35), (⟨"HiredByLongingModel", "allLonging", "()I"⟩, 35), (⟨"HiredByLongingModel", "ownRide", "(II)I"⟩, 35), (⟨"HiredByLongingModel", "takeChain", "(II)V"⟩, 35), (⟨"HiredByLongingModel", "secondRides", "(IIII)V"⟩, 35), (⟨"HiredByLongingModel", "thirdRides", "(IIIII)V"⟩, 35), (⟨"HiredByLongingModel", "feesOf", "(II)I"⟩, 35), (⟨"HiredByLongingModel", "isRow", "(III)Z"⟩, 35), (⟨"HiredByLongingModel", "skipped", "(I)J"⟩, 35), (⟨"HiredByLongingModel", "waitedRide", "(III)I"⟩, 35)]
theorem lw_r3 : ∀ q ∈ lw_privs_3, lw_okq q := List.forall_mem_cons.mpr ⟨lw_p32, List.forall_mem_cons.mpr ⟨lw_p33, List.forall_mem_cons.mpr ⟨lw_p34, List.forall_mem_cons.mpr ⟨lw_p35, List.forall_mem_cons.mpr ⟨lw_p36, List.forall_mem_cons.mpr ⟨lw_p37, List.forall_mem_cons.mpr ⟨lw_p38, List.forall_mem_cons.mpr ⟨lw_p39, List.forall_mem_cons.mpr ⟨lw_p40, List.forall_mem_cons.mpr ⟨lw_p41, List.forall_mem_cons.mpr ⟨lw_p42, List.forall_mem_cons.mpr ⟨lw_p43, List.forall_mem_cons.mpr ⟨lw_p44, List.forall_mem_cons.mpr ⟨lw_p45, List.forall_mem_cons.mpr ⟨lw_p46, List.forall_mem_cons.mpr ⟨lw_p47, fun _ h => absurd h List.not_mem_nil⟩⟩⟩⟩⟩⟩⟩⟩⟩⟩⟩⟩⟩⟩⟩⟩
theorem lw_p48 : lw_okq (⟨"HiredByLongingModel", "hasBy", "(III)I"⟩, 35) := ⟨⟨by decide +kernel, by decide +kernel⟩, List.mem_of_getElem? (i := 888) (by decide +kernel), List.mem_of_getElem? (i := 1270) (by decide +kernel), List.mem_of_getElem? (i := 1271) (by decide +kernel)⟩
theorem lw_p49 : lw_okq (⟨"HiredByLongingModel", "drawBelow", "(I)I"⟩, 35) := ⟨⟨by decide +kernel, by decide +kernel⟩, List.mem_of_getElem? (i := 888) (by decide +kernel), List.mem_of_getElem? (i := 1305) (by decide +kernel), List.mem_of_getElem? (i := 1306) (by decide +kernel)⟩
theorem lw_p50 : lw_okq (⟨"HiredByLongingModel", "atGoals", "()I"⟩, 35) := ⟨⟨by decide +kernel, by decide +kernel⟩, List.mem_of_getElem? (i := 888) (by decide +kernel), List.mem_of_getElem? (i := 1312) (by decide +kernel), List.mem_of_getElem? (i := 1313) (by decide +kernel)⟩
def lw_privs_4 : List (MethodName × Nat) := [(⟨"HiredByLongingModel", "hasBy", "(III)I"⟩, 35), (⟨"HiredByLongingModel", "drawBelow", "(I)I"⟩, 35), (⟨"HiredByLongingModel", "atGoals", "()I"⟩, 35)]
theorem lw_r4 : ∀ q ∈ lw_privs_4, lw_okq q := List.forall_mem_cons.mpr ⟨lw_p48, List.forall_mem_cons.mpr ⟨lw_p49, List.forall_mem_cons.mpr ⟨lw_p50, fun _ h => absurd h List.not_mem_nil⟩⟩⟩
def lw_privs : List (MethodName × Nat) := lw_privs_1 ++ (lw_privs_2 ++ (lw_privs_3 ++ (lw_privs_4)))
def lw_tbl : List Cond := k2_sels lw_privs ++ tables_1
theorem lw_privs_ok : ∀ q ∈ lw_privs, lw_okq q := by
  show ∀ q ∈ lw_privs_1 ++ (lw_privs_2 ++ (lw_privs_3 ++ (lw_privs_4))), lw_okq q
  exact List.forall_mem_append.mpr ⟨lw_r1, List.forall_mem_append.mpr ⟨lw_r2, List.forall_mem_append.mpr ⟨lw_r3, lw_r4⟩⟩⟩
-- ===== end of PART A; then your names; then what follows =====
/-- the words that every method takes: those of the tables that keep -/
def TW : List Cond := lw_tbl.filter goodWord
theorem tw_all : lw_tbl.all goodWord = true := by decide +kernel
end
section
/-! THE WORLD: one list of cells for both objects; what they hold told by numbers. -/
def n_Ho : String := "HiredByLonging$Horse"
def n_Co : String := "HiredByLonging$Content"
def n_Bl : String := "HiredByLonging$Blind"
def n_Tw : String := "HiredByLonging$Two"
def n_Dr : String := "HiredByLonging$Drowned"
def n_Fo : String := "HiredByLonging$Foal"
def n_Ma : String := "HiredByLonging$Mare"
def n_Ge : String := "HiredByLonging$Gelding"
def n_St : String := "HiredByLonging$Steed"
def n_La : String := "HiredByLonging$Land"
def n_Sh : String := "HiredByLonging$Shelf"
def n_Hb : String := "HiredByLonging"
def n_Mo : String := "HiredByLongingModel"
def n_Lw : String := "HiredByLongingLaw"
def n_In : String := "java/lang/Intege\x72"
def T_0 : u_T := fun _ => ("", "", "", false)
def T_St : u_T := fun k => match k with
  | 0 => (n_St, "kind", "LHiredByLonging$Horse;", false)
  | 1 => (n_St, "figure", "I", false)
  | 2 => (n_St, "home", "I", false)
  | 3 => (n_St, "at", "I", false)
  | _ => (n_St, "longing", "I", false)
def T_La : u_T := fun k => match k with
  | 0 => (n_La, "kinds", "[LHiredByLonging$Horse;", true)
  | 1 => (n_La, "steeds", "[LHiredByLonging$Steed;", true)
  | 2 => (n_La, "horses", "I", false)
  | 3 => (n_La, "oats", "I", false)
  | _ => (n_La, "day", "I", false)
def T_Sh : u_T := fun k => match k with
  | 0 => (n_Sh, "holds", "I", false)
  | 1 => (n_Sh, "kind", "LHiredByLonging$Horse;", false)
  | 2 => (n_Sh, "figure", "I", false)
  | 3 => (n_Sh, "sort", "I", false)
  | 4 => (n_Sh, "size", "I", false)
  | _ => (n_Sh, "elements", "[I", true)
def T_Hb : u_T := fun k => match k with
  | 0 => (n_Hb, "kinds", "[LHiredByLonging$Horse;", true)
  | 1 => (n_Hb, "now", "LHiredByLonging$Land;", true)
  | 2 => (n_Hb, "image", "LHiredByLonging$Land;", true)
  | 3 => (n_Hb, "minds", "[LHiredByLonging$Land;", true)
  | 4 => (n_Hb, "one", "LHiredByLonging$Steed;", true)
  | 5 => (n_Hb, "shelves", "[LHiredByLonging$Shelf;", true)
  | _ => (n_Hb, "imageTaken", "Z", false)
def T_Mo : u_T := fun k => match k with
  | 0 => (n_Mo, "horses", "I", false)
  | 1 => (n_Mo, "kinds", "[I", true)
  | 2 => (n_Mo, "figures", "[I", true)
  | 3 => (n_Mo, "homes0", "[I", true)
  | 4 => (n_Mo, "at0", "[I", true)
  | 5 => (n_Mo, "longing", "[I", true)
  | 6 => (n_Mo, "oats", "I", false)
  | 7 => (n_Mo, "today", "I", false)
  | 8 => (n_Mo, "holdsWhat", "[I", true)
  | 9 => (n_Mo, "keptKind", "[I", true)
  | 10 => (n_Mo, "keptFigure", "[I", true)
  | 11 => (n_Mo, "rowSort", "[I", true)
  | 12 => (n_Mo, "rowMany", "[I", true)
  | 13 => (n_Mo, "rows", "[J", true)
  | 14 => (n_Mo, "thrown", "I", false)
  | 15 => (n_Mo, "reading", "I", false)
  | 16 => (n_Mo, "place", "I", false)
  | 17 => (n_Mo, "isBad", "Z", false)
  | 18 => (n_Mo, "statements", "I", false)
  | 19 => (n_Mo, "placeIn", "[I", true)
  | 20 => (n_Mo, "letterOf", "[I", true)
  | 21 => (n_Mo, "told", "[I", true)
  | 22 => (n_Mo, "kept", "[I", true)
  | 23 => (n_Mo, "kept1", "[I", true)
  | 24 => (n_Mo, "kept2", "[I", true)
  | 25 => (n_Mo, "imaged", "[I", true)
  | 26 => (n_Mo, "hasImage", "Z", false)
  | 27 => (n_Mo, "place0", "I", false)
  | 28 => (n_Mo, "isTaking", "Z", false)
  | 29 => (n_Mo, "keptIn", "[I", false)
  | 30 => (n_Mo, "chainDays", "I", false)
  | 31 => (n_Mo, "chainFirst", "I", false)
  | 32 => (n_Mo, "thereBy", "[I", true)
  | 33 => (n_Mo, "seed", "I", false)
  | _ => (n_Mo, "between", "[J", true)
/-- the words that every method takes: those of the tables that keep -/
def TW : List Cond := lw_tbl.filter goodWord
theorem tw_of {w : Cond} (i : Nat) (h : lw_tbl[i]? = some w) (g : goodWord w = true) : w ∈ TW := List.mem_filter.mpr ⟨List.mem_of_getElem? h, g⟩
theorem tw_good {w : Cond} (h : w ∈ TW) : (w.onTables && w.keeps) = true ∨ ∃ ty, w = .arrayClass ty := good_of_word (List.mem_filter.mp h).2
/-- a callee's words among its caller's -/
theorem tw_in {a b : Cond} {ex : List Cond} (hb : b ∈ TW) (he : ∀ w ∈ ex, w ∈ TW) : GoodIn (a :: TW) (ex ++ b :: TW) := by
  intro w hw
  have h : w ∈ TW := by
    rcases List.mem_append.mp hw with h | h
    · exact he w h
    · rcases List.mem_cons.mp h with rfl | h
      · exact hb
      · exact h
  exact ⟨List.mem_cons_of_mem _ h, tw_good h⟩
theorem tw_in0 {b : Cond} {ex : List Cond} (hb : b ∈ TW) (he : ∀ w ∈ ex, w ∈ TW) : GoodIn TW (ex ++ b :: TW) := by
  intro w hw
  have h : w ∈ TW := by
    rcases List.mem_append.mp hw with h | h
    · exact he w h
    · rcases List.mem_cons.mp h with rfl | h
      · exact hb
      · exact h
  exact ⟨h, tw_good h⟩
abbrev vcls : List vw_C := [(n_Ho, T_0, 0), (n_Co, T_0, 0), (n_Bl, T_0, 0), (n_Tw, T_0, 0), (n_Dr, T_0, 0), (n_Fo, T_0, 0), (n_Ma, T_0, 0), (n_Ge, T_0, 0), (n_St, T_St, 5), (n_La, T_La, 5), (n_Sh, T_Sh, 6), (n_Hb, T_Hb, 7), (n_Mo, T_Mo, 35)]
/-- the fixed things: classes and slots, the arrays' classes, the addresses, the first address that is the law's -/
abbrev GC : Type := va_G × (Nat → ClassId) × (Nat → Nat) × Nat
abbrev g_a (g : GC) : Nat → Nat := g.2.2.1
abbrev g_b (g : GC) : Nat := g.2.2.2
abbrev g_c (g : GC) : Nat → ClassId := g.2.1
abbrev gtys (g : GC) : List (ClassId × FieldType) := [(g_c g 0, .int), (g_c g 1, .long), (g_c g 2, .object n_Ho), (g_c g 3, .object n_St), (g_c g 4, .object n_La), (g_c g 5, .object n_Sh)]
abbrev XD : Type := Nat → Nat → Int32
abbrev JD : Type := Nat → Nat → Int64
/-- the reference's numbers: ints, longs, which array keptIn is (0: null) -/
abbrev MD : Type := XD × JD × Nat
/-- both sides, and the law's own long -/
abbrev WD : Type := XD × MD × (Nat → Int64)
def x_up {α : Type} (w : Nat → Nat → α) (k j : Nat) (v : α) : Nat → Nat → α := fun a b => if a = k then (if b = j then v else w a b) else w a b
abbrev rfs (f : Nat → Nat) : (Nat → Int32) ⊕ (Nat → Int64) ⊕ (Nat → UInt32) ⊕ (Nat → UInt64) ⊕ (Nat → Option Nat) := .inr (.inr (.inr (.inr fun i => some (f i))))
def shX (g : GC) (k : Nat) (d : Nat → Int32) : va_E :=
  if k = 0 then .inr (11, [.ref (g_a g 1), .ref (g_a g 10), .ref (g_a g 11), .ref (g_a g 65), .ref (g_a g 64), .ref (g_a g 66), .int (d 6)])
  else if k = 1 then .inl (g_c g 2, 8, rfs fun i => g_a g (2 + i))
  else if k < 10 then .inr (k - 2, [])
  else if k < 16 then .inr (9, [.ref (g_a g 1), .ref (g_a g (k + 6)), .int (d 2), .int (d 3), .int (d 4)])
  else if k < 22 then .inl (g_c g 3, 7, rfs fun i => g_a g (22 + 7 * (k - 16) + i))
  else if k < 65 then .inr (8, [.ref (g_a g (2 + (d 0).toNatClampNeg)), .int (d 1), .int (d 2), .int (d 3), .int (d 4)])
  else if k = 65 then .inl (g_c g 4, 4, rfs fun i => g_a g (12 + i))
  else if k = 66 then .inl (g_c g 5, 8, rfs fun i => g_a g (67 + i))
  else if k < 75 then .inr (10, [.int (d 0), .ref (g_a g (2 + (d 1).toNatClampNeg)), .int (d 2), .int (d 3), .int (d 4), .ref (g_a g (k + 8))])
  else .inl (g_c g 0, 100, .inl d)
def shN (k : Nat) : Nat := if k < 89 then 7 else if k < 94 then 8 else if k < 97 then 51 else if k < 98 then 204 else if k < 102 then 38 else 4
def shM (g : GC) (k : Nat) (d : Nat → Int32) (j : Nat → Int64) (q : Nat) : va_E :=
  if k = 83 then .inr (12, [.int (d 0), .ref (g_a g 84), .ref (g_a g 85), .ref (g_a g 86), .ref (g_a g 87), .ref (g_a g 88), .int (d 6), .int (d 7), .ref (g_a g 89), .ref (g_a g 90), .ref (g_a g 91), .ref (g_a g 92), .ref (g_a g 93), .ref (g_a g 94), .int (d 14), .int (d 15), .int (d 16), .int (d 17), .int (d 18), .ref (g_a g 95), .ref (g_a g 96), .ref (g_a g 97), .ref (g_a g 98), .ref (g_a g 99), .ref (g_a g 100), .ref (g_a g 101), .int (d 26), .int (d 27), .int (d 28), (if q = 0 then .null else .ref (g_a g q)), .int (d 30), .int (d 31), .ref (g_a g 102), .int (d 33), .ref (g_a g 103)])
  else if k = 94 then .inl (g_c g 1, 800, .inr (.inl j))
  else if k = 103 then .inl (g_c g 1, 100, .inr (.inl j))
  else .inl (g_c g 0, shN k, .inl d)
def shW (g : GC) (w : WD) (k : Nat) : va_E := if k < 83 then shX g k (w.1 k) else if k < 104 then shM g k (w.2.1.1 k) (w.2.1.2.1 k) w.2.1.2.2 else .inl (g_c g 1, 1, .inr (.inl w.2.2))
def wl (g : GC) (w : WD) : va_W := (List.range 105).map fun k => (g_a g k, shW g w k)
theorem wl_at {g : GC} {w : WD} {k : Nat} (h : k < 105) : (wl g w)[k]? = some (g_a g k, shW g w k) := by simp [wl, h]
theorem wl_set {g : GC} {w w' : WD} {k : Nat} {v : va_E} (hk : k < 105) (hv : shW g w' k = v) (ho : ∀ j, j ≠ k → shW g w' j = shW g w j) : (wl g w).set k (g_a g k, v) = wl g w' := by
  refine List.ext_getElem? fun i => ?_
  rw [List.getElem?_set]
  rcases Nat.lt_or_ge i 105 with h | h
  · rw [wl_at (w := w) h, wl_at (w := w') h]
    by_cases e : k = i
    · subst e
      simp [wl, hk, hv]
    · rw [if_neg e, ho i (fun q => e q.symm)]
  · rw [if_neg (by omega)]
    simp [wl, h]
def gOk (g : GC) : Prop := (∀ i j : Nat, i < 105 → j < 105 → g_a g i = g_a g j → i = j) ∧ ∀ k : Nat, k < 105 → g_b g ≤ g_a g k
theorem gOk.d {g : GC} (h : gOk g) (w : WD) : va_D (fun q => g_b g ≤ q) (wl g w) := by
  have key : ∀ (i : Nat) (p : Nat × va_E), (wl g w)[i]? = some p → i < 105 ∧ p.1 = g_a g i := by
    intro i p hi
    have h1 : i < 105 := by
      rcases Nat.lt_or_ge i 105 with q | q
      · exact q
      · simp [wl, q] at hi
    rw [wl_at h1] at hi
    cases hi
    exact ⟨h1, rfl⟩
  refine ⟨fun i j p q hi hj e => ?_, fun k q hk => ?_⟩
  · obtain ⟨a1, a2⟩ := key i p hi
    obtain ⟨b1, b2⟩ := key j q hj
    exact h.1 i j a1 b1 (by rw [← a2, ← b2, e])
  · obtain ⟨a1, a2⟩ := key k q hk
    rw [a2]
    exact h.2 k a1
/-- the machine's fixed things in a walk, and where it goes -/
abbrev MX : Type := Program × Launch × Env × Room × State × MethodId × Array Value × List Frame × Method × Code × (State → Prop) × Nat × Nat
abbrev AB (g : GC) : Nat → Prop := fun q => g_b g ≤ q
def Cx (g : GC) (X : MX) (cc : ByteArray) (nL : Nat) (own : String) (lvl : Nat) : Prop := match X with
  | (p, _, _, R, s, m, args, _, _, c, _, _, _) => p.tables.exec = Jvm.exec ∧ c.code = cc ∧ c.maxLocals = nL ∧ s.vm.findClass own = some m.cls ∧ (∀ w ∈ TW, w.before args s = true) ∧ va_K g.1 vcls (gtys g) s ∧ gOk g ∧ g_b g ≤ s.heap.size ∧ lvl ≤ R.frames ∧ 40 * lvl ≤ R.locals
def Wk (g : GC) (X : MX) (nL pc : Nat) (loc : List (Nat × Value)) (st : List Value) (w : WD) : Prop := match X with
  | (p, l, e, R, s, m, args, below, meth, c, Q, cells, slots) => ∀ (H : Heap) (locs : List Loc) (ls : Array Slot), va_P g.1 vcls (wl g w) H → va_S (AB g) s.heap H locs → lv_has ls nL loc → W p l e R s m args below meth c H locs cells slots Q (F0 m pc ls st)
/-- the world in a state -/
def Wat (g : GC) (w : WD) (U : State) : Prop := va_P g.1 vcls (wl g w) U.heap ∧ va_K g.1 vcls (gtys g) U ∧ g_b g ≤ U.heap.size
def rmd (lvl : Nat) : Room := { frames := lvl, cells := 0, slots := 0, locals := 40 * lvl }
/-- contracts: from the world w, with these arguments, the method answers r and leaves the world w' -/
def Mi (g : GC) (l : Launch) (y : MethodName) (cc : ByteArray) (nL : Nat) (ret : Option FieldType) (lvl : Nat) (av : List Value) (w : WD) (r : Int32) (w' : WD) : Prop :=
  Met l y (.code y cc nL ret :: TW) (rmd lvl) (va_Pc av (fun U => Wat g w U)) (va_Qi (fun (r2 : Int32) (_ : Unit) => r2 = r) (fun _ t => Wat g w' t) (AB g)) 0 0 (AB g)
def Ml (g : GC) (l : Launch) (y : MethodName) (cc : ByteArray) (nL : Nat) (ret : Option FieldType) (lvl : Nat) (av : List Value) (w : WD) (r : Int64) (w' : WD) : Prop :=
  Met l y (.code y cc nL ret :: TW) (rmd lvl) (va_Pc av (fun U => Wat g w U)) (va_Ql (fun (r2 : Int64) (_ : Unit) => r2 = r) (fun _ t => Wat g w' t) (AB g)) 0 0 (AB g)
def Mv (g : GC) (l : Launch) (y : MethodName) (cc : ByteArray) (nL : Nat) (ret : Option FieldType) (lvl : Nat) (av : List Value) (w : WD) (w' : WD) : Prop :=
  Met l y (.code y cc nL ret :: TW) (rmd lvl) (va_Pc av (fun U => Wat g w U)) (va_Qv (fun (_ : Unit) => True) (fun _ t => Wat g w' t) (AB g)) 0 0 (AB g)
theorem wat_blind {g : GC} {w : WD} {av : List Value} : FrameBlind (va_Pc av (fun U => Wat g w U)) := fun a U fr mk q => by
  obtain ⟨q0, qP, qK, qb⟩ := q
  exact ⟨q0, qP, va_K.moved (u := U) (U := U.calling fr mk a) (Vm.Alike.refl U.vm) qK, qb⟩
/-- the entry of a method -/
theorem m_entry {g : GC} (hg : gOk g) {l : Launch} {y : MethodName} {cc : ByteArray} {nL : Nat} {ret : Option FieldType} {lvl : Nat} {av : List Value} {w : WD} {Qc : Array Value → State → Outcome → State → Prop} (hy : plainName y.cls = true) (hn : (lg_sl av).length ≤ nL)
    (body : ∀ (X : MX), X.2.2.2.2.2.2.2.2.2.2.1 = MQ X.2.2.2.2.2.2.2.1 Qc X.2.2.2.2.2.2.1 X.2.2.2.2.1 0 0 (AB g) → X.2.2.2.2.2.2.2.2.1.sig.returnType = ret → X.2.2.2.2.2.2.2.2.1.locks = false → X.2.2.2.2.2.2.2.2.2.2.2 = (0, 0) → Cx g X cc nL y.cls lvl → Wk g X nL 0 (lv_args 0 av) [] w) :
    Met l y (.code y cc nL ret :: TW) (rmd lvl) (va_Pc av (fun U => Wat g w U)) Qc 0 0 (AB g) := by
  refine Met.ofW (cc := cc) (maxL := nL) (ret := ret) hy rfl ?_
  intro p e s m args below meth c s₁ B hml hv
  obtain ⟨rfl, hP, hK, hb⟩ := hv
  have hts := atoms_spec (ws := .code y cc nL ret :: TW) B.pre
  have hl := lv_entry av (n := nL) hn
  rw [lg_entry_eq]
  have h := body (p, l, e, rmd lvl, s, m, av.toArray, below, meth, c, MQ below Qc av.toArray s 0 0 (AB g), 0, 0) rfl B.returns B.notSynchronized rfl ⟨B.exec, B.bytes, hml, findClass_of_methodNamed B.named, fun w hw => hts w (List.mem_cons_of_mem _ hw), hK, hg, hb, Nat.le_refl _, Nat.le_refl _⟩
  exact h s.heap [] _ hP va_S.rf hl
end
