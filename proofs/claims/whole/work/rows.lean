section
-- ===== PART A: goes FIRST, ahead of the names: the tables' words, and 'selects' of the private methods out of them =====
/-- a private method of a class that the tables say can be made, by its rows of tables_1 -/
def lw_okq (q : MethodName × Nat) : Prop := (q.1.cls ≠ "java/lang/invoke/MethodHandle" ∧ q.1.cls ≠ "java/lang/invoke/VarHandle") ∧ Cond.instantiable q.1.cls q.2 ∈ tables_1 ∧ Cond.privateMethod q.1 ∈ tables_1 ∧ Cond.instanceMethod q.1 ∈ tables_1
theorem lw_p0 : lw_okq (⟨"HiredByLonging", "refusalOfRow", "(I)I"⟩, 7) := ⟨⟨by decide +kernel, by decide +kernel⟩, List.mem_of_getElem? (i := 24) (by decide +kernel), List.mem_of_getElem? (i := 210) (by decide +kernel), List.mem_of_getElem? (i := 211) (by decide +kernel)⟩
theorem lw_p1 : lw_okq (⟨"HiredByLonging", "refusalOf", "(II)I"⟩, 7) := ⟨⟨by decide +kernel, by decide +kernel⟩, List.mem_of_getElem? (i := 24) (by decide +kernel), List.mem_of_getElem? (i := 214) (by decide +kernel), List.mem_of_getElem? (i := 215) (by decide +kernel)⟩
theorem lw_p2 : lw_okq (⟨"HiredByLonging$Land", "followHorse", "(LHiredByLonging$Shelf;I)Z"⟩, 5) := ⟨⟨by decide +kernel, by decide +kernel⟩, List.mem_of_getElem? (i := 89) (by decide +kernel), List.mem_of_getElem? (i := 250) (by decide +kernel), List.mem_of_getElem? (i := 251) (by decide +kernel)⟩
theorem lw_p3 : lw_okq (⟨"HiredByLonging$Land", "followOats", "(I)Z"⟩, 5) := ⟨⟨by decide +kernel, by decide +kernel⟩, List.mem_of_getElem? (i := 89) (by decide +kernel), List.mem_of_getElem? (i := 269) (by decide +kernel), List.mem_of_getElem? (i := 270) (by decide +kernel)⟩
theorem lw_p4 : lw_okq (⟨"HiredByLonging$Land", "followDays", "(I)Z"⟩, 5) := ⟨⟨by decide +kernel, by decide +kernel⟩, List.mem_of_getElem? (i := 89) (by decide +kernel), List.mem_of_getElem? (i := 273) (by decide +kernel), List.mem_of_getElem? (i := 274) (by decide +kernel)⟩
theorem lw_p5 : lw_okq (⟨"HiredByLonging$Land", "followLonging", "(II)Z"⟩, 5) := ⟨⟨by decide +kernel, by decide +kernel⟩, List.mem_of_getElem? (i := 89) (by decide +kernel), List.mem_of_getElem? (i := 348) (by decide +kernel), List.mem_of_getElem? (i := 349) (by decide +kernel)⟩
theorem lw_p6 : lw_okq (⟨"HiredByLonging", "isHorse", "(I)Z"⟩, 7) := ⟨⟨by decide +kernel, by decide +kernel⟩, List.mem_of_getElem? (i := 24) (by decide +kernel), List.mem_of_getElem? (i := 412) (by decide +kernel), List.mem_of_getElem? (i := 413) (by decide +kernel)⟩
theorem lw_p7 : lw_okq (⟨"HiredByLonging", "refusalOfKind", "(I)I"⟩, 7) := ⟨⟨by decide +kernel, by decide +kernel⟩, List.mem_of_getElem? (i := 24) (by decide +kernel), List.mem_of_getElem? (i := 456) (by decide +kernel), List.mem_of_getElem? (i := 457) (by decide +kernel)⟩
theorem lw_p8 : lw_okq (⟨"HiredByLonging", "daysOfRide", "(LHiredByLonging$Steed;I)I"⟩, 7) := ⟨⟨by decide +kernel, by decide +kernel⟩, List.mem_of_getElem? (i := 24) (by decide +kernel), List.mem_of_getElem? (i := 465) (by decide +kernel), List.mem_of_getElem? (i := 466) (by decide +kernel)⟩
theorem lw_p9 : lw_okq (⟨"HiredByLonging", "daysOfLaterRide", "(LHiredByLonging$Steed;II)I"⟩, 7) := ⟨⟨by decide +kernel, by decide +kernel⟩, List.mem_of_getElem? (i := 24) (by decide +kernel), List.mem_of_getElem? (i := 554) (by decide +kernel), List.mem_of_getElem? (i := 555) (by decide +kernel)⟩
theorem lw_p10 : lw_okq (⟨"HiredByLonging", "feesOf", "(LHiredByLonging$Steed;I)I"⟩, 7) := ⟨⟨by decide +kernel, by decide +kernel⟩, List.mem_of_getElem? (i := 24) (by decide +kernel), List.mem_of_getElem? (i := 583) (by decide +kernel), List.mem_of_getElem? (i := 584) (by decide +kernel)⟩
theorem lw_p11 : lw_okq (⟨"HiredByLonging", "isTold", "(LHiredByLonging$Steed;LHiredByLonging$Shelf;I)Z"⟩, 7) := ⟨⟨by decide +kernel, by decide +kernel⟩, List.mem_of_getElem? (i := 24) (by decide +kernel), List.mem_of_getElem? (i := 622) (by decide +kernel), List.mem_of_getElem? (i := 623) (by decide +kernel)⟩
theorem lw_p12 : lw_okq (⟨"HiredByLonging$Shelf", "leastOfSort", "()I"⟩, 6) := ⟨⟨by decide +kernel, by decide +kernel⟩, List.mem_of_getElem? (i := 152) (by decide +kernel), List.mem_of_getElem? (i := 630) (by decide +kernel), List.mem_of_getElem? (i := 631) (by decide +kernel)⟩
theorem lw_p13 : lw_okq (⟨"HiredByLonging", "kindsTold", "(LHiredByLonging$Shelf;II)I"⟩, 7) := ⟨⟨by decide +kernel, by decide +kernel⟩, List.mem_of_getElem? (i := 24) (by decide +kernel), List.mem_of_getElem? (i := 647) (by decide +kernel), List.mem_of_getElem? (i := 648) (by decide +kernel)⟩
theorem lw_p14 : lw_okq (⟨"HiredByLonging", "figuresTold", "(LHiredByLonging$Shelf;II)I"⟩, 7) := ⟨⟨by decide +kernel, by decide +kernel⟩, List.mem_of_getElem? (i := 24) (by decide +kernel), List.mem_of_getElem? (i := 651) (by decide +kernel), List.mem_of_getElem? (i := 652) (by decide +kernel)⟩
theorem lw_p15 : lw_okq (⟨"HiredByLonging", "isBest", "(IIIII)Z"⟩, 7) := ⟨⟨by decide +kernel, by decide +kernel⟩, List.mem_of_getElem? (i := 24) (by decide +kernel), List.mem_of_getElem? (i := 659) (by decide +kernel), List.mem_of_getElem? (i := 660) (by decide +kernel)⟩
def lw_privs_1 : List (MethodName × Nat) := [(⟨"HiredByLonging", "refusalOfRow", "(I)I"⟩, 7), (⟨"HiredByLonging", "refusalOf", "(II)I"⟩, 7), (⟨"HiredByLonging$Land", "followHorse", "(LHiredByLonging$Shelf;I)Z"⟩, 5), (⟨"HiredByLonging$Land", "followOats", "(I)Z"⟩, 5), (⟨"HiredByLonging$Land", "followDays", "(I)Z"⟩, 5), (⟨"HiredByLonging$Land", "followLonging", "(II)Z"⟩, 5), (⟨"HiredByLonging", "isHorse", "(I)Z"⟩, 7), (⟨"HiredByLonging", "refusalOfKind", "(I)I"⟩, 7), (⟨"HiredByLonging", "daysOfRide", "(LHiredByLonging$Steed;I)I"⟩, 7), (⟨"HiredByLonging", "daysOfLaterRide", "(LHiredByLonging$Steed;II)I"⟩, 7), (⟨"HiredByLonging", "feesOf", "(LHiredByLonging$Steed;I)I"⟩, 7), (⟨"HiredByLonging", "isTold", "(LHiredByLonging$Steed;LHiredByLonging$Shelf;I)Z"⟩, 7), (⟨"HiredByLonging$Shelf", "leastOfSort", "()I"⟩, 6), (⟨"HiredByLonging", "kindsTold", "(LHiredByLonging$Shelf;II)I"⟩, 7), (⟨"HiredByLonging", "figuresTold", "(LHiredByLonging$Shelf;II)I"⟩, 7), (⟨"HiredByLonging", "isBest", "(IIIII)Z"⟩, 7)]
theorem lw_r1 : ∀ q ∈ lw_privs_1, lw_okq q := List.forall_mem_cons.mpr ⟨lw_p0, List.forall_mem_cons.mpr ⟨lw_p1, List.forall_mem_cons.mpr ⟨lw_p2, List.forall_mem_cons.mpr ⟨lw_p3, List.forall_mem_cons.mpr ⟨lw_p4, List.forall_mem_cons.mpr ⟨lw_p5, List.forall_mem_cons.mpr ⟨lw_p6, List.forall_mem_cons.mpr ⟨lw_p7, List.forall_mem_cons.mpr ⟨lw_p8, List.forall_mem_cons.mpr ⟨lw_p9, List.forall_mem_cons.mpr ⟨lw_p10, List.forall_mem_cons.mpr ⟨lw_p11, List.forall_mem_cons.mpr ⟨lw_p12, List.forall_mem_cons.mpr ⟨lw_p13, List.forall_mem_cons.mpr ⟨lw_p14, List.forall_mem_cons.mpr ⟨lw_p15, fun _ h => absurd h List.not_mem_nil⟩⟩⟩⟩⟩⟩⟩⟩⟩⟩⟩⟩⟩⟩⟩⟩
theorem lw_p16 : lw_okq (⟨"java/lang/Throwable", "fillInStackTrace", "(I)Ljava/lang/Throwable;"⟩, 6) := ⟨⟨by decide +kernel, by decide +kernel⟩, List.mem_of_getElem? (i := 809) (by decide +kernel), List.mem_of_getElem? (i := 807) (by decide +kernel), List.mem_of_getElem? (i := 808) (by decide +kernel)⟩
theorem lw_p17 : lw_okq (⟨"HiredByLongingModel", "wrongRow", "(I)I"⟩, 35) := ⟨⟨by decide +kernel, by decide +kernel⟩, List.mem_of_getElem? (i := 888) (by decide +kernel), List.mem_of_getElem? (i := 1009) (by decide +kernel), List.mem_of_getElem? (i := 1010) (by decide +kernel)⟩
theorem lw_p18 : lw_okq (⟨"HiredByLongingModel", "readStatement", "()V"⟩, 35) := ⟨⟨by decide +kernel, by decide +kernel⟩, List.mem_of_getElem? (i := 888) (by decide +kernel), List.mem_of_getElem? (i := 1017) (by decide +kernel), List.mem_of_getElem? (i := 1018) (by decide +kernel)⟩
theorem lw_p19 : lw_okq (⟨"HiredByLongingModel", "here", "()I"⟩, 35) := ⟨⟨by decide +kernel, by decide +kernel⟩, List.mem_of_getElem? (i := 888) (by decide +kernel), List.mem_of_getElem? (i := 1021) (by decide +kernel), List.mem_of_getElem? (i := 1022) (by decide +kernel)⟩
theorem lw_p20 : lw_okq (⟨"HiredByLongingModel", "readNumbers", "(II)V"⟩, 35) := ⟨⟨by decide +kernel, by decide +kernel⟩, List.mem_of_getElem? (i := 888) (by decide +kernel), List.mem_of_getElem? (i := 1028) (by decide +kernel), List.mem_of_getElem? (i := 1029) (by decide +kernel)⟩
theorem lw_p21 : lw_okq (⟨"HiredByLongingModel", "readDigits", "(I)I"⟩, 35) := ⟨⟨by decide +kernel, by decide +kernel⟩, List.mem_of_getElem? (i := 888) (by decide +kernel), List.mem_of_getElem? (i := 1032) (by decide +kernel), List.mem_of_getElem? (i := 1033) (by decide +kernel)⟩
theorem lw_p22 : lw_okq (⟨"HiredByLongingModel", "open", "()V"⟩, 35) := ⟨⟨by decide +kernel, by decide +kernel⟩, List.mem_of_getElem? (i := 888) (by decide +kernel), List.mem_of_getElem? (i := 1038) (by decide +kernel), List.mem_of_getElem? (i := 1039) (by decide +kernel)⟩
theorem lw_p23 : lw_okq (⟨"HiredByLongingModel", "carryAll", "([IZ)V"⟩, 35) := ⟨⟨by decide +kernel, by decide +kernel⟩, List.mem_of_getElem? (i := 888) (by decide +kernel), List.mem_of_getElem? (i := 1042) (by decide +kernel), List.mem_of_getElem? (i := 1043) (by decide +kernel)⟩
theorem lw_p24 : lw_okq (⟨"HiredByLongingModel", "carry", "(I)I"⟩, 35) := ⟨⟨by decide +kernel, by decide +kernel⟩, List.mem_of_getElem? (i := 888) (by decide +kernel), List.mem_of_getElem? (i := 1046) (by decide +kernel), List.mem_of_getElem? (i := 1047) (by decide +kernel)⟩
theorem lw_p25 : lw_okq (⟨"HiredByLongingModel", "comesTold", "(I)Z"⟩, 35) := ⟨⟨by decide +kernel, by decide +kernel⟩, List.mem_of_getElem? (i := 888) (by decide +kernel), List.mem_of_getElem? (i := 1050) (by decide +kernel), List.mem_of_getElem? (i := 1051) (by decide +kernel)⟩
theorem lw_p26 : lw_okq (⟨"HiredByLongingModel", "horseComes", "(IIII)Z"⟩, 35) := ⟨⟨by decide +kernel, by decide +kernel⟩, List.mem_of_getElem? (i := 888) (by decide +kernel), List.mem_of_getElem? (i := 1054) (by decide +kernel), List.mem_of_getElem? (i := 1055) (by decide +kernel)⟩
theorem lw_p27 : lw_okq (⟨"HiredByLongingModel", "isHorse", "(I)Z"⟩, 35) := ⟨⟨by decide +kernel, by decide +kernel⟩, List.mem_of_getElem? (i := 888) (by decide +kernel), List.mem_of_getElem? (i := 1062) (by decide +kernel), List.mem_of_getElem? (i := 1063) (by decide +kernel)⟩
theorem lw_p28 : lw_okq (⟨"HiredByLongingModel", "ride", "(II)I"⟩, 35) := ⟨⟨by decide +kernel, by decide +kernel⟩, List.mem_of_getElem? (i := 888) (by decide +kernel), List.mem_of_getElem? (i := 1066) (by decide +kernel), List.mem_of_getElem? (i := 1067) (by decide +kernel)⟩
theorem lw_p29 : lw_okq (⟨"HiredByLongingModel", "rideOn", "(II)V"⟩, 35) := ⟨⟨by decide +kernel, by decide +kernel⟩, List.mem_of_getElem? (i := 888) (by decide +kernel), List.mem_of_getElem? (i := 1070) (by decide +kernel), List.mem_of_getElem? (i := 1071) (by decide +kernel)⟩
theorem lw_p30 : lw_okq (⟨"HiredByLongingModel", "goalOf", "(I)I"⟩, 35) := ⟨⟨by decide +kernel, by decide +kernel⟩, List.mem_of_getElem? (i := 888) (by decide +kernel), List.mem_of_getElem? (i := 1074) (by decide +kernel), List.mem_of_getElem? (i := 1075) (by decide +kernel)⟩
theorem lw_p31 : lw_okq (⟨"HiredByLongingModel", "paceOf", "(I)I"⟩, 35) := ⟨⟨by decide +kernel, by decide +kernel⟩, List.mem_of_getElem? (i := 888) (by decide +kernel), List.mem_of_getElem? (i := 1081) (by decide +kernel), List.mem_of_getElem? (i := 1082) (by decide +kernel)⟩
def lw_privs_2 : List (MethodName × Nat) := [(⟨"java/lang/Throwable", "fillInStackTrace", "(I)Ljava/lang/Throwable;"⟩, 6), (⟨"HiredByLongingModel", "wrongRow", "(I)I"⟩, 35), (⟨"HiredByLongingModel", "readStatement", "()V"⟩, 35), (⟨"HiredByLongingModel", "here", "()I"⟩, 35), (⟨"HiredByLongingModel", "readNumbers", "(II)V"⟩, 35), (⟨"HiredByLongingModel", "readDigits", "(I)I"⟩, 35), (⟨"HiredByLongingModel", "open", "()V"⟩, 35), (⟨"HiredByLongingModel", "carryAll", "([IZ)V"⟩, 35), (⟨"HiredByLongingModel", "carry", "(I)I"⟩, 35), (⟨"HiredByLongingModel", "comesTold", "(I)Z"⟩, 35), (⟨"HiredByLongingModel", "horseComes", "(IIII)Z"⟩, 35), (⟨"HiredByLongingModel", "isHorse", "(I)Z"⟩, 35), (⟨"HiredByLongingModel", "ride", "(II)I"⟩, 35), (⟨"HiredByLongingModel", "rideOn", "(II)V"⟩, 35), (⟨"HiredByLongingModel", "goalOf", "(I)I"⟩, 35), (⟨"HiredByLongingModel", "paceOf", "(I)I"⟩, 35)]
theorem lw_r2 : ∀ q ∈ lw_privs_2, lw_okq q := List.forall_mem_cons.mpr ⟨lw_p16, List.forall_mem_cons.mpr ⟨lw_p17, List.forall_mem_cons.mpr ⟨lw_p18, List.forall_mem_cons.mpr ⟨lw_p19, List.forall_mem_cons.mpr ⟨lw_p20, List.forall_mem_cons.mpr ⟨lw_p21, List.forall_mem_cons.mpr ⟨lw_p22, List.forall_mem_cons.mpr ⟨lw_p23, List.forall_mem_cons.mpr ⟨lw_p24, List.forall_mem_cons.mpr ⟨lw_p25, List.forall_mem_cons.mpr ⟨lw_p26, List.forall_mem_cons.mpr ⟨lw_p27, List.forall_mem_cons.mpr ⟨lw_p28, List.forall_mem_cons.mpr ⟨lw_p29, List.forall_mem_cons.mpr ⟨lw_p30, List.forall_mem_cons.mpr ⟨lw_p31, fun _ h => absurd h List.not_mem_nil⟩⟩⟩⟩⟩⟩⟩⟩⟩⟩⟩⟩⟩⟩⟩⟩
theorem lw_p32 : lw_okq (⟨"HiredByLongingModel", "walkOf", "(I)I"⟩, 35) := ⟨⟨by decide +kernel, by decide +kernel⟩, List.mem_of_getElem? (i := 888) (by decide +kernel), List.mem_of_getElem? (i := 1088) (by decide +kernel), List.mem_of_getElem? (i := 1089) (by decide +kernel)⟩
theorem lw_p33 : lw_okq (⟨"HiredByLongingModel", "dayBy", "(Z)V"⟩, 35) := ⟨⟨by decide +kernel, by decide +kernel⟩, List.mem_of_getElem? (i := 888) (by decide +kernel), List.mem_of_getElem? (i := 1092) (by decide +kernel), List.mem_of_getElem? (i := 1093) (by decide +kernel)⟩
theorem lw_p34 : lw_okq (⟨"HiredByLongingModel", "pinesOf", "(I)I"⟩, 35) := ⟨⟨by decide +kernel, by decide +kernel⟩, List.mem_of_getElem? (i := 888) (by decide +kernel), List.mem_of_getElem? (i := 1096) (by decide +kernel), List.mem_of_getElem? (i := 1097) (by decide +kernel)⟩
theorem lw_p35 : lw_okq (⟨"HiredByLongingModel", "daysCome", "(I)Z"⟩, 35) := ⟨⟨by decide +kernel, by decide +kernel⟩, List.mem_of_getElem? (i := 888) (by decide +kernel), List.mem_of_getElem? (i := 1100) (by decide +kernel), List.mem_of_getElem? (i := 1101) (by decide +kernel)⟩
theorem lw_p36 : lw_okq (⟨"HiredByLongingModel", "goDays", "(I)V"⟩, 35) := ⟨⟨by decide +kernel, by decide +kernel⟩, List.mem_of_getElem? (i := 888) (by decide +kernel), List.mem_of_getElem? (i := 1105) (by decide +kernel), List.mem_of_getElem? (i := 1106) (by decide +kernel)⟩
theorem lw_p37 : lw_okq (⟨"HiredByLongingModel", "close", "()V"⟩, 35) := ⟨⟨by decide +kernel, by decide +kernel⟩, List.mem_of_getElem? (i := 888) (by decide +kernel), List.mem_of_getElem? (i := 1109) (by decide +kernel), List.mem_of_getElem? (i := 1110) (by decide +kernel)⟩
theorem lw_p38 : lw_okq (⟨"HiredByLongingModel", "wrongKept", "(I)I"⟩, 35) := ⟨⟨by decide +kernel, by decide +kernel⟩, List.mem_of_getElem? (i := 888) (by decide +kernel), List.mem_of_getElem? (i := 1129) (by decide +kernel), List.mem_of_getElem? (i := 1130) (by decide +kernel)⟩
theorem lw_p39 : lw_okq (⟨"HiredByLongingModel", "allLonging", "()I"⟩, 35) := ⟨⟨by decide +kernel, by decide +kernel⟩, List.mem_of_getElem? (i := 888) (by decide +kernel), List.mem_of_getElem? (i := 1154) (by decide +kernel), List.mem_of_getElem? (i := 1155) (by decide +kernel)⟩
theorem lw_p40 : lw_okq (⟨"HiredByLongingModel", "ownRide", "(II)I"⟩, 35) := ⟨⟨by decide +kernel, by decide +kernel⟩, List.mem_of_getElem? (i := 888) (by decide +kernel), List.mem_of_getElem? (i := 1162) (by decide +kernel), List.mem_of_getElem? (i := 1163) (by decide +kernel)⟩
theorem lw_p41 : lw_okq (⟨"HiredByLongingModel", "takeChain", "(II)V"⟩, 35) := ⟨⟨by decide +kernel, by decide +kernel⟩, List.mem_of_getElem? (i := 888) (by decide +kernel), List.mem_of_getElem? (i := 1174) (by decide +kernel), List.mem_of_getElem? (i := 1175) (by decide +kernel)⟩
theorem lw_p42 : lw_okq (⟨"HiredByLongingModel", "secondRides", "(IIII)V"⟩, 35) := ⟨⟨by decide +kernel, by decide +kernel⟩, List.mem_of_getElem? (i := 888) (by decide +kernel), List.mem_of_getElem? (i := 1178) (by decide +kernel), List.mem_of_getElem? (i := 1179) (by decide +kernel)⟩
theorem lw_p43 : lw_okq (⟨"HiredByLongingModel", "thirdRides", "(IIIII)V"⟩, 35) := ⟨⟨by decide +kernel, by decide +kernel⟩, List.mem_of_getElem? (i := 888) (by decide +kernel), List.mem_of_getElem? (i := 1182) (by decide +kernel), List.mem_of_getElem? (i := 1183) (by decide +kernel)⟩
theorem lw_p44 : lw_okq (⟨"HiredByLongingModel", "feesOf", "(II)I"⟩, 35) := ⟨⟨by decide +kernel, by decide +kernel⟩, List.mem_of_getElem? (i := 888) (by decide +kernel), List.mem_of_getElem? (i := 1236) (by decide +kernel), List.mem_of_getElem? (i := 1237) (by decide +kernel)⟩
theorem lw_p45 : lw_okq (⟨"HiredByLongingModel", "isRow", "(III)Z"⟩, 35) := ⟨⟨by decide +kernel, by decide +kernel⟩, List.mem_of_getElem? (i := 888) (by decide +kernel), List.mem_of_getElem? (i := 1247) (by decide +kernel), List.mem_of_getElem? (i := 1248) (by decide +kernel)⟩
theorem lw_p46 : lw_okq (⟨"HiredByLongingModel", "skipped", "(I)J"⟩, 35) := ⟨⟨by decide +kernel, by decide +kernel⟩, List.mem_of_getElem? (i := 888) (by decide +kernel), List.mem_of_getElem? (i := 1251) (by decide +kernel), List.mem_of_getElem? (i := 1252) (by decide +kernel)⟩
theorem lw_p47 : lw_okq (⟨"HiredByLongingModel", "waitedRide", "(III)I"⟩, 35) := ⟨⟨by decide +kernel, by decide +kernel⟩, List.mem_of_getElem? (i := 888) (by decide +kernel), List.mem_of_getElem? (i := 1266) (by decide +kernel), List.mem_of_getElem? (i := 1267) (by decide +kernel)⟩
def lw_privs_3 : List (MethodName × Nat) := [(⟨"HiredByLongingModel", "walkOf", "(I)I"⟩, 35), (⟨"HiredByLongingModel", "dayBy", "(Z)V"⟩, 35), (⟨"HiredByLongingModel", "pinesOf", "(I)I"⟩, 35), (⟨"HiredByLongingModel", "daysCome", "(I)Z"⟩, 35), (⟨"HiredByLongingModel", "goDays", "(I)V"⟩, 35), (⟨"HiredByLongingModel", "close", "()V"⟩, 35), (⟨"HiredByLongingModel", "wrongKept", "(I)I"⟩, 35), (⟨"HiredByLongingModel", "allLonging", "()I"⟩, 35), (⟨"HiredByLongingModel", "ownRide", "(II)I"⟩, 35), (⟨"HiredByLongingModel", "takeChain", "(II)V"⟩, 35), (⟨"HiredByLongingModel", "secondRides", "(IIII)V"⟩, 35), (⟨"HiredByLongingModel", "thirdRides", "(IIIII)V"⟩, 35), (⟨"HiredByLongingModel", "feesOf", "(II)I"⟩, 35), (⟨"HiredByLongingModel", "isRow", "(III)Z"⟩, 35), (⟨"HiredByLongingModel", "skipped", "(I)J"⟩, 35), (⟨"HiredByLongingModel", "waitedRide", "(III)I"⟩, 35)]
theorem lw_r3 : ∀ q ∈ lw_privs_3, lw_okq q := List.forall_mem_cons.mpr ⟨lw_p32, List.forall_mem_cons.mpr ⟨lw_p33, List.forall_mem_cons.mpr ⟨lw_p34, List.forall_mem_cons.mpr ⟨lw_p35, List.forall_mem_cons.mpr ⟨lw_p36, List.forall_mem_cons.mpr ⟨lw_p37, List.forall_mem_cons.mpr ⟨lw_p38, List.forall_mem_cons.mpr ⟨lw_p39, List.forall_mem_cons.mpr ⟨lw_p40, List.forall_mem_cons.mpr ⟨lw_p41, List.forall_mem_cons.mpr ⟨lw_p42, List.forall_mem_cons.mpr ⟨lw_p43, List.forall_mem_cons.mpr ⟨lw_p44, List.forall_mem_cons.mpr ⟨lw_p45, List.forall_mem_cons.mpr ⟨lw_p46, List.forall_mem_cons.mpr ⟨lw_p47, fun _ h => absurd h List.not_mem_nil⟩⟩⟩⟩⟩⟩⟩⟩⟩⟩⟩⟩⟩⟩⟩⟩
theorem lw_p48 : lw_okq (⟨"HiredByLongingModel", "hasBy", "(III)I"⟩, 35) := ⟨⟨by decide +kernel, by decide +kernel⟩, List.mem_of_getElem? (i := 888) (by decide +kernel), List.mem_of_getElem? (i := 1270) (by decide +kernel), List.mem_of_getElem? (i := 1271) (by decide +kernel)⟩
theorem lw_p49 : lw_okq (⟨"HiredByLongingModel", "drawBelow", "(I)I"⟩, 35) := ⟨⟨by decide +kernel, by decide +kernel⟩, List.mem_of_getElem? (i := 888) (by decide +kernel), List.mem_of_getElem? (i := 1305) (by decide +kernel), List.mem_of_getElem? (i := 1306) (by decide +kernel)⟩
theorem lw_p50 : lw_okq (⟨"HiredByLongingModel", "atGoals", "()I"⟩, 35) := ⟨⟨by decide +kernel, by decide +kernel⟩, List.mem_of_getElem? (i := 888) (by decide +kernel), List.mem_of_getElem? (i := 1312) (by decide +kernel), List.mem_of_getElem? (i := 1313) (by decide +kernel)⟩
def lw_privs_4 : List (MethodName × Nat) := [(⟨"HiredByLongingModel", "hasBy", "(III)I"⟩, 35), (⟨"HiredByLongingModel", "drawBelow", "(I)I"⟩, 35), (⟨"HiredByLongingModel", "atGoals", "()I"⟩, 35)]
theorem lw_r4 : ∀ q ∈ lw_privs_4, lw_okq q := List.forall_mem_cons.mpr ⟨lw_p48, List.forall_mem_cons.mpr ⟨lw_p49, List.forall_mem_cons.mpr ⟨lw_p50, fun _ h => absurd h List.not_mem_nil⟩⟩⟩
def lw_privs : List (MethodName × Nat) := lw_privs_1 ++ (lw_privs_2 ++ (lw_privs_3 ++ (lw_privs_4)))
def lw_tbl : List Cond := k2_sels lw_privs ++ tables_1
theorem lw_privs_ok : ∀ q ∈ lw_privs, lw_okq q := by
  show ∀ q ∈ lw_privs_1 ++ (lw_privs_2 ++ (lw_privs_3 ++ (lw_privs_4))), lw_okq q
  exact List.forall_mem_append.mpr ⟨lw_r1, List.forall_mem_append.mpr ⟨lw_r2, List.forall_mem_append.mpr ⟨lw_r3, lw_r4⟩⟩⟩
-- ===== end of PART A; then your names; then what follows =====
end
section
/-! THE WORLD: one list of cells for both objects; what they hold told by numbers. -/
def n_Ho : String := "HiredByLonging$Horse"
def n_Co : String := "HiredByLonging$Content"
def n_Bl : String := "HiredByLonging$Blind"
def n_Tw : String := "HiredByLonging$Two"
def n_Dr : String := "HiredByLonging$Drowned"
def n_Fo : String := "HiredByLonging$Foal"
def n_Ma : String := "HiredByLonging$Mare"
def n_Ge : String := "HiredByLonging$Gelding"
def n_St : String := "HiredByLonging$Steed"
def n_La : String := "HiredByLonging$Land"
def n_Sh : String := "HiredByLonging$Shelf"
def n_Hb : String := "HiredByLonging"
def n_Mo : String := "HiredByLongingModel"
def n_Lw : String := "HiredByLongingLaw"
def n_In : String := "java/lang/Intege\x72"
def T_0 : u_T := fun _ => ("", "", "", false)
def T_St : u_T := fun k => match k with
  | 0 => (n_St, "kind", "LHiredByLonging$Horse;", false)
  | 1 => (n_St, "figure", "I", false)
  | 2 => (n_St, "home", "I", false)
  | 3 => (n_St, "at", "I", false)
  | _ => (n_St, "longing", "I", false)
def T_La : u_T := fun k => match k with
  | 0 => (n_La, "kinds", "[LHiredByLonging$Horse;", true)
  | 1 => (n_La, "steeds", "[LHiredByLonging$Steed;", true)
  | 2 => (n_La, "horses", "I", false)
  | 3 => (n_La, "oats", "I", false)
  | _ => (n_La, "day", "I", false)
def T_Sh : u_T := fun k => match k with
  | 0 => (n_Sh, "holds", "I", false)
  | 1 => (n_Sh, "kind", "LHiredByLonging$Horse;", false)
  | 2 => (n_Sh, "figure", "I", false)
  | 3 => (n_Sh, "sort", "I", false)
  | 4 => (n_Sh, "size", "I", false)
  | _ => (n_Sh, "elements", "[I", true)
def T_Hb : u_T := fun k => match k with
  | 0 => (n_Hb, "kinds", "[LHiredByLonging$Horse;", true)
  | 1 => (n_Hb, "now", "LHiredByLonging$Land;", true)
  | 2 => (n_Hb, "image", "LHiredByLonging$Land;", true)
  | 3 => (n_Hb, "minds", "[LHiredByLonging$Land;", true)
  | 4 => (n_Hb, "one", "LHiredByLonging$Steed;", true)
  | 5 => (n_Hb, "shelves", "[LHiredByLonging$Shelf;", true)
  | _ => (n_Hb, "imageTaken", "Z", false)
def T_Mo : u_T := fun k => match k with
  | 0 => (n_Mo, "horses", "I", false)
  | 1 => (n_Mo, "kinds", "[I", true)
  | 2 => (n_Mo, "figures", "[I", true)
  | 3 => (n_Mo, "homes0", "[I", true)
  | 4 => (n_Mo, "at0", "[I", true)
  | 5 => (n_Mo, "longing", "[I", true)
  | 6 => (n_Mo, "oats", "I", false)
  | 7 => (n_Mo, "today", "I", false)
  | 8 => (n_Mo, "holdsWhat", "[I", true)
  | 9 => (n_Mo, "keptKind", "[I", true)
  | 10 => (n_Mo, "keptFigure", "[I", true)
  | 11 => (n_Mo, "rowSort", "[I", true)
  | 12 => (n_Mo, "rowMany", "[I", true)
  | 13 => (n_Mo, "rows", "[J", true)
  | 14 => (n_Mo, "thrown", "I", false)
  | 15 => (n_Mo, "reading", "I", false)
  | 16 => (n_Mo, "place", "I", false)
  | 17 => (n_Mo, "isBad", "Z", false)
  | 18 => (n_Mo, "statements", "I", false)
  | 19 => (n_Mo, "placeIn", "[I", true)
  | 20 => (n_Mo, "letterOf", "[I", true)
  | 21 => (n_Mo, "told", "[I", true)
  | 22 => (n_Mo, "kept", "[I", true)
  | 23 => (n_Mo, "kept1", "[I", true)
  | 24 => (n_Mo, "kept2", "[I", true)
  | 25 => (n_Mo, "imaged", "[I", true)
  | 26 => (n_Mo, "hasImage", "Z", false)
  | 27 => (n_Mo, "place0", "I", false)
  | 28 => (n_Mo, "isTaking", "Z", false)
  | 29 => (n_Mo, "keptIn", "[I", false)
  | 30 => (n_Mo, "chainDays", "I", false)
  | 31 => (n_Mo, "chainFirst", "I", false)
  | 32 => (n_Mo, "thereBy", "[I", true)
  | 33 => (n_Mo, "seed", "I", false)
  | _ => (n_Mo, "between", "[J", true)
/-- the words that every method takes: those of the tables that keep -/
def TW : List Cond := lw_tbl.filter goodWord
theorem tw_of {w : Cond} (i : Nat) (h : lw_tbl[i]? = some w) (g : goodWord w = true) : w ∈ TW := List.mem_filter.mpr ⟨List.mem_of_getElem? h, g⟩
theorem tw_good {w : Cond} (h : w ∈ TW) : (w.onTables && w.keeps) = true ∨ ∃ ty, w = .arrayClass ty := good_of_word (List.mem_filter.mp h).2
/-- a callee's words among its caller's -/
theorem tw_in {a b : Cond} {ex : List Cond} (hb : b ∈ TW) (he : ∀ w ∈ ex, w ∈ TW) : GoodIn (a :: TW) (ex ++ b :: TW) := by
  intro w hw
  have h : w ∈ TW := by
    rcases List.mem_append.mp hw with h | h
    · exact he w h
    · rcases List.mem_cons.mp h with rfl | h
      · exact hb
      · exact h
  exact ⟨List.mem_cons_of_mem _ h, tw_good h⟩
theorem tw_in0 {b : Cond} {ex : List Cond} (hb : b ∈ TW) (he : ∀ w ∈ ex, w ∈ TW) : GoodIn TW (ex ++ b :: TW) := by
  intro w hw
  have h : w ∈ TW := by
    rcases List.mem_append.mp hw with h | h
    · exact he w h
    · rcases List.mem_cons.mp h with rfl | h
      · exact hb
      · exact h
  exact ⟨h, tw_good h⟩
abbrev vcls : List vw_C := [(n_Ho, T_0, 0), (n_Co, T_0, 0), (n_Bl, T_0, 0), (n_Tw, T_0, 0), (n_Dr, T_0, 0), (n_Fo, T_0, 0), (n_Ma, T_0, 0), (n_Ge, T_0, 0), (n_St, T_St, 5), (n_La, T_La, 5), (n_Sh, T_Sh, 6), (n_Hb, T_Hb, 7), (n_Mo, T_Mo, 35)]
/-- the fixed things: classes and slots, the arrays' classes, the addresses, the first address that is the law's -/
abbrev GC : Type := va_G × (Nat → ClassId) × (Nat → Nat) × Nat
abbrev g_a (g : GC) : Nat → Nat := g.2.2.1
abbrev g_b (g : GC) : Nat := g.2.2.2
abbrev g_c (g : GC) : Nat → ClassId := g.2.1
abbrev gtys (g : GC) : List (ClassId × FieldType) := [(g_c g 0, .int), (g_c g 1, .long), (g_c g 2, .object n_Ho), (g_c g 3, .object n_St), (g_c g 4, .object n_La), (g_c g 5, .object n_Sh)]
abbrev XD : Type := Nat → Nat → Int32
abbrev JD : Type := Nat → Nat → Int64
/-- the reference's numbers: ints, longs, which array keptIn is (0: null) -/
abbrev MD : Type := XD × JD × Nat
/-- both sides, and the law's own long -/
abbrev WD : Type := XD × MD × (Nat → Int64)
def x_up {α : Type} (w : Nat → Nat → α) (k j : Nat) (v : α) : Nat → Nat → α := fun a b => if a = k then (if b = j then v else w a b) else w a b
abbrev rfs (f : Nat → Nat) : (Nat → Int32) ⊕ (Nat → Int64) ⊕ (Nat → UInt32) ⊕ (Nat → UInt64) ⊕ (Nat → Option Nat) := .inr (.inr (.inr (.inr fun i => some (f i))))
def shX (g : GC) (k : Nat) (d : Nat → Int32) : va_E :=
  if k = 0 then .inr (11, [.ref (g_a g 1), .ref (g_a g 10), .ref (g_a g 11), .ref (g_a g 65), .ref (g_a g 64), .ref (g_a g 66), .int (d 6)])
  else if k = 1 then .inl (g_c g 2, 8, rfs fun i => g_a g (2 + i))
  else if k < 10 then .inr (k - 2, [])
  else if k < 16 then .inr (9, [.ref (g_a g 1), .ref (g_a g (k + 6)), .int (d 2), .int (d 3), .int (d 4)])
  else if k < 22 then .inl (g_c g 3, 7, rfs fun i => g_a g (22 + 7 * (k - 16) + i))
  else if k < 65 then .inr (8, [.ref (g_a g (2 + (d 0).toNatClampNeg)), .int (d 1), .int (d 2), .int (d 3), .int (d 4)])
  else if k = 65 then .inl (g_c g 4, 4, rfs fun i => g_a g (12 + i))
  else if k = 66 then .inl (g_c g 5, 8, rfs fun i => g_a g (67 + i))
  else if k < 75 then .inr (10, [.int (d 0), .ref (g_a g (2 + (d 1).toNatClampNeg)), .int (d 2), .int (d 3), .int (d 4), .ref (g_a g (k + 8))])
  else .inl (g_c g 0, 100, .inl d)
def shN (k : Nat) : Nat := if k < 89 then 7 else if k < 94 then 8 else if k < 97 then 51 else if k < 98 then 204 else if k < 102 then 38 else 4
def shM (g : GC) (k : Nat) (d : Nat → Int32) (j : Nat → Int64) (q : Nat) : va_E :=
  if k = 83 then .inr (12, [.int (d 0), .ref (g_a g 84), .ref (g_a g 85), .ref (g_a g 86), .ref (g_a g 87), .ref (g_a g 88), .int (d 6), .int (d 7), .ref (g_a g 89), .ref (g_a g 90), .ref (g_a g 91), .ref (g_a g 92), .ref (g_a g 93), .ref (g_a g 94), .int (d 14), .int (d 15), .int (d 16), .int (d 17), .int (d 18), .ref (g_a g 95), .ref (g_a g 96), .ref (g_a g 97), .ref (g_a g 98), .ref (g_a g 99), .ref (g_a g 100), .ref (g_a g 101), .int (d 26), .int (d 27), .int (d 28), (if q = 0 then .null else .ref (g_a g q)), .int (d 30), .int (d 31), .ref (g_a g 102), .int (d 33), .ref (g_a g 103)])
  else if k = 94 then .inl (g_c g 1, 800, .inr (.inl j))
  else if k = 103 then .inl (g_c g 1, 100, .inr (.inl j))
  else .inl (g_c g 0, shN k, .inl d)
def shW (g : GC) (w : WD) (k : Nat) : va_E := if k < 83 then shX g k (w.1 k) else if k < 104 then shM g k (w.2.1.1 k) (w.2.1.2.1 k) w.2.1.2.2 else .inl (g_c g 1, 1, .inr (.inl w.2.2))
def wl (g : GC) (w : WD) : va_W := (List.range 105).map fun k => (g_a g k, shW g w k)
theorem wl_at {g : GC} {w : WD} {k : Nat} (h : k < 105) : (wl g w)[k]? = some (g_a g k, shW g w k) := by simp [wl, h]
theorem wl_set {g : GC} {w w' : WD} {k : Nat} {v : va_E} (hk : k < 105) (hv : shW g w' k = v) (ho : ∀ j, j ≠ k → shW g w' j = shW g w j) : (wl g w).set k (g_a g k, v) = wl g w' := by
  refine List.ext_getElem? fun i => ?_
  rw [List.getElem?_set]
  rcases Nat.lt_or_ge i 105 with h | h
  · rw [wl_at (w := w) h, wl_at (w := w') h]
    by_cases e : k = i
    · subst e
      simp [wl, hk, hv]
    · rw [if_neg e, ho i (fun q => e q.symm)]
  · rw [if_neg (by omega)]
    simp [wl, h]
def gOk (g : GC) : Prop := (∀ i j : Nat, i < 105 → j < 105 → g_a g i = g_a g j → i = j) ∧ ∀ k : Nat, k < 105 → g_b g ≤ g_a g k
theorem gOk.d {g : GC} (h : gOk g) (w : WD) : va_D (fun q => g_b g ≤ q) (wl g w) := by
  have key : ∀ (i : Nat) (p : Nat × va_E), (wl g w)[i]? = some p → i < 105 ∧ p.1 = g_a g i := by
    intro i p hi
    have h1 : i < 105 := by
      rcases Nat.lt_or_ge i 105 with q | q
      · exact q
      · simp [wl, q] at hi
    rw [wl_at h1] at hi
    cases hi
    exact ⟨h1, rfl⟩
  refine ⟨fun i j p q hi hj e => ?_, fun k q hk => ?_⟩
  · obtain ⟨a1, a2⟩ := key i p hi
    obtain ⟨b1, b2⟩ := key j q hj
    exact h.1 i j a1 b1 (by rw [← a2, ← b2, e])
  · obtain ⟨a1, a2⟩ := key k q hk
    rw [a2]
    exact h.2 k a1
/-- the machine's fixed things in a walk, and where it goes -/
abbrev MX : Type := Program × Launch × Env × Room × State × MethodId × Array Value × List Frame × Method × Code × (State → Prop) × Nat × Nat
abbrev AB (g : GC) : Nat → Prop := fun q => g_b g ≤ q
def Cx (g : GC) (X : MX) (cc : ByteArray) (nL : Nat) (own : String) (lvl : Nat) : Prop := match X with
  | (p, _, _, R, s, m, args, _, _, c, _, _, _) => p.tables.exec = Jvm.exec ∧ c.code = cc ∧ c.maxLocals = nL ∧ s.vm.findClass own = some m.cls ∧ (∀ w ∈ TW, w.before args s = true) ∧ va_K g.1 vcls (gtys g) s ∧ gOk g ∧ g_b g ≤ s.heap.size ∧ lvl ≤ R.frames ∧ 40 * lvl ≤ R.locals
def Wk (g : GC) (X : MX) (nL pc : Nat) (loc : List (Nat × Value)) (st : List Value) (w : WD) : Prop := match X with
  | (p, l, e, R, s, m, args, below, meth, c, Q, cells, slots) => ∀ (H : Heap) (locs : List Loc) (ls : Array Slot), va_P g.1 vcls (wl g w) H → va_S (AB g) s.heap H locs → lv_has ls nL loc → W p l e R s m args below meth c H locs cells slots Q (F0 m pc ls st)
/-- the world in a state -/
def Wat (g : GC) (w : WD) (U : State) : Prop := va_P g.1 vcls (wl g w) U.heap ∧ va_K g.1 vcls (gtys g) U ∧ g_b g ≤ U.heap.size
def rmd (lvl : Nat) : Room := { frames := lvl, cells := 0, slots := 0, locals := 40 * lvl }
/-- contracts: from the world w, with these arguments, the method answers r and leaves the world w' -/
def Mi (g : GC) (l : Launch) (y : MethodName) (cc : ByteArray) (nL : Nat) (ret : Option FieldType) (lvl : Nat) (av : List Value) (w : WD) (r : Int32) (w' : WD) : Prop :=
  Met l y (.code y cc nL ret :: TW) (rmd lvl) (va_Pc av (fun U => Wat g w U)) (va_Qi (fun (r2 : Int32) (_ : Unit) => r2 = r) (fun _ t => Wat g w' t) (AB g)) 0 0 (AB g)
def Ml (g : GC) (l : Launch) (y : MethodName) (cc : ByteArray) (nL : Nat) (ret : Option FieldType) (lvl : Nat) (av : List Value) (w : WD) (r : Int64) (w' : WD) : Prop :=
  Met l y (.code y cc nL ret :: TW) (rmd lvl) (va_Pc av (fun U => Wat g w U)) (va_Ql (fun (r2 : Int64) (_ : Unit) => r2 = r) (fun _ t => Wat g w' t) (AB g)) 0 0 (AB g)
def Mv (g : GC) (l : Launch) (y : MethodName) (cc : ByteArray) (nL : Nat) (ret : Option FieldType) (lvl : Nat) (av : List Value) (w : WD) (w' : WD) : Prop :=
  Met l y (.code y cc nL ret :: TW) (rmd lvl) (va_Pc av (fun U => Wat g w U)) (va_Qv (fun (_ : Unit) => True) (fun _ t => Wat g w' t) (AB g)) 0 0 (AB g)
theorem wat_blind {g : GC} {w : WD} {av : List Value} : FrameBlind (va_Pc av (fun U => Wat g w U)) := fun a U fr mk q => by
  obtain ⟨q0, qP, qK, qb⟩ := q
  exact ⟨q0, qP, va_K.moved (u := U) (U := U.calling fr mk a) (Vm.Alike.refl U.vm) qK, qb⟩
/-- the entry of a method -/
theorem m_entry {g : GC} (hg : gOk g) {l : Launch} {y : MethodName} {cc : ByteArray} {nL : Nat} {ret : Option FieldType} {lvl : Nat} {av : List Value} {w : WD} {Qc : Array Value → State → Outcome → State → Prop} (hy : plainName y.cls = true) (hn : (lg_sl av).length ≤ nL)
    (body : ∀ (X : MX), X.2.2.2.2.2.2.2.2.2.2.1 = MQ X.2.2.2.2.2.2.2.1 Qc X.2.2.2.2.2.2.1 X.2.2.2.2.1 0 0 (AB g) → X.2.2.2.2.2.2.2.2.1.sig.returnType = ret → X.2.2.2.2.2.2.2.2.1.locks = false → X.2.2.2.2.2.2.2.2.2.2.2 = (0, 0) → Cx g X cc nL y.cls lvl → Wk g X nL 0 (lv_args 0 av) [] w) :
    Met l y (.code y cc nL ret :: TW) (rmd lvl) (va_Pc av (fun U => Wat g w U)) Qc 0 0 (AB g) := by
  refine Met.ofW (cc := cc) (maxL := nL) (ret := ret) hy rfl ?_
  intro p e s m args below meth c s₁ B hml hv
  obtain ⟨rfl, hP, hK, hb⟩ := hv
  have hts := atoms_spec (ws := .code y cc nL ret :: TW) B.pre
  have hl := lv_entry av (n := nL) hn
  rw [lg_entry_eq]
  have h := body (p, l, e, rmd lvl, s, m, av.toArray, below, meth, c, MQ below Qc av.toArray s 0 0 (AB g), 0, 0) rfl B.returns B.notSynchronized rfl ⟨B.exec, B.bytes, hml, findClass_of_methodNamed B.named, fun w hw => hts w (List.mem_cons_of_mem _ hw), hK, hg, hb, Nat.le_refl _, Nat.le_refl _⟩
  exact h s.heap [] _ hP va_S.rf hl
end
section
/-! MINI-ROWS: an instruction each, over Wk. -/
def x_rem (x y : Int32) : Int32 := x - x / y * y
def l_rem (x y : Int64) : Int64 := x - x / y * y
def x_abs (x : Int32) : Int32 := if 0 ≤ x then x else 0 - x
def x_min (x y : Int32) : Int32 := if y < x then y else x
def x_max (x y : Int32) : Int32 := if x < y then y else x
/-- guards of the pure functions: an index within, a 0 or 1, not 0 -/
def gI {α : Type} (i : Int32) (n : Nat) (v : Option α) : Option α := if i < 0 ∨ n ≤ i.toNatClampNeg then none else v
def gB {α : Type} (i : Int32) (v : Option α) : Option α := if i = 0 ∨ i = 1 then v else none
theorem gI_some {α : Type} {i : Int32} {n : Nat} {v : Option α} {r : α} (h : gI i n v = some r) : vp_in i n ∧ v = some r := by
  unfold gI at h
  by_cases c : i < 0 ∨ n ≤ i.toNatClampNeg
  · rw [if_pos c] at h; cases h
  · rw [if_neg c] at h; exact ⟨c, h⟩
theorem gB_some {α : Type} {i : Int32} {v : Option α} {r : α} (h : gB i v = some r) : (i = 0 ∨ i = 1) ∧ v = some r := by
  unfold gB at h
  by_cases c : i = 0 ∨ i = 1
  · rw [if_pos c] at h; exact ⟨c, h⟩
  · rw [if_neg c] at h; cases h
theorem bd_some {α β : Type} {v : Option α} {k : α → Option β} {r : β} (h : v.bind k = some r) : ∃ a, v = some a ∧ k a = some r := by
  cases v with
  | none => cases h
  | some a => exact ⟨a, rfl, h⟩
theorem vin_lt {i : Int32} {n : Nat} (h : vp_in i n) : i.toNatClampNeg < n := Nat.not_le.mp fun q => h (Or.inr q)
section MR
variable {g : GC} {X : MX} {cc : ByteArray} {nL : Nat} {own : String} {lvl : Nat} {pc : Nat} {loc lv' : List (Nat × Value)} {rest : List Value} {w : WD}

theorem k_iload_n (C : Cx g X cc nL own lvl) {k : Fin 4} {x : Int32} (hd : decode cc pc = .ok (.iload_n k, 1)) (i : Nat) (hi : loc[i]? = some ((k : Nat), .int x)) (h : Wk g X nL (pc + 1) loc (.int x :: rest) w) : Wk g X nL pc loc (rest) w := by
  obtain ⟨p, l, e, R, s, m, args, below, meth, c, Q, cells, slots⟩ := X
  obtain ⟨hx, hb, hml, hown, hts, hK, hg, hbs, hfr, hlo⟩ := C
  exact fun H locs ls hP hS hl => lv_iload_n hx hb hd rfl (lv_at hl i hi) (h H locs ls hP hS hl)

theorem k_iload (C : Cx g X cc nL own lvl) {k : Nat} {x : Int32} (hd : decode cc pc = .ok (.iload k, 2)) (i : Nat) (hi : loc[i]? = some (k, .int x)) (h : Wk g X nL (pc + 2) loc (.int x :: rest) w) : Wk g X nL pc loc (rest) w := by
  obtain ⟨p, l, e, R, s, m, args, below, meth, c, Q, cells, slots⟩ := X
  obtain ⟨hx, hb, hml, hown, hts, hK, hg, hbs, hfr, hlo⟩ := C
  exact fun H locs ls hP hS hl => lv_iload hx hb hd (lv_at hl i hi) (h H locs ls hP hS hl)

theorem k_istore_n (C : Cx g X cc nL own lvl) {k : Fin 4} {x : Int32} (hd : decode cc pc = .ok (.istore_n k, 1)) (hn : Nat.ble ((k : Nat) + 1) nL = true) (hl' : ((k : Nat), Value.int x) :: loc.filter (fun q => !(q.1 == (k : Nat)) && !(q.1 + 1 == (k : Nat) && q.2.category == 2)) = lv') (h : Wk g X nL (pc + 1) lv' rest w) : Wk g X nL pc loc (.int x :: rest) w := by
  obtain ⟨p, l, e, R, s, m, args, below, meth, c, Q, cells, slots⟩ := X
  obtain ⟨hx, hb, hml, hown, hts, hK, hg, hbs, hfr, hlo⟩ := C
  exact fun H locs ls hP hS hl => lv_istore_n hx hb hd rfl hl (Nat.le_of_ble_eq_true hn) hl' (fun ls' hl2 => h H locs ls' hP hS hl2)

theorem k_istore (C : Cx g X cc nL own lvl) {k : Nat} {x : Int32} (hd : decode cc pc = .ok (.istore k, 2)) (hn : Nat.ble (k + 1) nL = true) (hl' : (k, Value.int x) :: loc.filter (fun q => !(q.1 == k) && !(q.1 + 1 == k && q.2.category == 2)) = lv') (h : Wk g X nL (pc + 2) lv' rest w) : Wk g X nL pc loc (.int x :: rest) w := by
  obtain ⟨p, l, e, R, s, m, args, below, meth, c, Q, cells, slots⟩ := X
  obtain ⟨hx, hb, hml, hown, hts, hK, hg, hbs, hfr, hlo⟩ := C
  exact fun H locs ls hP hS hl => lv_istore hx hb hd hl (Nat.le_of_ble_eq_true hn) hl' (fun ls' hl2 => h H locs ls' hP hS hl2)

theorem k_aload_n (C : Cx g X cc nL own lvl) {k : Fin 4} {x : Nat} (hd : decode cc pc = .ok (.aload_n k, 1)) (i : Nat) (hi : loc[i]? = some ((k : Nat), .ref x)) (h : Wk g X nL (pc + 1) loc (.ref x :: rest) w) : Wk g X nL pc loc (rest) w := by
  obtain ⟨p, l, e, R, s, m, args, below, meth, c, Q, cells, slots⟩ := X
  obtain ⟨hx, hb, hml, hown, hts, hK, hg, hbs, hfr, hlo⟩ := C
  exact fun H locs ls hP hS hl => lv_aload_n hx hb hd rfl (lv_at hl i hi) (h H locs ls hP hS hl)

theorem k_aload (C : Cx g X cc nL own lvl) {k : Nat} {x : Nat} (hd : decode cc pc = .ok (.aload k, 2)) (i : Nat) (hi : loc[i]? = some (k, .ref x)) (h : Wk g X nL (pc + 2) loc (.ref x :: rest) w) : Wk g X nL pc loc (rest) w := by
  obtain ⟨p, l, e, R, s, m, args, below, meth, c, Q, cells, slots⟩ := X
  obtain ⟨hx, hb, hml, hown, hts, hK, hg, hbs, hfr, hlo⟩ := C
  exact fun H locs ls hP hS hl => lv_aload hx hb hd (lv_at hl i hi) (h H locs ls hP hS hl)

theorem k_astore_n (C : Cx g X cc nL own lvl) {k : Fin 4} {x : Nat} (hd : decode cc pc = .ok (.astore_n k, 1)) (hn : Nat.ble ((k : Nat) + 1) nL = true) (hl' : ((k : Nat), Value.ref x) :: loc.filter (fun q => !(q.1 == (k : Nat)) && !(q.1 + 1 == (k : Nat) && q.2.category == 2)) = lv') (h : Wk g X nL (pc + 1) lv' rest w) : Wk g X nL pc loc (.ref x :: rest) w := by
  obtain ⟨p, l, e, R, s, m, args, below, meth, c, Q, cells, slots⟩ := X
  obtain ⟨hx, hb, hml, hown, hts, hK, hg, hbs, hfr, hlo⟩ := C
  exact fun H locs ls hP hS hl => lv_astore_n hx hb hd rfl hl (Nat.le_of_ble_eq_true hn) hl' (fun ls' hl2 => h H locs ls' hP hS hl2)

theorem k_astore (C : Cx g X cc nL own lvl) {k : Nat} {x : Nat} (hd : decode cc pc = .ok (.astore k, 2)) (hn : Nat.ble (k + 1) nL = true) (hl' : (k, Value.ref x) :: loc.filter (fun q => !(q.1 == k) && !(q.1 + 1 == k && q.2.category == 2)) = lv') (h : Wk g X nL (pc + 2) lv' rest w) : Wk g X nL pc loc (.ref x :: rest) w := by
  obtain ⟨p, l, e, R, s, m, args, below, meth, c, Q, cells, slots⟩ := X
  obtain ⟨hx, hb, hml, hown, hts, hK, hg, hbs, hfr, hlo⟩ := C
  exact fun H locs ls hP hS hl => lv_astore hx hb hd hl (Nat.le_of_ble_eq_true hn) hl' (fun ls' hl2 => h H locs ls' hP hS hl2)

theorem k_lload_n (C : Cx g X cc nL own lvl) {k : Fin 4} {x : Int64} (hd : decode cc pc = .ok (.lload_n k, 1)) (i : Nat) (hi : loc[i]? = some ((k : Nat), .long x)) (h : Wk g X nL (pc + 1) loc (.long x :: rest) w) : Wk g X nL pc loc (rest) w := by
  obtain ⟨p, l, e, R, s, m, args, below, meth, c, Q, cells, slots⟩ := X
  obtain ⟨hx, hb, hml, hown, hts, hK, hg, hbs, hfr, hlo⟩ := C
  exact fun H locs ls hP hS hl => lv_lload_n hx hb hd rfl (lv_at hl i hi) (h H locs ls hP hS hl)

theorem k_lload (C : Cx g X cc nL own lvl) {k : Nat} {x : Int64} (hd : decode cc pc = .ok (.lload k, 2)) (i : Nat) (hi : loc[i]? = some (k, .long x)) (h : Wk g X nL (pc + 2) loc (.long x :: rest) w) : Wk g X nL pc loc (rest) w := by
  obtain ⟨p, l, e, R, s, m, args, below, meth, c, Q, cells, slots⟩ := X
  obtain ⟨hx, hb, hml, hown, hts, hK, hg, hbs, hfr, hlo⟩ := C
  exact fun H locs ls hP hS hl => lv_lload hx hb hd (lv_at hl i hi) (h H locs ls hP hS hl)

theorem k_lstore_n (C : Cx g X cc nL own lvl) {k : Fin 4} {x : Int64} (hd : decode cc pc = .ok (.lstore_n k, 1)) (hn : Nat.ble ((k : Nat) + 2) nL = true) (hl' : ((k : Nat), Value.long x) :: loc.filter (fun q => !(q.1 == (k : Nat)) && (!(q.1 == (k : Nat) + 1) && !(q.1 + 1 == (k : Nat) && q.2.category == 2))) = lv') (h : Wk g X nL (pc + 1) lv' rest w) : Wk g X nL pc loc (.long x :: rest) w := by
  obtain ⟨p, l, e, R, s, m, args, below, meth, c, Q, cells, slots⟩ := X
  obtain ⟨hx, hb, hml, hown, hts, hK, hg, hbs, hfr, hlo⟩ := C
  exact fun H locs ls hP hS hl => lv_lstore_n hx hb hd rfl hl (Nat.le_of_ble_eq_true hn) hl' (fun ls' hl2 => h H locs ls' hP hS hl2)

theorem k_lstore (C : Cx g X cc nL own lvl) {k : Nat} {x : Int64} (hd : decode cc pc = .ok (.lstore k, 2)) (hn : Nat.ble (k + 2) nL = true) (hl' : (k, Value.long x) :: loc.filter (fun q => !(q.1 == k) && (!(q.1 == k + 1) && !(q.1 + 1 == k && q.2.category == 2))) = lv') (h : Wk g X nL (pc + 2) lv' rest w) : Wk g X nL pc loc (.long x :: rest) w := by
  obtain ⟨p, l, e, R, s, m, args, below, meth, c, Q, cells, slots⟩ := X
  obtain ⟨hx, hb, hml, hown, hts, hK, hg, hbs, hfr, hlo⟩ := C
  exact fun H locs ls hP hS hl => lv_lstore hx hb hd hl (Nat.le_of_ble_eq_true hn) hl' (fun ls' hl2 => h H locs ls' hP hS hl2)

theorem k_iinc (C : Cx g X cc nL own lvl) {k : Nat} {n : Int} {x : Int32} (v : Int32) (hd : decode cc pc = .ok (.iinc k n, 3)) (i : Nat) (hi : loc[i]? = some (k, .int x)) (hv : x + Int32.ofInt n = v) (hn : Nat.ble (k + 1) nL = true) (hl' : (k, Value.int v) :: loc.filter (fun q => !(q.1 == k) && !(q.1 + 1 == k && q.2.category == 2)) = lv') (h : Wk g X nL (pc + 3) lv' rest w) : Wk g X nL pc loc (rest) w := by
  obtain ⟨p, l, e, R, s, m, args, below, meth, c, Q, cells, slots⟩ := X
  obtain ⟨hx, hb, hml, hown, hts, hK, hg, hbs, hfr, hlo⟩ := C
  exact fun H locs ls hP hS hl => lv_iinc hx hb hd hl hi hv (Nat.le_of_ble_eq_true hn) hl' (fun ls' hl2 => h H locs ls' hP hS hl2)

theorem k_iconst (C : Cx g X cc nL own lvl) {n : Int} (v : Int32) (hd : decode cc pc = .ok (.iconst n, 1)) (hv : Int32.ofInt n = v) (h : Wk g X nL (pc + 1) loc (.int v :: rest) w) : Wk g X nL pc loc (rest) w := by
  obtain ⟨p, l, e, R, s, m, args, below, meth, c, Q, cells, slots⟩ := X
  obtain ⟨hx, hb, hml, hown, hts, hK, hg, hbs, hfr, hlo⟩ := C
  exact fun H locs ls hP hS hl => lv_iconst hx hb hd hv (h H locs ls hP hS hl)

theorem k_bipush (C : Cx g X cc nL own lvl) {n : Int} (v : Int32) (hd : decode cc pc = .ok (.bipush n, 2)) (hv : (Int8.ofInt n).toInt32 = v) (h : Wk g X nL (pc + 2) loc (.int v :: rest) w) : Wk g X nL pc loc (rest) w := by
  obtain ⟨p, l, e, R, s, m, args, below, meth, c, Q, cells, slots⟩ := X
  obtain ⟨hx, hb, hml, hown, hts, hK, hg, hbs, hfr, hlo⟩ := C
  exact fun H locs ls hP hS hl => lv_bipush hx hb hd hv (h H locs ls hP hS hl)

theorem k_sipush (C : Cx g X cc nL own lvl) {n : Int} (v : Int32) (hd : decode cc pc = .ok (.sipush n, 3)) (hv : (Int16.ofInt n).toInt32 = v) (h : Wk g X nL (pc + 3) loc (.int v :: rest) w) : Wk g X nL pc loc (rest) w := by
  obtain ⟨p, l, e, R, s, m, args, below, meth, c, Q, cells, slots⟩ := X
  obtain ⟨hx, hb, hml, hown, hts, hK, hg, hbs, hfr, hlo⟩ := C
  exact fun H locs ls hP hS hl => lv_sipush hx hb hd hv (h H locs ls hP hS hl)

theorem k_lconst (C : Cx g X cc nL own lvl) {n : Fin 2} (v : Int64) (hd : decode cc pc = .ok (.lconst n, 1)) (hv : Int64.ofNat (n : Nat) = v) (h : Wk g X nL (pc + 1) loc (.long v :: rest) w) : Wk g X nL pc loc (rest) w := by
  obtain ⟨p, l, e, R, s, m, args, below, meth, c, Q, cells, slots⟩ := X
  obtain ⟨hx, hb, hml, hown, hts, hK, hg, hbs, hfr, hlo⟩ := C
  exact fun H locs ls hP hS hl => lv_lconst hx hb hd hv (h H locs ls hP hS hl)

theorem k_ldc (C : Cx g X cc nL own lvl) {idx : Nat} (v : Int32) (hw : Cond.constant own idx v ∈ TW) (hd : decode cc pc = .ok (.ldc idx, 2)) (h : Wk g X nL (pc + 2) loc (.int v :: rest) w) : Wk g X nL pc loc (rest) w := by
  obtain ⟨p, l, e, R, s, m, args, below, meth, c, Q, cells, slots⟩ := X
  obtain ⟨hx, hb, hml, hown, hts, hK, hg, hbs, hfr, hlo⟩ := C
  exact fun H locs ls hP hS hl => lv_ldc hx hb hown (hts _ hw) hd (h H locs ls hP hS hl)

theorem k_ldcw (C : Cx g X cc nL own lvl) {idx : Nat} (v : Int32) (hw : Cond.constant own idx v ∈ TW) (hd : decode cc pc = .ok (.ldc_w idx, 3)) (h : Wk g X nL (pc + 3) loc (.int v :: rest) w) : Wk g X nL pc loc (rest) w := by
  obtain ⟨p, l, e, R, s, m, args, below, meth, c, Q, cells, slots⟩ := X
  obtain ⟨hx, hb, hml, hown, hts, hK, hg, hbs, hfr, hlo⟩ := C
  exact fun H locs ls hP hS hl => lv_ldcw hx hb hown (hts _ hw) hd (h H locs ls hP hS hl)

theorem k_ldc2 (C : Cx g X cc nL own lvl) {idx : Nat} (v : Int64) (hw : Cond.constantLong own idx v ∈ TW) (hd : decode cc pc = .ok (.ldc2_w idx, 3)) (h : Wk g X nL (pc + 3) loc (.long v :: rest) w) : Wk g X nL pc loc (rest) w := by
  obtain ⟨p, l, e, R, s, m, args, below, meth, c, Q, cells, slots⟩ := X
  obtain ⟨hx, hb, hml, hown, hts, hK, hg, hbs, hfr, hlo⟩ := C
  exact fun H locs ls hP hS hl => lv_ldc2 hx hb hown (hts _ hw) hd (h H locs ls hP hS hl)

theorem k_iadd (C : Cx g X cc nL own lvl) {x y : Int32} (hd : decode cc pc = .ok (.iadd, 1)) (h : Wk g X nL (pc + 1) loc (.int (x + y) :: rest) w) : Wk g X nL pc loc (.int y :: .int x :: rest) w := by
  obtain ⟨p, l, e, R, s, m, args, below, meth, c, Q, cells, slots⟩ := X
  obtain ⟨hx, hb, hml, hown, hts, hK, hg, hbs, hfr, hlo⟩ := C
  exact fun H locs ls hP hS hl => lv_iadd hx hb hd (h H locs ls hP hS hl)

theorem k_isub (C : Cx g X cc nL own lvl) {x y : Int32} (hd : decode cc pc = .ok (.isub, 1)) (h : Wk g X nL (pc + 1) loc (.int (x - y) :: rest) w) : Wk g X nL pc loc (.int y :: .int x :: rest) w := by
  obtain ⟨p, l, e, R, s, m, args, below, meth, c, Q, cells, slots⟩ := X
  obtain ⟨hx, hb, hml, hown, hts, hK, hg, hbs, hfr, hlo⟩ := C
  exact fun H locs ls hP hS hl => lv_isub hx hb hd (h H locs ls hP hS hl)

theorem k_imul (C : Cx g X cc nL own lvl) {x y : Int32} (hd : decode cc pc = .ok (.imul, 1)) (h : Wk g X nL (pc + 1) loc (.int (x * y) :: rest) w) : Wk g X nL pc loc (.int y :: .int x :: rest) w := by
  obtain ⟨p, l, e, R, s, m, args, below, meth, c, Q, cells, slots⟩ := X
  obtain ⟨hx, hb, hml, hown, hts, hK, hg, hbs, hfr, hlo⟩ := C
  exact fun H locs ls hP hS hl => lv_imul hx hb hd (h H locs ls hP hS hl)

theorem k_iand (C : Cx g X cc nL own lvl) {x y : Int32} (hd : decode cc pc = .ok (.iand, 1)) (h : Wk g X nL (pc + 1) loc (.int (x &&& y) :: rest) w) : Wk g X nL pc loc (.int y :: .int x :: rest) w := by
  obtain ⟨p, l, e, R, s, m, args, below, meth, c, Q, cells, slots⟩ := X
  obtain ⟨hx, hb, hml, hown, hts, hK, hg, hbs, hfr, hlo⟩ := C
  exact fun H locs ls hP hS hl => lv_iand hx hb hd (h H locs ls hP hS hl)

theorem k_ior (C : Cx g X cc nL own lvl) {x y : Int32} (hd : decode cc pc = .ok (.ior, 1)) (h : Wk g X nL (pc + 1) loc (.int (x ||| y) :: rest) w) : Wk g X nL pc loc (.int y :: .int x :: rest) w := by
  obtain ⟨p, l, e, R, s, m, args, below, meth, c, Q, cells, slots⟩ := X
  obtain ⟨hx, hb, hml, hown, hts, hK, hg, hbs, hfr, hlo⟩ := C
  exact fun H locs ls hP hS hl => lv_ior hx hb hd (h H locs ls hP hS hl)

theorem k_ishl (C : Cx g X cc nL own lvl) {x y : Int32} (hd : decode cc pc = .ok (.ishl, 1)) (h : Wk g X nL (pc + 1) loc (.int (x <<< (y &&& 31)) :: rest) w) : Wk g X nL pc loc (.int y :: .int x :: rest) w := by
  obtain ⟨p, l, e, R, s, m, args, below, meth, c, Q, cells, slots⟩ := X
  obtain ⟨hx, hb, hml, hown, hts, hK, hg, hbs, hfr, hlo⟩ := C
  exact fun H locs ls hP hS hl => lv_ishl hx hb hd (h H locs ls hP hS hl)

theorem k_ishr (C : Cx g X cc nL own lvl) {x y : Int32} (hd : decode cc pc = .ok (.ishr, 1)) (h : Wk g X nL (pc + 1) loc (.int (x >>> (y &&& 31)) :: rest) w) : Wk g X nL pc loc (.int y :: .int x :: rest) w := by
  obtain ⟨p, l, e, R, s, m, args, below, meth, c, Q, cells, slots⟩ := X
  obtain ⟨hx, hb, hml, hown, hts, hK, hg, hbs, hfr, hlo⟩ := C
  exact fun H locs ls hP hS hl => lv_ishr hx hb hd (h H locs ls hP hS hl)

theorem k_idiv (C : Cx g X cc nL own lvl) {x y : Int32} (hne : ¬ y = 0) (hd : decode cc pc = .ok (.idiv, 1)) (h : Wk g X nL (pc + 1) loc (.int (x / y) :: rest) w) : Wk g X nL pc loc (.int y :: .int x :: rest) w := by
  obtain ⟨p, l, e, R, s, m, args, below, meth, c, Q, cells, slots⟩ := X
  obtain ⟨hx, hb, hml, hown, hts, hK, hg, hbs, hfr, hlo⟩ := C
  exact fun H locs ls hP hS hl => lv_idiv hx hb hd hne (h H locs ls hP hS hl)

theorem k_irem (C : Cx g X cc nL own lvl) {x y : Int32} (hne : ¬ y = 0) (hd : decode cc pc = .ok (.irem, 1)) (h : Wk g X nL (pc + 1) loc (.int (x_rem x y) :: rest) w) : Wk g X nL pc loc (.int y :: .int x :: rest) w := by
  obtain ⟨p, l, e, R, s, m, args, below, meth, c, Q, cells, slots⟩ := X
  obtain ⟨hx, hb, hml, hown, hts, hK, hg, hbs, hfr, hlo⟩ := C
  exact fun H locs ls hP hS hl => lv_irem hx hb hd hne (h H locs ls hP hS hl)

theorem k_ladd (C : Cx g X cc nL own lvl) {x y : Int64} (hd : decode cc pc = .ok (.ladd, 1)) (h : Wk g X nL (pc + 1) loc (.long (x + y) :: rest) w) : Wk g X nL pc loc (.long y :: .long x :: rest) w := by
  obtain ⟨p, l, e, R, s, m, args, below, meth, c, Q, cells, slots⟩ := X
  obtain ⟨hx, hb, hml, hown, hts, hK, hg, hbs, hfr, hlo⟩ := C
  exact fun H locs ls hP hS hl => lv_ladd hx hb hd (h H locs ls hP hS hl)

theorem k_lmul (C : Cx g X cc nL own lvl) {x y : Int64} (hd : decode cc pc = .ok (.lmul, 1)) (h : Wk g X nL (pc + 1) loc (.long (x * y) :: rest) w) : Wk g X nL pc loc (.long y :: .long x :: rest) w := by
  obtain ⟨p, l, e, R, s, m, args, below, meth, c, Q, cells, slots⟩ := X
  obtain ⟨hx, hb, hml, hown, hts, hK, hg, hbs, hfr, hlo⟩ := C
  exact fun H locs ls hP hS hl => lv_lmul hx hb hd (h H locs ls hP hS hl)

theorem k_lsub (C : Cx g X cc nL own lvl) {x y : Int64} (hd : decode cc pc = .ok (.lsub, 1)) (h : Wk g X nL (pc + 1) loc (.long (x - y) :: rest) w) : Wk g X nL pc loc (.long y :: .long x :: rest) w := by
  obtain ⟨p, l, e, R, s, m, args, below, meth, c, Q, cells, slots⟩ := X
  obtain ⟨hx, hb, hml, hown, hts, hK, hg, hbs, hfr, hlo⟩ := C
  exact fun H locs ls hP hS hl => lv_lsub hx hb hd (h H locs ls hP hS hl)

theorem k_ldiv (C : Cx g X cc nL own lvl) {x y : Int64} (hne : ¬ y = 0) (hd : decode cc pc = .ok (.ldiv, 1)) (h : Wk g X nL (pc + 1) loc (.long (x / y) :: rest) w) : Wk g X nL pc loc (.long y :: .long x :: rest) w := by
  obtain ⟨p, l, e, R, s, m, args, below, meth, c, Q, cells, slots⟩ := X
  obtain ⟨hx, hb, hml, hown, hts, hK, hg, hbs, hfr, hlo⟩ := C
  exact fun H locs ls hP hS hl => lv_ldiv hx hb hd hne (h H locs ls hP hS hl)

theorem k_lrem (C : Cx g X cc nL own lvl) {x y : Int64} (hne : ¬ y = 0) (hd : decode cc pc = .ok (.lrem, 1)) (h : Wk g X nL (pc + 1) loc (.long (l_rem x y) :: rest) w) : Wk g X nL pc loc (.long y :: .long x :: rest) w := by
  obtain ⟨p, l, e, R, s, m, args, below, meth, c, Q, cells, slots⟩ := X
  obtain ⟨hx, hb, hml, hown, hts, hK, hg, hbs, hfr, hlo⟩ := C
  exact fun H locs ls hP hS hl => lv_lrem hx hb hd hne (h H locs ls hP hS hl)

theorem k_lcmp (C : Cx g X cc nL own lvl) {x y : Int64} (hd : decode cc pc = .ok (.lcmp, 1)) (h : Wk g X nL (pc + 1) loc (.int (lg_cmp x y) :: rest) w) : Wk g X nL pc loc (.long y :: .long x :: rest) w := by
  obtain ⟨p, l, e, R, s, m, args, below, meth, c, Q, cells, slots⟩ := X
  obtain ⟨hx, hb, hml, hown, hts, hK, hg, hbs, hfr, hlo⟩ := C
  exact fun H locs ls hP hS hl => W.lcmp hx hb hd (h H locs ls hP hS hl)

theorem k_i2l (C : Cx g X cc nL own lvl) {x : Int32} (hd : decode cc pc = .ok (.i2l, 1)) (h : Wk g X nL (pc + 1) loc (.long x.toInt64 :: rest) w) : Wk g X nL pc loc (.int x :: rest) w := by
  obtain ⟨p, l, e, R, s, m, args, below, meth, c, Q, cells, slots⟩ := X
  obtain ⟨hx, hb, hml, hown, hts, hK, hg, hbs, hfr, hlo⟩ := C
  exact fun H locs ls hP hS hl => lv_i2l hx hb hd rfl (h H locs ls hP hS hl)

theorem k_l2i (C : Cx g X cc nL own lvl) {x : Int64} (hd : decode cc pc = .ok (.l2i, 1)) (h : Wk g X nL (pc + 1) loc (.int x.toInt32 :: rest) w) : Wk g X nL pc loc (.long x :: rest) w := by
  obtain ⟨p, l, e, R, s, m, args, below, meth, c, Q, cells, slots⟩ := X
  obtain ⟨hx, hb, hml, hown, hts, hK, hg, hbs, hfr, hlo⟩ := C
  exact fun H locs ls hP hS hl => lv_l2i hx hb hd rfl (h H locs ls hP hS hl)

theorem k_i2b (C : Cx g X cc nL own lvl) {x : Int32} (hd : decode cc pc = .ok (.i2b, 1)) (h : Wk g X nL (pc + 1) loc (.int x.toInt8.toInt32 :: rest) w) : Wk g X nL pc loc (.int x :: rest) w := by
  obtain ⟨p, l, e, R, s, m, args, below, meth, c, Q, cells, slots⟩ := X
  obtain ⟨hx, hb, hml, hown, hts, hK, hg, hbs, hfr, hlo⟩ := C
  exact fun H locs ls hP hS hl => lv_i2b hx hb hd rfl (h H locs ls hP hS hl)

theorem k_i2s (C : Cx g X cc nL own lvl) {x : Int32} (hd : decode cc pc = .ok (.i2s, 1)) (h : Wk g X nL (pc + 1) loc (.int x.toInt16.toInt32 :: rest) w) : Wk g X nL pc loc (.int x :: rest) w := by
  obtain ⟨p, l, e, R, s, m, args, below, meth, c, Q, cells, slots⟩ := X
  obtain ⟨hx, hb, hml, hown, hts, hK, hg, hbs, hfr, hlo⟩ := C
  exact fun H locs ls hP hS hl => lv_i2s hx hb hd rfl (h H locs ls hP hS hl)

theorem k_dup (C : Cx g X cc nL own lvl) {v : Value} (hd : decode cc pc = .ok (.dup, 1)) (hv : v.category = 1) (h : Wk g X nL (pc + 1) loc (v :: v :: rest) w) : Wk g X nL pc loc (v :: rest) w := by
  obtain ⟨p, l, e, R, s, m, args, below, meth, c, Q, cells, slots⟩ := X
  obtain ⟨hx, hb, hml, hown, hts, hK, hg, hbs, hfr, hlo⟩ := C
  exact fun H locs ls hP hS hl => lv_dup hx hb hd hv (h H locs ls hP hS hl)

theorem k_dup2 (C : Cx g X cc nL own lvl) {va vb : Value} (hd : decode cc pc = .ok (.dup2, 1)) (hva : va.category = 1) (hvb : vb.category = 1) (h : Wk g X nL (pc + 1) loc (va :: vb :: va :: vb :: rest) w) : Wk g X nL pc loc (va :: vb :: rest) w := by
  obtain ⟨p, l, e, R, s, m, args, below, meth, c, Q, cells, slots⟩ := X
  obtain ⟨hx, hb, hml, hown, hts, hK, hg, hbs, hfr, hlo⟩ := C
  exact fun H locs ls hP hS hl => lv_dup2_11 hx hb hd hva hvb (h H locs ls hP hS hl)

theorem k_dup_x1 (C : Cx g X cc nL own lvl) {va vb : Value} (hd : decode cc pc = .ok (.dup_x1, 1)) (hva : va.category = 1) (hvb : vb.category = 1) (h : Wk g X nL (pc + 1) loc (va :: vb :: va :: rest) w) : Wk g X nL pc loc (va :: vb :: rest) w := by
  obtain ⟨p, l, e, R, s, m, args, below, meth, c, Q, cells, slots⟩ := X
  obtain ⟨hx, hb, hml, hown, hts, hK, hg, hbs, hfr, hlo⟩ := C
  exact fun H locs ls hP hS hl => lv_dup_x1 hx hb hd hva hvb (h H locs ls hP hS hl)

theorem k_pop (C : Cx g X cc nL own lvl) {v : Value} (hd : decode cc pc = .ok (.pop, 1)) (hv : v.category = 1) (h : Wk g X nL (pc + 1) loc rest w) : Wk g X nL pc loc (v :: rest) w := by
  obtain ⟨p, l, e, R, s, m, args, below, meth, c, Q, cells, slots⟩ := X
  obtain ⟨hx, hb, hml, hown, hts, hK, hg, hbs, hfr, hlo⟩ := C
  exact fun H locs ls hP hS hl => lv_pop hx hb hd hv (h H locs ls hP hS hl)

theorem k_if_eq (C : Cx g X cc nL own lvl) {x : Int32} {off : Int} (tgt : Nat) (hd : decode cc pc = .ok (.ifCond .eq off, 3)) (ht : (pc : Int) + off = (tgt : Int)) (kt : x = 0 → Wk g X nL tgt loc rest w) (kf : ¬ x = 0 → Wk g X nL (pc + 3) loc rest w) : Wk g X nL pc loc (.int x :: rest) w := by
  obtain ⟨p, l, e, R, s, m, args, below, meth, c, Q, cells, slots⟩ := X
  obtain ⟨hx, hb, hml, hown, hts, hK, hg, hbs, hfr, hlo⟩ := C
  exact fun H locs ls hP hS hl => lv_if_eq hx hb hd ht (fun q => kt q H locs ls hP hS hl) (fun q => kf q H locs ls hP hS hl)

theorem k_if_ne (C : Cx g X cc nL own lvl) {x : Int32} {off : Int} (tgt : Nat) (hd : decode cc pc = .ok (.ifCond .ne off, 3)) (ht : (pc : Int) + off = (tgt : Int)) (kt : ¬ x = 0 → Wk g X nL tgt loc rest w) (kf : x = 0 → Wk g X nL (pc + 3) loc rest w) : Wk g X nL pc loc (.int x :: rest) w := by
  obtain ⟨p, l, e, R, s, m, args, below, meth, c, Q, cells, slots⟩ := X
  obtain ⟨hx, hb, hml, hown, hts, hK, hg, hbs, hfr, hlo⟩ := C
  exact fun H locs ls hP hS hl => lv_if_ne hx hb hd ht (fun q => kt q H locs ls hP hS hl) (fun q => kf q H locs ls hP hS hl)

theorem k_if_lt (C : Cx g X cc nL own lvl) {x : Int32} {off : Int} (tgt : Nat) (hd : decode cc pc = .ok (.ifCond .lt off, 3)) (ht : (pc : Int) + off = (tgt : Int)) (kt : x < 0 → Wk g X nL tgt loc rest w) (kf : ¬ x < 0 → Wk g X nL (pc + 3) loc rest w) : Wk g X nL pc loc (.int x :: rest) w := by
  obtain ⟨p, l, e, R, s, m, args, below, meth, c, Q, cells, slots⟩ := X
  obtain ⟨hx, hb, hml, hown, hts, hK, hg, hbs, hfr, hlo⟩ := C
  exact fun H locs ls hP hS hl => lv_if_lt hx hb hd ht (fun q => kt q H locs ls hP hS hl) (fun q => kf q H locs ls hP hS hl)

theorem k_if_ge (C : Cx g X cc nL own lvl) {x : Int32} {off : Int} (tgt : Nat) (hd : decode cc pc = .ok (.ifCond .ge off, 3)) (ht : (pc : Int) + off = (tgt : Int)) (kt : 0 ≤ x → Wk g X nL tgt loc rest w) (kf : ¬ 0 ≤ x → Wk g X nL (pc + 3) loc rest w) : Wk g X nL pc loc (.int x :: rest) w := by
  obtain ⟨p, l, e, R, s, m, args, below, meth, c, Q, cells, slots⟩ := X
  obtain ⟨hx, hb, hml, hown, hts, hK, hg, hbs, hfr, hlo⟩ := C
  exact fun H locs ls hP hS hl => lv_if_ge hx hb hd ht (fun q => kt q H locs ls hP hS hl) (fun q => kf q H locs ls hP hS hl)

theorem k_if_gt (C : Cx g X cc nL own lvl) {x : Int32} {off : Int} (tgt : Nat) (hd : decode cc pc = .ok (.ifCond .gt off, 3)) (ht : (pc : Int) + off = (tgt : Int)) (kt : 0 < x → Wk g X nL tgt loc rest w) (kf : ¬ 0 < x → Wk g X nL (pc + 3) loc rest w) : Wk g X nL pc loc (.int x :: rest) w := by
  obtain ⟨p, l, e, R, s, m, args, below, meth, c, Q, cells, slots⟩ := X
  obtain ⟨hx, hb, hml, hown, hts, hK, hg, hbs, hfr, hlo⟩ := C
  exact fun H locs ls hP hS hl => lv_if_gt hx hb hd ht (fun q => kt q H locs ls hP hS hl) (fun q => kf q H locs ls hP hS hl)

theorem k_if_le (C : Cx g X cc nL own lvl) {x : Int32} {off : Int} (tgt : Nat) (hd : decode cc pc = .ok (.ifCond .le off, 3)) (ht : (pc : Int) + off = (tgt : Int)) (kt : x ≤ 0 → Wk g X nL tgt loc rest w) (kf : ¬ x ≤ 0 → Wk g X nL (pc + 3) loc rest w) : Wk g X nL pc loc (.int x :: rest) w := by
  obtain ⟨p, l, e, R, s, m, args, below, meth, c, Q, cells, slots⟩ := X
  obtain ⟨hx, hb, hml, hown, hts, hK, hg, hbs, hfr, hlo⟩ := C
  exact fun H locs ls hP hS hl => lv_if_le hx hb hd ht (fun q => kt q H locs ls hP hS hl) (fun q => kf q H locs ls hP hS hl)

theorem k_icmp_eq (C : Cx g X cc nL own lvl) {x y : Int32} {off : Int} (tgt : Nat) (hd : decode cc pc = .ok (.if_icmp .eq off, 3)) (ht : (pc : Int) + off = (tgt : Int)) (kt : x = y → Wk g X nL tgt loc rest w) (kf : ¬ x = y → Wk g X nL (pc + 3) loc rest w) : Wk g X nL pc loc (.int y :: .int x :: rest) w := by
  obtain ⟨p, l, e, R, s, m, args, below, meth, c, Q, cells, slots⟩ := X
  obtain ⟨hx, hb, hml, hown, hts, hK, hg, hbs, hfr, hlo⟩ := C
  exact fun H locs ls hP hS hl => lv_icmp_eq hx hb hd ht (fun q => kt q H locs ls hP hS hl) (fun q => kf q H locs ls hP hS hl)

theorem k_icmp_ne (C : Cx g X cc nL own lvl) {x y : Int32} {off : Int} (tgt : Nat) (hd : decode cc pc = .ok (.if_icmp .ne off, 3)) (ht : (pc : Int) + off = (tgt : Int)) (kt : ¬ x = y → Wk g X nL tgt loc rest w) (kf : x = y → Wk g X nL (pc + 3) loc rest w) : Wk g X nL pc loc (.int y :: .int x :: rest) w := by
  obtain ⟨p, l, e, R, s, m, args, below, meth, c, Q, cells, slots⟩ := X
  obtain ⟨hx, hb, hml, hown, hts, hK, hg, hbs, hfr, hlo⟩ := C
  exact fun H locs ls hP hS hl => lv_icmp_ne hx hb hd ht (fun q => kt q H locs ls hP hS hl) (fun q => kf q H locs ls hP hS hl)

theorem k_icmp_lt (C : Cx g X cc nL own lvl) {x y : Int32} {off : Int} (tgt : Nat) (hd : decode cc pc = .ok (.if_icmp .lt off, 3)) (ht : (pc : Int) + off = (tgt : Int)) (kt : x < y → Wk g X nL tgt loc rest w) (kf : ¬ x < y → Wk g X nL (pc + 3) loc rest w) : Wk g X nL pc loc (.int y :: .int x :: rest) w := by
  obtain ⟨p, l, e, R, s, m, args, below, meth, c, Q, cells, slots⟩ := X
  obtain ⟨hx, hb, hml, hown, hts, hK, hg, hbs, hfr, hlo⟩ := C
  exact fun H locs ls hP hS hl => lv_icmp_lt hx hb hd ht (fun q => kt q H locs ls hP hS hl) (fun q => kf q H locs ls hP hS hl)

theorem k_icmp_ge (C : Cx g X cc nL own lvl) {x y : Int32} {off : Int} (tgt : Nat) (hd : decode cc pc = .ok (.if_icmp .ge off, 3)) (ht : (pc : Int) + off = (tgt : Int)) (kt : y ≤ x → Wk g X nL tgt loc rest w) (kf : ¬ y ≤ x → Wk g X nL (pc + 3) loc rest w) : Wk g X nL pc loc (.int y :: .int x :: rest) w := by
  obtain ⟨p, l, e, R, s, m, args, below, meth, c, Q, cells, slots⟩ := X
  obtain ⟨hx, hb, hml, hown, hts, hK, hg, hbs, hfr, hlo⟩ := C
  exact fun H locs ls hP hS hl => lv_icmp_ge hx hb hd ht (fun q => kt q H locs ls hP hS hl) (fun q => kf q H locs ls hP hS hl)

theorem k_icmp_gt (C : Cx g X cc nL own lvl) {x y : Int32} {off : Int} (tgt : Nat) (hd : decode cc pc = .ok (.if_icmp .gt off, 3)) (ht : (pc : Int) + off = (tgt : Int)) (kt : y < x → Wk g X nL tgt loc rest w) (kf : ¬ y < x → Wk g X nL (pc + 3) loc rest w) : Wk g X nL pc loc (.int y :: .int x :: rest) w := by
  obtain ⟨p, l, e, R, s, m, args, below, meth, c, Q, cells, slots⟩ := X
  obtain ⟨hx, hb, hml, hown, hts, hK, hg, hbs, hfr, hlo⟩ := C
  exact fun H locs ls hP hS hl => lv_icmp_gt hx hb hd ht (fun q => kt q H locs ls hP hS hl) (fun q => kf q H locs ls hP hS hl)

theorem k_icmp_le (C : Cx g X cc nL own lvl) {x y : Int32} {off : Int} (tgt : Nat) (hd : decode cc pc = .ok (.if_icmp .le off, 3)) (ht : (pc : Int) + off = (tgt : Int)) (kt : x ≤ y → Wk g X nL tgt loc rest w) (kf : ¬ x ≤ y → Wk g X nL (pc + 3) loc rest w) : Wk g X nL pc loc (.int y :: .int x :: rest) w := by
  obtain ⟨p, l, e, R, s, m, args, below, meth, c, Q, cells, slots⟩ := X
  obtain ⟨hx, hb, hml, hown, hts, hK, hg, hbs, hfr, hlo⟩ := C
  exact fun H locs ls hP hS hl => lv_icmp_le hx hb hd ht (fun q => kt q H locs ls hP hS hl) (fun q => kf q H locs ls hP hS hl)

theorem k_goto (C : Cx g X cc nL own lvl) {off : Int} (tgt : Nat) (hd : decode cc pc = .ok (.goto off, 3)) (ht : (pc : Int) + off = (tgt : Int)) (h : Wk g X nL tgt loc rest w) : Wk g X nL pc loc (rest) w := by
  obtain ⟨p, l, e, R, s, m, args, below, meth, c, Q, cells, slots⟩ := X
  obtain ⟨hx, hb, hml, hown, hts, hK, hg, hbs, hfr, hlo⟩ := C
  exact fun H locs ls hP hS hl => lv_goto hx hb hd ht (h H locs ls hP hS hl)

theorem k_lookup (C : Cx g X cc nL own lvl) {dflt : Int} {ps : Array (Int × Int)} {len : Nat} {x : Int32} (off : Int) (tgt : Nat) (hd : decode cc pc = .ok (.lookupswitch dflt ps, len)) (hp : (ps.toList.zip (ps.toList.drop 1)).all (fun (a, next) => a.1 < next.1) = true) (ho : Op.lookupswitch.offset ps.toList dflt x.toInt = off) (ht : (pc : Int) + off = (tgt : Int)) (h : Wk g X nL tgt loc rest w) : Wk g X nL pc loc (.int x :: rest) w := by
  obtain ⟨p, l, e, R, s, m, args, below, meth, c, Q, cells, slots⟩ := X
  obtain ⟨hx, hb, hml, hown, hts, hK, hg, hbs, hfr, hlo⟩ := C
  exact fun H locs ls hP hS hl => lv_lookup hx hb hd hp ho ht (h H locs ls hP hS hl)

theorem k_tabin (C : Cx g X cc nL own lvl) {dflt lo hi : Int} {offs : Array Int} {len : Nat} {x : Int32} (off : Int) (tgt : Nat) (hd : decode cc pc = .ok (.tableswitch dflt lo hi offs, len)) (h1 : ¬ x.toInt < lo) (h2 : ¬ hi < x.toInt) (ho : offs[(x.toInt - lo).toNat]? = some off) (ht : (pc : Int) + off = (tgt : Int)) (h : Wk g X nL tgt loc rest w) : Wk g X nL pc loc (.int x :: rest) w := by
  obtain ⟨p, l, e, R, s, m, args, below, meth, c, Q, cells, slots⟩ := X
  obtain ⟨hx, hb, hml, hown, hts, hK, hg, hbs, hfr, hlo⟩ := C
  exact fun H locs ls hP hS hl => lv_tableIn hx hb hd h1 h2 ho ht (h H locs ls hP hS hl)

theorem k_tabout (C : Cx g X cc nL own lvl) {dflt lo hi : Int} {offs : Array Int} {len : Nat} {x : Int32} (tgt : Nat) (hd : decode cc pc = .ok (.tableswitch dflt lo hi offs, len)) (h1 : x.toInt < lo ∨ hi < x.toInt) (ht : (pc : Int) + dflt = (tgt : Int)) (h : Wk g X nL tgt loc rest w) : Wk g X nL pc loc (.int x :: rest) w := by
  obtain ⟨p, l, e, R, s, m, args, below, meth, c, Q, cells, slots⟩ := X
  obtain ⟨hx, hb, hml, hown, hts, hK, hg, hbs, hfr, hlo⟩ := C
  exact fun H locs ls hP hS hl => lv_tableOut hx hb hd h1 ht (h H locs ls hP hS hl)

theorem k_sub (ks : List Nat) (hl' : lv_pick loc ks = lv') (h : Wk g X nL pc lv' rest w) : Wk g X nL pc loc rest w := by
  obtain ⟨p, l, e, R, s, m, args, below, meth, c, Q, cells, slots⟩ := X
  exact fun H locs ls hP hS hl => h H locs ls hP hS (lv_sub hl ks hl')
theorem nti {x v : Int32} (h : ¬ x = v) : ¬ x.toInt = v.toInt := fun e => h (Int32.toInt_inj.mp e)

theorem k_get (C : Cx g X cc nL own lvl) {idx o ci k N : Nat} {Cn : String} {T : u_T} {fs : List Value} {v : Value} (hlink : Cond.fieldLink own idx Cn (T k).2.1 (T k).2.2.1 ∈ TW) (hdecl : (T k).1 = Cn) (hin : ∀ q ∈ u_ws Cn T N, q ∈ TW) (hc : vcls[ci]? = some (Cn, T, N)) (hk : k < N) (ho : o < 105) (he : shW g w o = .inr (ci, fs)) (hv : fs[k]? = some v) (hd : decode cc pc = .ok (.getfield idx, 3)) (h : Wk g X nL (pc + 3) loc (v :: rest) w) : Wk g X nL pc loc (.ref (g_a g o) :: rest) w := by
  obtain ⟨p, l, e, R, s, m, args, below, meth, c, Q, cells, slots⟩ := X
  obtain ⟨hx, hb, hml, hown, hts, hK, hg, hbs, hfr, hlo⟩ := C
  exact fun H locs ls hP hS hl => va_get hx hb hts hin hown hK hP o (by rw [wl_at ho, he]) hc k hk (hts _ hlink) (fun x hx1 => by rw [hdecl] at hx1; exact hx1) hv hd (h H locs ls hP hS hl)

theorem k_put (C : Cx g X cc nL own lvl) {idx o ci k N : Nat} {Cn : String} {T : u_T} {fs : List Value} {v : Value} {w' : WD} {ty : FieldType} (hlink : Cond.fieldLink own idx Cn (T k).2.1 (T k).2.2.1 ∈ TW) (hdecl : (T k).1 = Cn) (hin : ∀ q ∈ u_ws Cn T N, q ∈ TW) (ty0 : Nat → FieldType) (hty : ∀ k, k < N → parseFieldDescriptor (T k).2.2.1 = some (ty0 k)) (hnm : ∀ a, a < N → ∀ b, b < N → a ≠ b → (T a).2.1 ≠ (T b).2.1) (hc : vcls[ci]? = some (Cn, T, N)) (hk : k < N) (hfin : (T k).2.2.2 = false) (ht : parseFieldDescriptor (T k).2.2.1 = some ty) (hn : narrow ty v = v) (hfit : fits ty v = true) (hlen : k < fs.length) (ho : o < 105) (he : shW g w o = .inr (ci, fs)) (hw : shW g w' o = .inr (ci, fs.set k v)) (hoth : ∀ j, j ≠ o → shW g w' j = shW g w j) (hd : decode cc pc = .ok (.putfield idx, 3)) (h : Wk g X nL (pc + 3) loc rest w') : Wk g X nL pc loc (v :: .ref (g_a g o) :: rest) w := by
  obtain ⟨p, l, e, R, s, m, args, below, meth, c, Q, cells, slots⟩ := X
  obtain ⟨hx, hb, hml, hown, hts, hK, hg, hbs, hfr, hlo⟩ := C
  refine fun H locs ls hP hS hl => va_put hx hb hts hin ty0 hty hnm hown hK hP (hg.d w) hS o (by rw [wl_at ho, he]) hc k hk (hts _ hlink) (fun x hx1 => by rw [hdecl] at hx1; exact hx1) hfin ht hn hfit hlen hd (fun H1 locs1 hP1 hD1 hS1 => ?_)
  rw [wl_set ho hw hoth] at hP1
  exact h H1 locs1 ls hP1 hS1 hl

theorem k_getN (C : Cx g X cc nL own lvl) {idx o ci k N : Nat} {Cn : String} {T : u_T} {fs : List Value} {v : Value} {host : String} (hlink : Cond.fieldLinkNest own idx Cn (T k).2.1 (T k).2.2.1 host ∈ TW) (hdecl : (T k).1 = Cn) (hin : ∀ q ∈ u_ws Cn T N, q ∈ TW) (hc : vcls[ci]? = some (Cn, T, N)) (hk : k < N) (ho : o < 105) (he : shW g w o = .inr (ci, fs)) (hv : fs[k]? = some v) (hd : decode cc pc = .ok (.getfield idx, 3)) (h : Wk g X nL (pc + 3) loc (v :: rest) w) : Wk g X nL pc loc (.ref (g_a g o) :: rest) w := by
  obtain ⟨p, l, e, R, s, m, args, below, meth, c, Q, cells, slots⟩ := X
  obtain ⟨hx, hb, hml, hown, hts, hK, hg, hbs, hfr, hlo⟩ := C
  exact fun H locs ls hP hS hl => va_getN hx hb hts hin hown hK hP o (by rw [wl_at ho, he]) hc k hk (hts _ hlink) (fun x hx1 => by rw [hdecl] at hx1; exact hx1) hv hd (h H locs ls hP hS hl)

theorem k_putN (C : Cx g X cc nL own lvl) {idx o ci k N : Nat} {Cn : String} {T : u_T} {fs : List Value} {v : Value} {host : String} {w' : WD} {ty : FieldType} (hlink : Cond.fieldLinkNest own idx Cn (T k).2.1 (T k).2.2.1 host ∈ TW) (hdecl : (T k).1 = Cn) (hin : ∀ q ∈ u_ws Cn T N, q ∈ TW) (ty0 : Nat → FieldType) (hty : ∀ k, k < N → parseFieldDescriptor (T k).2.2.1 = some (ty0 k)) (hnm : ∀ a, a < N → ∀ b, b < N → a ≠ b → (T a).2.1 ≠ (T b).2.1) (hc : vcls[ci]? = some (Cn, T, N)) (hk : k < N) (hfin : (T k).2.2.2 = false) (ht : parseFieldDescriptor (T k).2.2.1 = some ty) (hn : narrow ty v = v) (hfit : fits ty v = true) (hlen : k < fs.length) (ho : o < 105) (he : shW g w o = .inr (ci, fs)) (hw : shW g w' o = .inr (ci, fs.set k v)) (hoth : ∀ j, j ≠ o → shW g w' j = shW g w j) (hd : decode cc pc = .ok (.putfield idx, 3)) (h : Wk g X nL (pc + 3) loc rest w') : Wk g X nL pc loc (v :: .ref (g_a g o) :: rest) w := by
  obtain ⟨p, l, e, R, s, m, args, below, meth, c, Q, cells, slots⟩ := X
  obtain ⟨hx, hb, hml, hown, hts, hK, hg, hbs, hfr, hlo⟩ := C
  refine fun H locs ls hP hS hl => va_putN hx hb hts hin ty0 hty hnm hown hK hP (hg.d w) hS o (by rw [wl_at ho, he]) hc k hk (hts _ hlink) (fun x hx1 => by rw [hdecl] at hx1; exact hx1) hfin ht hn hfit hlen hd (fun H1 locs1 hP1 hD1 hS1 => ?_)
  rw [wl_set ho hw hoth] at hP1
  exact h H1 locs1 ls hP1 hS1 hl

theorem k_iald (C : Cx g X cc nL own lvl) {o n : Nat} {f : Nat → Int32} {i : Int32} (ho : o < 105) (he : shW g w o = .inl (g_c g 0, n, .inl f)) (hi : vp_in i n) (hd : decode cc pc = .ok (.iaload, 1)) (h : Wk g X nL (pc + 1) loc (.int (f i.toNatClampNeg) :: rest) w) : Wk g X nL pc loc (.int i :: .ref (g_a g o) :: rest) w := by
  obtain ⟨p, l, e, R, s, m, args, below, meth, c, Q, cells, slots⟩ := X
  obtain ⟨hx, hb, hml, hown, hts, hK, hg, hbs, hfr, hlo⟩ := C
  exact fun H locs ls hP hS hl => va_iald hx hb hK hP o 0 (by rw [wl_at ho, he]) rfl hi hd (h H locs ls hP hS hl)

theorem k_lald (C : Cx g X cc nL own lvl) {o n : Nat} {f : Nat → Int64} {i : Int32} (ho : o < 105) (he : shW g w o = .inl (g_c g 1, n, .inr (.inl f))) (hi : vp_in i n) (hd : decode cc pc = .ok (.laload, 1)) (h : Wk g X nL (pc + 1) loc (.long (f i.toNatClampNeg) :: rest) w) : Wk g X nL pc loc (.int i :: .ref (g_a g o) :: rest) w := by
  obtain ⟨p, l, e, R, s, m, args, below, meth, c, Q, cells, slots⟩ := X
  obtain ⟨hx, hb, hml, hown, hts, hK, hg, hbs, hfr, hlo⟩ := C
  exact fun H locs ls hP hS hl => va_lald hx hb hK hP o 1 (by rw [wl_at ho, he]) rfl hi hd (h H locs ls hP hS hl)

theorem k_iast (C : Cx g X cc nL own lvl) {o n : Nat} {f : Nat → Int32} {i : Int32} {x : Int32} {w' : WD} (ho : o < 105) (he : shW g w o = .inl (g_c g 0, n, .inl f)) (hi : vp_in i n) (hw : shW g w' o = .inl (g_c g 0, n, .inl (upd f i.toNatClampNeg x))) (hoth : ∀ j, j ≠ o → shW g w' j = shW g w j) (hd : decode cc pc = .ok (.iastore, 1)) (h : Wk g X nL (pc + 1) loc rest w') : Wk g X nL pc loc (.int x :: .int i :: .ref (g_a g o) :: rest) w := by
  obtain ⟨p, l, e, R, s, m, args, below, meth, c, Q, cells, slots⟩ := X
  obtain ⟨hx, hb, hml, hown, hts, hK, hg, hbs, hfr, hlo⟩ := C
  refine fun H locs ls hP hS hl => va_iast hx hb hK hP (hg.d w) hS o 0 (by rw [wl_at ho, he]) rfl hi hd (fun H1 locs1 hP1 hD1 hS1 => ?_)
  rw [wl_set ho hw hoth] at hP1
  exact h H1 locs1 ls hP1 hS1 hl

theorem k_last (C : Cx g X cc nL own lvl) {o n : Nat} {f : Nat → Int64} {i : Int32} {x : Int64} {w' : WD} (ho : o < 105) (he : shW g w o = .inl (g_c g 1, n, .inr (.inl f))) (hi : vp_in i n) (hw : shW g w' o = .inl (g_c g 1, n, .inr (.inl (vp_updL f i.toNatClampNeg x)))) (hoth : ∀ j, j ≠ o → shW g w' j = shW g w j) (hd : decode cc pc = .ok (.lastore, 1)) (h : Wk g X nL (pc + 1) loc rest w') : Wk g X nL pc loc (.long x :: .int i :: .ref (g_a g o) :: rest) w := by
  obtain ⟨p, l, e, R, s, m, args, below, meth, c, Q, cells, slots⟩ := X
  obtain ⟨hx, hb, hml, hown, hts, hK, hg, hbs, hfr, hlo⟩ := C
  refine fun H locs ls hP hS hl => va_last hx hb hK hP (hg.d w) hS o 1 (by rw [wl_at ho, he]) rfl hi hd (fun H1 locs1 hP1 hD1 hS1 => ?_)
  rw [wl_set ho hw hoth] at hP1
  exact h H1 locs1 ls hP1 hS1 hl

theorem k_aald (C : Cx g X cc nL own lvl) {o n : Nat} {f : Nat → Nat} {i : Int32} {cA : ClassId} {Cn : String} (t0 : Nat) (ht0 : (gtys g)[t0]? = some (cA, .object Cn)) (ho : o < 105) (he : shW g w o = .inl (cA, n, rfs f)) (hi : vp_in i n) (hd : decode cc pc = .ok (.aaload, 1)) (h : Wk g X nL (pc + 1) loc (.ref (f i.toNatClampNeg) :: rest) w) : Wk g X nL pc loc (.int i :: .ref (g_a g o) :: rest) w := by
  obtain ⟨p, l, e, R, s, m, args, below, meth, c, Q, cells, slots⟩ := X
  obtain ⟨hx, hb, hml, hown, hts, hK, hg, hbs, hfr, hlo⟩ := C
  exact fun H locs ls hP hS hl => va_aldq (f := fun i => some (f i)) hx hb hK hP o t0 (by rw [wl_at ho, he]) ht0 hi hd (h H locs ls hP hS hl)

theorem k_mabs (C : Cx g X cc nL own lvl) {idx : Nat} {x : Int32} (hlink : Cond.methodLink own idx Lib.Math.abs.name ∈ TW) (hstat : Cond.static Lib.Math.abs.name ∈ TW) (hini : Cond.initialized "java/lang/Math" ∈ TW) (hcode : Cond.code Lib.Math.abs.name Lib.Math.abs.code 1 (some .int) ∈ TW) (hlv : Nat.ble 1 lvl = true) (hcs : Nat.ble (rest.map fun v => v.category).sum 20 = true) (hcell : X.2.2.2.2.2.2.2.2.2.2.2.1 ≤ X.2.2.2.1.cells ∧ X.2.2.2.2.2.2.2.2.2.2.2.2 ≤ X.2.2.2.1.slots) (hd : decode cc pc = .ok (.invokestatic idx, 3)) (h : Wk g X nL (pc + 3) loc (.int (x_abs x) :: rest) w) : Wk g X nL pc loc (.int x :: rest) w := by
  obtain ⟨p, l, e, R, s, m, args, below, meth, c, Q, cells, slots⟩ := X
  obtain ⟨hx, hb, hml, hown, hts, hK, hg, hbs, hfr, hlo⟩ := C
  exact fun H locs ls hP hS hl => va_mabs hx hb (hml.trans hl.1.symm) hown (hts _ hlink) (hts _ hstat) (hts _ hini) (hts _ hcode) (Nat.le_trans (Nat.le_of_ble_eq_true hlv) hfr) (by have h1 := Nat.le_of_ble_eq_true hlv; have h2 := Nat.le_of_ble_eq_true hcs; omega) hcell.1 hcell.2 hd (h H locs ls hP hS hl)

theorem k_mmin (C : Cx g X cc nL own lvl) {idx : Nat} {x y : Int32} (hlink : Cond.methodLink own idx Lib.Math.min.name ∈ TW) (hstat : Cond.static Lib.Math.min.name ∈ TW) (hini : Cond.initialized "java/lang/Math" ∈ TW) (hcode : Cond.code Lib.Math.min.name Lib.Math.min.code 2 (some .int) ∈ TW) (hlv : Nat.ble 1 lvl = true) (hcs : Nat.ble (rest.map fun v => v.category).sum 20 = true) (hcell : X.2.2.2.2.2.2.2.2.2.2.2.1 ≤ X.2.2.2.1.cells ∧ X.2.2.2.2.2.2.2.2.2.2.2.2 ≤ X.2.2.2.1.slots) (hd : decode cc pc = .ok (.invokestatic idx, 3)) (h : Wk g X nL (pc + 3) loc (.int (x_min x y) :: rest) w) : Wk g X nL pc loc (.int y :: .int x :: rest) w := by
  obtain ⟨p, l, e, R, s, m, args, below, meth, c, Q, cells, slots⟩ := X
  obtain ⟨hx, hb, hml, hown, hts, hK, hg, hbs, hfr, hlo⟩ := C
  exact fun H locs ls hP hS hl => va_mmin hx hb (hml.trans hl.1.symm) hown (hts _ hlink) (hts _ hstat) (hts _ hini) (hts _ hcode) (Nat.le_trans (Nat.le_of_ble_eq_true hlv) hfr) (by have h1 := Nat.le_of_ble_eq_true hlv; have h2 := Nat.le_of_ble_eq_true hcs; omega) hcell.1 hcell.2 hd (h H locs ls hP hS hl)

theorem k_mmax (C : Cx g X cc nL own lvl) {idx : Nat} {x y : Int32} (hlink : Cond.methodLink own idx Lib.Math.max.name ∈ TW) (hstat : Cond.static Lib.Math.max.name ∈ TW) (hini : Cond.initialized "java/lang/Math" ∈ TW) (hcode : Cond.code Lib.Math.max.name Lib.Math.max.code 2 (some .int) ∈ TW) (hlv : Nat.ble 1 lvl = true) (hcs : Nat.ble (rest.map fun v => v.category).sum 20 = true) (hcell : X.2.2.2.2.2.2.2.2.2.2.2.1 ≤ X.2.2.2.1.cells ∧ X.2.2.2.2.2.2.2.2.2.2.2.2 ≤ X.2.2.2.1.slots) (hd : decode cc pc = .ok (.invokestatic idx, 3)) (h : Wk g X nL (pc + 3) loc (.int (x_max x y) :: rest) w) : Wk g X nL pc loc (.int y :: .int x :: rest) w := by
  obtain ⟨p, l, e, R, s, m, args, below, meth, c, Q, cells, slots⟩ := X
  obtain ⟨hx, hb, hml, hown, hts, hK, hg, hbs, hfr, hlo⟩ := C
  exact fun H locs ls hP hS hl => va_mmax hx hb (hml.trans hl.1.symm) hown (hts _ hlink) (hts _ hstat) (hts _ hini) (hts _ hcode) (Nat.le_trans (Nat.le_of_ble_eq_true hlv) hfr) (by have h1 := Nat.le_of_ble_eq_true hlv; have h2 := Nat.le_of_ble_eq_true hcs; omega) hcell.1 hcell.2 hd (h H locs ls hP hS hl)

end MR

/-- where a walk goes: this answer, this world -/
def RtI (g : GC) (X : MX) (ret : Option FieldType) (r : Int32) (w : WD) : Prop := match X with
  | (_, _, _, R, s, _, args, below, meth, _, Q, cells, slots) => Q = MQ below (va_Qi (fun (r2 : Int32) (_ : Unit) => r2 = r) (fun _ t => Wat g w t) (AB g)) args s cells slots (AB g) ∧ meth.sig.returnType = ret ∧ meth.locks = false ∧ cells ≤ R.cells ∧ slots ≤ R.slots
def RtL (g : GC) (X : MX) (ret : Option FieldType) (r : Int64) (w : WD) : Prop := match X with
  | (_, _, _, R, s, _, args, below, meth, _, Q, cells, slots) => Q = MQ below (va_Ql (fun (r2 : Int64) (_ : Unit) => r2 = r) (fun _ t => Wat g w t) (AB g)) args s cells slots (AB g) ∧ meth.sig.returnType = ret ∧ meth.locks = false ∧ cells ≤ R.cells ∧ slots ≤ R.slots
def RtV (g : GC) (X : MX) (ret : Option FieldType) (w : WD) : Prop := match X with
  | (_, _, _, R, s, _, args, below, meth, _, Q, cells, slots) => Q = MQ below (va_Qv (fun (_ : Unit) => True) (fun _ t => Wat g w t) (AB g)) args s cells slots (AB g) ∧ meth.sig.returnType = ret ∧ meth.locks = false ∧ cells ≤ R.cells ∧ slots ≤ R.slots
section RT
variable {g : GC} {X : MX} {cc : ByteArray} {nL : Nat} {own : String} {lvl : Nat} {pc : Nat} {loc : List (Nat × Value)} {rest : List Value} {w : WD}

theorem k_iret (C : Cx g X cc nL own lvl) {r : Int32} (q : RtI g X (some .int) r w) (hd : decode cc pc = .ok (.ireturn, 1)) : Wk g X nL pc loc [.int r] w := by
  obtain ⟨p, l, e, R, s, m, args, below, meth, c, Q, cells, slots⟩ := X
  obtain ⟨hx, hb, hml, hown, hts, hK, hg, hbs, hfr, hlo⟩ := C
  obtain ⟨rfl, hr, hlk, hce, hsl⟩ := q
  exact fun H locs ls hP hS hl => W.iret hx hb hr (fun t ht hW => ⟨⟨r, (), rfl, rfl, ⟨by rw [ht]; exact hP, va_K.moved hW.alike hK, by rw [ht]; exact Nat.le_trans hbs hS.1⟩⟩, hS.F ht⟩) hS.2.2 hd hlk

theorem k_zret (C : Cx g X cc nL own lvl) {r : Int32} (q : RtI g X (some .boolean) r w) (hz : r = 0 ∨ r = 1) (hd : decode cc pc = .ok (.ireturn, 1)) : Wk g X nL pc loc [.int r] w := by
  obtain ⟨p, l, e, R, s, m, args, below, meth, c, Q, cells, slots⟩ := X
  obtain ⟨hx, hb, hml, hown, hts, hK, hg, hbs, hfr, hlo⟩ := C
  obtain ⟨rfl, hr, hlk, hce, hsl⟩ := q
  exact fun H locs ls hP hS hl => W.zret hx hb hr (by rcases hz with rfl | rfl <;> rfl) (fun t ht hW => ⟨⟨r, (), rfl, rfl, ⟨by rw [ht]; exact hP, va_K.moved hW.alike hK, by rw [ht]; exact Nat.le_trans hbs hS.1⟩⟩, hS.F ht⟩) hS.2.2 hd hlk

theorem k_lret (C : Cx g X cc nL own lvl) {r : Int64} (q : RtL g X (some .long) r w) (hd : decode cc pc = .ok (.lreturn, 1)) : Wk g X nL pc loc [.long r] w := by
  obtain ⟨p, l, e, R, s, m, args, below, meth, c, Q, cells, slots⟩ := X
  obtain ⟨hx, hb, hml, hown, hts, hK, hg, hbs, hfr, hlo⟩ := C
  obtain ⟨rfl, hr, hlk, hce, hsl⟩ := q
  exact fun H locs ls hP hS hl => W.lret hx hb hr (fun t ht hW => ⟨⟨r, (), rfl, rfl, ⟨by rw [ht]; exact hP, va_K.moved hW.alike hK, by rw [ht]; exact Nat.le_trans hbs hS.1⟩⟩, hS.F ht⟩) hS.2.2 hd hlk

theorem k_vret (C : Cx g X cc nL own lvl) (q : RtV g X none w) (hd : decode cc pc = .ok (.return_, 1)) : Wk g X nL pc loc [] w := by
  obtain ⟨p, l, e, R, s, m, args, below, meth, c, Q, cells, slots⟩ := X
  obtain ⟨hx, hb, hml, hown, hts, hK, hg, hbs, hfr, hlo⟩ := C
  obtain ⟨rfl, hr, hlk, hce, hsl⟩ := q
  exact fun H locs ls hP hS hl => W.vret hx hb hr (fun t ht hW => ⟨⟨(), rfl, trivial, ⟨by rw [ht]; exact hP, va_K.moved hW.alike hK, by rw [ht]; exact Nat.le_trans hbs hS.1⟩⟩, hS.F ht⟩) hS.2.2 hd hlk

theorem rtI_c {ret : Option FieldType} {r : Int32} (q : RtI g X ret r w) : X.2.2.2.2.2.2.2.2.2.2.2.1 ≤ X.2.2.2.1.cells ∧ X.2.2.2.2.2.2.2.2.2.2.2.2 ≤ X.2.2.2.1.slots := by
  obtain ⟨p, l, e, R, s, m, args, below, meth, c, Q, cells, slots⟩ := X
  exact q.2.2.2
theorem rtL_c {ret : Option FieldType} {r : Int64} (q : RtL g X ret r w) : X.2.2.2.2.2.2.2.2.2.2.2.1 ≤ X.2.2.2.1.cells ∧ X.2.2.2.2.2.2.2.2.2.2.2.2 ≤ X.2.2.2.1.slots := by
  obtain ⟨p, l, e, R, s, m, args, below, meth, c, Q, cells, slots⟩ := X
  exact q.2.2.2
theorem rtV_c {ret : Option FieldType} (q : RtV g X ret w) : X.2.2.2.2.2.2.2.2.2.2.2.1 ≤ X.2.2.2.1.cells ∧ X.2.2.2.2.2.2.2.2.2.2.2.2 ≤ X.2.2.2.1.slots := by
  obtain ⟨p, l, e, R, s, m, args, below, meth, c, Q, cells, slots⟩ := X
  exact q.2.2.2
end RT
section ME
variable {g : GC} {l : Launch} {y : MethodName} {cc : ByteArray} {nL : Nat} {ret : Option FieldType} {lvl : Nat} {av : List Value} {w w' : WD}

theorem m_i (hg : gOk g) {r : Int32} (hy : plainName y.cls = true) (hn : Nat.ble (lg_sl av).length nL = true) (body : ∀ (X : MX), RtI g X ret r w' → Cx g X cc nL y.cls lvl → Wk g X nL 0 (lv_args 0 av) [] w) : Mi g l y cc nL ret lvl av w r w' := by
  refine m_entry hg hy (Nat.le_of_ble_eq_true hn) fun X h1 h2 h3 h4 C => ?_
  obtain ⟨p, l, e, R, s, m, args, below, meth, c, Q, cells, slots⟩ := X
  cases h4
  exact body _ ⟨h1, h2, h3, Nat.zero_le _, Nat.zero_le _⟩ C

theorem m_l (hg : gOk g) {r : Int64} (hy : plainName y.cls = true) (hn : Nat.ble (lg_sl av).length nL = true) (body : ∀ (X : MX), RtL g X ret r w' → Cx g X cc nL y.cls lvl → Wk g X nL 0 (lv_args 0 av) [] w) : Ml g l y cc nL ret lvl av w r w' := by
  refine m_entry hg hy (Nat.le_of_ble_eq_true hn) fun X h1 h2 h3 h4 C => ?_
  obtain ⟨p, l, e, R, s, m, args, below, meth, c, Q, cells, slots⟩ := X
  cases h4
  exact body _ ⟨h1, h2, h3, Nat.zero_le _, Nat.zero_le _⟩ C

theorem m_v (hg : gOk g) (hy : plainName y.cls = true) (hn : Nat.ble (lg_sl av).length nL = true) (body : ∀ (X : MX), RtV g X ret w' → Cx g X cc nL y.cls lvl → Wk g X nL 0 (lv_args 0 av) [] w) : Mv g l y cc nL ret lvl av w w' := by
  refine m_entry hg hy (Nat.le_of_ble_eq_true hn) fun X h1 h2 h3 h4 C => ?_
  obtain ⟨p, l, e, R, s, m, args, below, meth, c, Q, cells, slots⟩ := X
  cases h4
  exact body _ ⟨h1, h2, h3, Nat.zero_le _, Nat.zero_le _⟩ C

end ME

section CL
/-- what a call's tables say: providers of the kit's call words -/
def LkS (own : String) (idx : Nat) (y : MethodName) (cc : ByteArray) (nL : Nat) (ret : Option FieldType) (n : Nat) : Prop := ∀ (R : Room) (s : State) (args : Array Value) (lv : Nat), (∀ w ∈ TW, w.before args s = true) → (rmd lv).frames + 1 ≤ R.frames ∧ 8 + (nL + 11) + (rmd lv).locals ≤ R.locals → CallB R s args own idx y cc nL ret (.code y cc nL ret :: TW) (rmd lv) 0 0 n ∧ (Cond.static y).before args s = true
def LkT (own : String) (idx : Nat) (y : MethodName) (host : String) (cc : ByteArray) (nL : Nat) (ret : Option FieldType) (n : Nat) : Prop := ∀ (R : Room) (s : State) (args : Array Value) (lv : Nat), (∀ w ∈ TW, w.before args s = true) → (rmd lv).frames + 1 ≤ R.frames ∧ 8 + (nL + 11) + (rmd lv).locals ≤ R.locals → va_CN R s args own idx y host cc nL ret (.code y cc nL ret :: TW) (rmd lv) 0 0 n ∧ (Cond.static y).before args s = true ∧ True
def LkV (own C : String) (idx : Nat) (y : MethodName) (cc : ByteArray) (nL : Nat) (ret : Option FieldType) (n : Nat) : Prop := ∀ (R : Room) (s : State) (args : Array Value) (lv : Nat), (∀ w ∈ TW, w.before args s = true) → (rmd lv).frames + 1 ≤ R.frames ∧ 8 + (nL + 11) + (rmd lv).locals ≤ R.locals → CallW R s args own C idx y cc nL ret (.code y cc nL ret :: TW) (rmd lv) 0 0 n
def LkU (own C owner : String) (idx : Nat) (x y : MethodName) (cc : ByteArray) (nL : Nat) (ret : Option FieldType) (n : Nat) : Prop := ∀ (R : Room) (s : State) (args : Array Value) (lv : Nat), (∀ w ∈ TW, w.before args s = true) → (rmd lv).frames + 1 ≤ R.frames ∧ 8 + (nL + 11) + (rmd lv).locals ≤ R.locals → va_CU R s args own C owner idx x y cc nL ret (.code y cc nL ret :: TW) (rmd lv) 0 0 n
def LkP (own : String) (idx : Nat) (y : MethodName) (cc : ByteArray) (nL : Nat) (ret : Option FieldType) (n : Nat) : Prop := ∀ (R : Room) (s : State) (args : Array Value) (lv : Nat), (∀ w ∈ TW, w.before args s = true) → (rmd lv).frames + 1 ≤ R.frames ∧ 8 + (nL + 11) + (rmd lv).locals ≤ R.locals → va_CS R s args own idx y cc nL ret (.code y cc nL ret :: TW) (rmd lv) 0 0 n
theorem tw_gi {b : Cond} {ex : List Cond} (hb : b ∈ TW) (he : ∀ w ∈ ex, w ∈ TW) : GoodIn TW (ex ++ b :: TW) := tw_in0 hb he
theorem lkS {own : String} {idx : Nat} {y : MethodName} {cc : ByteArray} {nL : Nat} {ret : Option FieldType} (n : Nat) (h1 : Cond.methodLink own idx y ∈ TW) (h2 : Cond.static y ∈ TW) (h3 : Cond.initialized own ∈ TW) (h4 : Cond.code y cc nL ret ∈ TW) (hd : y.cls = own ∧ y.cls ≠ "java/lang/invoke/MethodHandle" ∧ y.cls ≠ "java/lang/invoke/VarHandle" ∧ (parseMethodDescriptor y.desc).map (fun d => d.parameters.length) = some n) : LkS own idx y cc nL ret n := fun R s args lv ht hR => cwS n ht (tw_gi h4 (by simp [h1, h2, h3])) rfl rfl rfl hd hR
theorem lkT {own host : String} {idx : Nat} {y : MethodName} {cc : ByteArray} {nL : Nat} {ret : Option FieldType} (n : Nat) (h1 : Cond.methodLinkNest own idx y host ∈ TW) (h2 : Cond.static y ∈ TW) (h3 : Cond.initialized y.cls ∈ TW) (h4 : Cond.code y cc nL ret ∈ TW) (hd : y.cls ≠ "java/lang/invoke/MethodHandle" ∧ y.cls ≠ "java/lang/invoke/VarHandle" ∧ (parseMethodDescriptor y.desc).map (fun d => d.parameters.length) = some n) : LkT own idx y host cc nL ret n := fun R s args lv ht hR => ⟨va_cnB n ht (tw_gi (ex := []) h4 (by simp)) rfl rfl rfl (by have h5 := ht _ h1; unfold va_Nw; exact (Cond.onTables_vm (A := #[]) (A' := args) (U := s) (U' := s) s.vm _ rfl).trans h5) (ht _ h3) hd hR, ht _ h2, trivial⟩
theorem lkV {own C : String} {idx : Nat} {y : MethodName} {cc : ByteArray} {nL : Nat} {ret : Option FieldType} (n : Nat) (h1 : Cond.methodLink own idx y ∈ TW) (h2 : Cond.instanceMethod y ∈ TW) (h3 : Cond.selects C y y ∈ TW) (h5 : Cond.initialized C ∈ TW) (h4 : Cond.code y cc nL ret ∈ TW) (hd : y.cls = C ∧ y.cls ≠ "java/lang/invoke/MethodHandle" ∧ y.cls ≠ "java/lang/invoke/VarHandle" ∧ (parseMethodDescriptor y.desc).map (fun d => d.parameters.length) = some n) : LkV own C idx y cc nL ret n := fun R s args lv ht hR => cwV n ht (tw_gi h4 (by simp [h1, h2, h3, h5])) rfl rfl rfl hd hR
theorem lkU {own C owner : String} {idx : Nat} {x y : MethodName} {cc : ByteArray} {nL : Nat} {ret : Option FieldType} (n : Nat) (h1 : Cond.methodLink own idx x ∈ TW) (h6 : Cond.sameMethod x.cls owner x.name x.desc ∈ TW) (h3 : Cond.selects C x y ∈ TW) (h2 : Cond.instanceMethod y ∈ TW) (h5 : Cond.initialized y.cls ∈ TW) (h4 : Cond.code y cc nL ret ∈ TW) (hyx : y = ⟨owner, x.name, x.desc⟩) (hd : owner ≠ "java/lang/invoke/MethodHandle" ∧ owner ≠ "java/lang/invoke/VarHandle" ∧ (parseMethodDescriptor x.desc).map (fun d => d.parameters.length) = some n) : LkU own C owner idx x y cc nL ret n := fun R s args lv ht hR => va_cwU n ht (tw_gi h4 (by simp [h1, h2, h3, h5, h6])) rfl rfl rfl hyx hd hR
theorem lkO {own C owner : String} {idx : Nat} {x y : MethodName} {cc : ByteArray} {nL : Nat} {ret : Option FieldType} (n : Nat) (h1 : Cond.methodLink own idx x ∈ TW) (h6 : Cond.sameMethod x.cls owner x.name x.desc ∈ TW) (h7 : Cond.instanceMethod ⟨owner, x.name, x.desc⟩ ∈ TW) (h3 : Cond.selects C x y ∈ TW) (h2 : Cond.instanceMethod y ∈ TW) (h5 : Cond.initialized y.cls ∈ TW) (h4 : Cond.code y cc nL ret ∈ TW) {b0 : ByteArray} {m0 : Nat} {r0 : Option FieldType} (h0 : Cond.code ⟨owner, x.name, x.desc⟩ b0 m0 r0 ∈ TW) (hd : owner ≠ "java/lang/invoke/MethodHandle" ∧ owner ≠ "java/lang/invoke/VarHandle" ∧ (parseMethodDescriptor x.desc).map (fun d => d.parameters.length) = some n) : LkU own C owner idx x y cc nL ret n := fun R s args lv ht hR => va_cwO n ht (tw_gi h4 (by simp [h1, h2, h3, h5, h6, h7])) rfl rfl rfl h0 hd hR
theorem lkP {own : String} {idx : Nat} {y : MethodName} {cc : ByteArray} {nL : Nat} {ret : Option FieldType} (n : Nat) (h1 : Cond.methodLink own idx y ∈ TW) (h6 : Cond.sameMethod y.cls y.cls y.name y.desc ∈ TW) (h7 : Cond.superclass own y.cls ∈ TW) (h2 : Cond.instanceMethod y ∈ TW) (h5 : Cond.initialized y.cls ∈ TW) (h4 : Cond.code y cc nL ret ∈ TW) (hd : y.name ≠ "<init>" ∧ (parseMethodDescriptor y.desc).map (fun d => d.parameters.length) = some n) : LkP own idx y cc nL ret n := fun R s args lv ht hR => va_cwSU n ht (tw_gi h4 (by simp [h1, h2, h5, h6, h7])) rfl rfl rfl hd hR
variable {g : GC} {X : MX} {cc cc2 : ByteArray} {nL nL2 n idx lv2 : Nat} {own : String} {lvl : Nat} {pc : Nat} {loc : List (Nat × Value)} {rest st As : List Value} {w w' : WD} {y : MethodName} {ret2 : Option FieldType}
theorem lv_need {R : Room} (h1 : Nat.ble (lv2 + 1) lvl = true) (h2 : Nat.ble nL2 21 = true) (hfr : lvl ≤ R.frames) (hlo : 40 * lvl ≤ R.locals) : (rmd lv2).frames + 1 ≤ R.frames ∧ 8 + (nL2 + 11) + (rmd lv2).locals ≤ R.locals := by
  have a := Nat.le_of_ble_eq_true h1
  have b := Nat.le_of_ble_eq_true h2
  refine ⟨Nat.le_trans a hfr, ?_⟩
  show 8 + (nL2 + 11) + 40 * lv2 ≤ R.locals
  omega

theorem k_callSi (C : Cx g X cc nL own lvl)  {r : Int32} (lk : LkS own idx y cc2 nL2 ret2 n) (hM : ∀ l, Mi g l y cc2 nL2 ret2 lv2 (As) w r w') (hlv : Nat.ble (lv2 + 1) lvl = true) (hnl : Nat.ble nL2 21 = true) (hcell : X.2.2.2.2.2.2.2.2.2.2.2.1 ≤ X.2.2.2.1.cells ∧ X.2.2.2.2.2.2.2.2.2.2.2.2 ≤ X.2.2.2.1.slots) (hst : st = As.reverse ++ rest) (hn : As.length = n) (hcat : Nat.ble (rest.map fun v => v.category).sum 8 = true) (hd : decode cc pc = .ok (.invokestatic idx, 3)) (h : Wk g X nL (pc + 3) loc (.int r :: rest) w') : Wk g X nL pc loc st w := by
  obtain ⟨p, l, e, R, s, m, args, below, meth, c, Q, cells, slots⟩ := X
  obtain ⟨hx, hb, hml, hown, hts, hK, hg, hbs, hfr, hlo⟩ := C
  subst hst
  refine fun H locs ls hP hS hl => va_calli (va_runS (As := As) (rest := rest) ⟨hx, hb, hml, hown, hts⟩ (hM l) (lk R s args lv2 hts (lv_need hlv hnl hfr hlo)) ⟨wat_blind, fun U hU hW => ⟨rfl, by rw [hU]; exact hP, va_K.moved hW.alike hK, by rw [hU]; exact Nat.le_trans hbs hS.1⟩⟩ rfl hn hl.1 rfl (lv_room (Nat.le_of_ble_eq_true hcat)) hd hcell) hS (fun _ _ h => h) (fun _ h => h) (fun r1 _ t H1 locs1 ht hvm hw hB hz1 hk1 hS1 => ?_)
  cases hw
  obtain ⟨hB1, -, -⟩ := hB
  rw [ht] at hB1
  exact h H1 locs1 ls hB1 hS1 hl

theorem k_callTi (C : Cx g X cc nL own lvl)  {r : Int32} {host : String} (lk : LkT own idx y host cc2 nL2 ret2 n) (hM : ∀ l, Mi g l y cc2 nL2 ret2 lv2 (As) w r w') (hlv : Nat.ble (lv2 + 1) lvl = true) (hnl : Nat.ble nL2 21 = true) (hcell : X.2.2.2.2.2.2.2.2.2.2.2.1 ≤ X.2.2.2.1.cells ∧ X.2.2.2.2.2.2.2.2.2.2.2.2 ≤ X.2.2.2.1.slots) (hst : st = As.reverse ++ rest) (hn : As.length = n) (hcat : Nat.ble (rest.map fun v => v.category).sum 8 = true) (hd : decode cc pc = .ok (.invokestatic idx, 3)) (h : Wk g X nL (pc + 3) loc (.int r :: rest) w') : Wk g X nL pc loc st w := by
  obtain ⟨p, l, e, R, s, m, args, below, meth, c, Q, cells, slots⟩ := X
  obtain ⟨hx, hb, hml, hown, hts, hK, hg, hbs, hfr, hlo⟩ := C
  subst hst
  refine fun H locs ls hP hS hl => va_calli (va_runSN (As := As) (rest := rest) ⟨hx, hb, hml, hown, hts⟩ (hM l) (lk R s args lv2 hts (lv_need hlv hnl hfr hlo)) ⟨wat_blind, fun U hU hW => ⟨rfl, by rw [hU]; exact hP, va_K.moved hW.alike hK, by rw [hU]; exact Nat.le_trans hbs hS.1⟩⟩ rfl hn hl.1 rfl (lv_room (Nat.le_of_ble_eq_true hcat)) hd hcell) hS (fun _ _ h => h) (fun _ h => h) (fun r1 _ t H1 locs1 ht hvm hw hB hz1 hk1 hS1 => ?_)
  cases hw
  obtain ⟨hB1, -, -⟩ := hB
  rw [ht] at hB1
  exact h H1 locs1 ls hB1 hS1 hl

theorem k_callVi (C : Cx g X cc nL own lvl) {o ci N : Nat} {T : u_T} {fs : List Value}  {r : Int32} {Cn : String} (lk : LkV own Cn idx y cc2 nL2 ret2 n) (hM : ∀ l, Mi g l y cc2 nL2 ret2 lv2 (.ref (g_a g o) :: As) w r w') (hlv : Nat.ble (lv2 + 1) lvl = true) (hnl : Nat.ble nL2 21 = true) (hcell : X.2.2.2.2.2.2.2.2.2.2.2.1 ≤ X.2.2.2.1.cells ∧ X.2.2.2.2.2.2.2.2.2.2.2.2 ≤ X.2.2.2.1.slots) (ho : o < 105) (he : shW g w o = .inr (ci, fs)) (hc : vcls[ci]? = some (Cn, T, N)) (hst : st = As.reverse ++ .ref (g_a g o) :: rest) (hn : As.length = n) (hcat : Nat.ble (rest.map fun v => v.category).sum 8 = true) (hd : decode cc pc = .ok (.invokevirtual idx, 3)) (h : Wk g X nL (pc + 3) loc (.int r :: rest) w') : Wk g X nL pc loc st w := by
  obtain ⟨p, l, e, R, s, m, args, below, meth, c, Q, cells, slots⟩ := X
  obtain ⟨hx, hb, hml, hown, hts, hK, hg, hbs, hfr, hlo⟩ := C
  subst hst
  refine fun H locs ls hP hS hl => va_calli (va_runV (As := As) (rest := rest) ⟨hx, hb, hml, hown, hts⟩ (hM l) (lk R s args lv2 hts (lv_need hlv hnl hfr hlo)) ⟨wat_blind, va_recv (q := (Cn, T, N)) hK hP hc (q0 := o) (by rw [wl_at ho, he]), fun U hU hW => ⟨rfl, by rw [hU]; exact hP, va_K.moved hW.alike hK, by rw [hU]; exact Nat.le_trans hbs hS.1⟩⟩ rfl hn hl.1 rfl (lv_room (Nat.le_of_ble_eq_true hcat)) hd hcell) hS (fun _ _ h => h) (fun _ h => h) (fun r1 _ t H1 locs1 ht hvm hw hB hz1 hk1 hS1 => ?_)
  cases hw
  obtain ⟨hB1, -, -⟩ := hB
  rw [ht] at hB1
  exact h H1 locs1 ls hB1 hS1 hl

theorem k_callUi (C : Cx g X cc nL own lvl) {o ci N : Nat} {T : u_T} {fs : List Value}  {r : Int32} {Cn owner : String} {x : MethodName} (lk : LkU own Cn owner idx x y cc2 nL2 ret2 n) (hM : ∀ l, Mi g l y cc2 nL2 ret2 lv2 (.ref (g_a g o) :: As) w r w') (hlv : Nat.ble (lv2 + 1) lvl = true) (hnl : Nat.ble nL2 21 = true) (hcell : X.2.2.2.2.2.2.2.2.2.2.2.1 ≤ X.2.2.2.1.cells ∧ X.2.2.2.2.2.2.2.2.2.2.2.2 ≤ X.2.2.2.1.slots) (ho : o < 105) (he : shW g w o = .inr (ci, fs)) (hc : vcls[ci]? = some (Cn, T, N)) (hst : st = As.reverse ++ .ref (g_a g o) :: rest) (hn : As.length = n) (hcat : Nat.ble (rest.map fun v => v.category).sum 8 = true) (hd : decode cc pc = .ok (.invokevirtual idx, 3)) (h : Wk g X nL (pc + 3) loc (.int r :: rest) w') : Wk g X nL pc loc st w := by
  obtain ⟨p, l, e, R, s, m, args, below, meth, c, Q, cells, slots⟩ := X
  obtain ⟨hx, hb, hml, hown, hts, hK, hg, hbs, hfr, hlo⟩ := C
  subst hst
  refine fun H locs ls hP hS hl => va_calli (va_runU (As := As) (rest := rest) ⟨hx, hb, hml, hown, hts⟩ (hM l) (lk R s args lv2 hts (lv_need hlv hnl hfr hlo)) ⟨wat_blind, va_recv (q := (Cn, T, N)) hK hP hc (q0 := o) (by rw [wl_at ho, he]), fun U hU hW => ⟨rfl, by rw [hU]; exact hP, va_K.moved hW.alike hK, by rw [hU]; exact Nat.le_trans hbs hS.1⟩⟩ rfl hn hl.1 rfl (lv_room (Nat.le_of_ble_eq_true hcat)) hd hcell) hS (fun _ _ h => h) (fun _ h => h) (fun r1 _ t H1 locs1 ht hvm hw hB hz1 hk1 hS1 => ?_)
  cases hw
  obtain ⟨hB1, -, -⟩ := hB
  rw [ht] at hB1
  exact h H1 locs1 ls hB1 hS1 hl

theorem k_callPi (C : Cx g X cc nL own lvl) {o ci N : Nat} {T : u_T} {fs : List Value}  {r : Int32} {Cn : String} (lk : LkP own idx y cc2 nL2 ret2 n) (hM : ∀ l, Mi g l y cc2 nL2 ret2 lv2 (.ref (g_a g o) :: As) w r w') (hlv : Nat.ble (lv2 + 1) lvl = true) (hnl : Nat.ble nL2 21 = true) (hcell : X.2.2.2.2.2.2.2.2.2.2.2.1 ≤ X.2.2.2.1.cells ∧ X.2.2.2.2.2.2.2.2.2.2.2.2 ≤ X.2.2.2.1.slots) (ho : o < 105) (he : shW g w o = .inr (ci, fs)) (hc : vcls[ci]? = some (Cn, T, N)) (hst : st = As.reverse ++ .ref (g_a g o) :: rest) (hn : As.length = n) (hcat : Nat.ble (rest.map fun v => v.category).sum 8 = true) (hd : decode cc pc = .ok (.invokespecial idx, 3)) (h : Wk g X nL (pc + 3) loc (.int r :: rest) w') : Wk g X nL pc loc st w := by
  obtain ⟨p, l, e, R, s, m, args, below, meth, c, Q, cells, slots⟩ := X
  obtain ⟨hx, hb, hml, hown, hts, hK, hg, hbs, hfr, hlo⟩ := C
  subst hst
  refine fun H locs ls hP hS hl => va_calli (va_runSU (As := As) (rest := rest) (hK.1 ci _ hc).2 ⟨hx, hb, hml, hown, hts⟩ (hM l) (lk R s args lv2 hts (lv_need hlv hnl hfr hlo)) ⟨wat_blind, va_recv (q := (Cn, T, N)) hK hP hc (q0 := o) (by rw [wl_at ho, he]), fun U hU hW => ⟨rfl, by rw [hU]; exact hP, va_K.moved hW.alike hK, by rw [hU]; exact Nat.le_trans hbs hS.1⟩⟩ rfl hn hl.1 rfl (lv_room (Nat.le_of_ble_eq_true hcat)) hd hcell) hS (fun _ _ h => h) (fun _ h => h) (fun r1 _ t H1 locs1 ht hvm hw hB hz1 hk1 hS1 => ?_)
  cases hw
  obtain ⟨hB1, -, -⟩ := hB
  rw [ht] at hB1
  exact h H1 locs1 ls hB1 hS1 hl

theorem k_callSl (C : Cx g X cc nL own lvl)  {r : Int64} (lk : LkS own idx y cc2 nL2 ret2 n) (hM : ∀ l, Ml g l y cc2 nL2 ret2 lv2 (As) w r w') (hlv : Nat.ble (lv2 + 1) lvl = true) (hnl : Nat.ble nL2 21 = true) (hcell : X.2.2.2.2.2.2.2.2.2.2.2.1 ≤ X.2.2.2.1.cells ∧ X.2.2.2.2.2.2.2.2.2.2.2.2 ≤ X.2.2.2.1.slots) (hst : st = As.reverse ++ rest) (hn : As.length = n) (hcat : Nat.ble (rest.map fun v => v.category).sum 8 = true) (hd : decode cc pc = .ok (.invokestatic idx, 3)) (h : Wk g X nL (pc + 3) loc (.long r :: rest) w') : Wk g X nL pc loc st w := by
  obtain ⟨p, l, e, R, s, m, args, below, meth, c, Q, cells, slots⟩ := X
  obtain ⟨hx, hb, hml, hown, hts, hK, hg, hbs, hfr, hlo⟩ := C
  subst hst
  refine fun H locs ls hP hS hl => va_calll (va_runS (As := As) (rest := rest) ⟨hx, hb, hml, hown, hts⟩ (hM l) (lk R s args lv2 hts (lv_need hlv hnl hfr hlo)) ⟨wat_blind, fun U hU hW => ⟨rfl, by rw [hU]; exact hP, va_K.moved hW.alike hK, by rw [hU]; exact Nat.le_trans hbs hS.1⟩⟩ rfl hn hl.1 rfl (lv_room (Nat.le_of_ble_eq_true hcat)) hd hcell) hS (fun _ _ h => h) (fun _ h => h) (fun r1 _ t H1 locs1 ht hvm hw hB hz1 hk1 hS1 => ?_)
  cases hw
  obtain ⟨hB1, -, -⟩ := hB
  rw [ht] at hB1
  exact h H1 locs1 ls hB1 hS1 hl

theorem k_callTl (C : Cx g X cc nL own lvl)  {r : Int64} {host : String} (lk : LkT own idx y host cc2 nL2 ret2 n) (hM : ∀ l, Ml g l y cc2 nL2 ret2 lv2 (As) w r w') (hlv : Nat.ble (lv2 + 1) lvl = true) (hnl : Nat.ble nL2 21 = true) (hcell : X.2.2.2.2.2.2.2.2.2.2.2.1 ≤ X.2.2.2.1.cells ∧ X.2.2.2.2.2.2.2.2.2.2.2.2 ≤ X.2.2.2.1.slots) (hst : st = As.reverse ++ rest) (hn : As.length = n) (hcat : Nat.ble (rest.map fun v => v.category).sum 8 = true) (hd : decode cc pc = .ok (.invokestatic idx, 3)) (h : Wk g X nL (pc + 3) loc (.long r :: rest) w') : Wk g X nL pc loc st w := by
  obtain ⟨p, l, e, R, s, m, args, below, meth, c, Q, cells, slots⟩ := X
  obtain ⟨hx, hb, hml, hown, hts, hK, hg, hbs, hfr, hlo⟩ := C
  subst hst
  refine fun H locs ls hP hS hl => va_calll (va_runSN (As := As) (rest := rest) ⟨hx, hb, hml, hown, hts⟩ (hM l) (lk R s args lv2 hts (lv_need hlv hnl hfr hlo)) ⟨wat_blind, fun U hU hW => ⟨rfl, by rw [hU]; exact hP, va_K.moved hW.alike hK, by rw [hU]; exact Nat.le_trans hbs hS.1⟩⟩ rfl hn hl.1 rfl (lv_room (Nat.le_of_ble_eq_true hcat)) hd hcell) hS (fun _ _ h => h) (fun _ h => h) (fun r1 _ t H1 locs1 ht hvm hw hB hz1 hk1 hS1 => ?_)
  cases hw
  obtain ⟨hB1, -, -⟩ := hB
  rw [ht] at hB1
  exact h H1 locs1 ls hB1 hS1 hl

theorem k_callVl (C : Cx g X cc nL own lvl) {o ci N : Nat} {T : u_T} {fs : List Value}  {r : Int64} {Cn : String} (lk : LkV own Cn idx y cc2 nL2 ret2 n) (hM : ∀ l, Ml g l y cc2 nL2 ret2 lv2 (.ref (g_a g o) :: As) w r w') (hlv : Nat.ble (lv2 + 1) lvl = true) (hnl : Nat.ble nL2 21 = true) (hcell : X.2.2.2.2.2.2.2.2.2.2.2.1 ≤ X.2.2.2.1.cells ∧ X.2.2.2.2.2.2.2.2.2.2.2.2 ≤ X.2.2.2.1.slots) (ho : o < 105) (he : shW g w o = .inr (ci, fs)) (hc : vcls[ci]? = some (Cn, T, N)) (hst : st = As.reverse ++ .ref (g_a g o) :: rest) (hn : As.length = n) (hcat : Nat.ble (rest.map fun v => v.category).sum 8 = true) (hd : decode cc pc = .ok (.invokevirtual idx, 3)) (h : Wk g X nL (pc + 3) loc (.long r :: rest) w') : Wk g X nL pc loc st w := by
  obtain ⟨p, l, e, R, s, m, args, below, meth, c, Q, cells, slots⟩ := X
  obtain ⟨hx, hb, hml, hown, hts, hK, hg, hbs, hfr, hlo⟩ := C
  subst hst
  refine fun H locs ls hP hS hl => va_calll (va_runV (As := As) (rest := rest) ⟨hx, hb, hml, hown, hts⟩ (hM l) (lk R s args lv2 hts (lv_need hlv hnl hfr hlo)) ⟨wat_blind, va_recv (q := (Cn, T, N)) hK hP hc (q0 := o) (by rw [wl_at ho, he]), fun U hU hW => ⟨rfl, by rw [hU]; exact hP, va_K.moved hW.alike hK, by rw [hU]; exact Nat.le_trans hbs hS.1⟩⟩ rfl hn hl.1 rfl (lv_room (Nat.le_of_ble_eq_true hcat)) hd hcell) hS (fun _ _ h => h) (fun _ h => h) (fun r1 _ t H1 locs1 ht hvm hw hB hz1 hk1 hS1 => ?_)
  cases hw
  obtain ⟨hB1, -, -⟩ := hB
  rw [ht] at hB1
  exact h H1 locs1 ls hB1 hS1 hl

theorem k_callUl (C : Cx g X cc nL own lvl) {o ci N : Nat} {T : u_T} {fs : List Value}  {r : Int64} {Cn owner : String} {x : MethodName} (lk : LkU own Cn owner idx x y cc2 nL2 ret2 n) (hM : ∀ l, Ml g l y cc2 nL2 ret2 lv2 (.ref (g_a g o) :: As) w r w') (hlv : Nat.ble (lv2 + 1) lvl = true) (hnl : Nat.ble nL2 21 = true) (hcell : X.2.2.2.2.2.2.2.2.2.2.2.1 ≤ X.2.2.2.1.cells ∧ X.2.2.2.2.2.2.2.2.2.2.2.2 ≤ X.2.2.2.1.slots) (ho : o < 105) (he : shW g w o = .inr (ci, fs)) (hc : vcls[ci]? = some (Cn, T, N)) (hst : st = As.reverse ++ .ref (g_a g o) :: rest) (hn : As.length = n) (hcat : Nat.ble (rest.map fun v => v.category).sum 8 = true) (hd : decode cc pc = .ok (.invokevirtual idx, 3)) (h : Wk g X nL (pc + 3) loc (.long r :: rest) w') : Wk g X nL pc loc st w := by
  obtain ⟨p, l, e, R, s, m, args, below, meth, c, Q, cells, slots⟩ := X
  obtain ⟨hx, hb, hml, hown, hts, hK, hg, hbs, hfr, hlo⟩ := C
  subst hst
  refine fun H locs ls hP hS hl => va_calll (va_runU (As := As) (rest := rest) ⟨hx, hb, hml, hown, hts⟩ (hM l) (lk R s args lv2 hts (lv_need hlv hnl hfr hlo)) ⟨wat_blind, va_recv (q := (Cn, T, N)) hK hP hc (q0 := o) (by rw [wl_at ho, he]), fun U hU hW => ⟨rfl, by rw [hU]; exact hP, va_K.moved hW.alike hK, by rw [hU]; exact Nat.le_trans hbs hS.1⟩⟩ rfl hn hl.1 rfl (lv_room (Nat.le_of_ble_eq_true hcat)) hd hcell) hS (fun _ _ h => h) (fun _ h => h) (fun r1 _ t H1 locs1 ht hvm hw hB hz1 hk1 hS1 => ?_)
  cases hw
  obtain ⟨hB1, -, -⟩ := hB
  rw [ht] at hB1
  exact h H1 locs1 ls hB1 hS1 hl

theorem k_callPl (C : Cx g X cc nL own lvl) {o ci N : Nat} {T : u_T} {fs : List Value}  {r : Int64} {Cn : String} (lk : LkP own idx y cc2 nL2 ret2 n) (hM : ∀ l, Ml g l y cc2 nL2 ret2 lv2 (.ref (g_a g o) :: As) w r w') (hlv : Nat.ble (lv2 + 1) lvl = true) (hnl : Nat.ble nL2 21 = true) (hcell : X.2.2.2.2.2.2.2.2.2.2.2.1 ≤ X.2.2.2.1.cells ∧ X.2.2.2.2.2.2.2.2.2.2.2.2 ≤ X.2.2.2.1.slots) (ho : o < 105) (he : shW g w o = .inr (ci, fs)) (hc : vcls[ci]? = some (Cn, T, N)) (hst : st = As.reverse ++ .ref (g_a g o) :: rest) (hn : As.length = n) (hcat : Nat.ble (rest.map fun v => v.category).sum 8 = true) (hd : decode cc pc = .ok (.invokespecial idx, 3)) (h : Wk g X nL (pc + 3) loc (.long r :: rest) w') : Wk g X nL pc loc st w := by
  obtain ⟨p, l, e, R, s, m, args, below, meth, c, Q, cells, slots⟩ := X
  obtain ⟨hx, hb, hml, hown, hts, hK, hg, hbs, hfr, hlo⟩ := C
  subst hst
  refine fun H locs ls hP hS hl => va_calll (va_runSU (As := As) (rest := rest) (hK.1 ci _ hc).2 ⟨hx, hb, hml, hown, hts⟩ (hM l) (lk R s args lv2 hts (lv_need hlv hnl hfr hlo)) ⟨wat_blind, va_recv (q := (Cn, T, N)) hK hP hc (q0 := o) (by rw [wl_at ho, he]), fun U hU hW => ⟨rfl, by rw [hU]; exact hP, va_K.moved hW.alike hK, by rw [hU]; exact Nat.le_trans hbs hS.1⟩⟩ rfl hn hl.1 rfl (lv_room (Nat.le_of_ble_eq_true hcat)) hd hcell) hS (fun _ _ h => h) (fun _ h => h) (fun r1 _ t H1 locs1 ht hvm hw hB hz1 hk1 hS1 => ?_)
  cases hw
  obtain ⟨hB1, -, -⟩ := hB
  rw [ht] at hB1
  exact h H1 locs1 ls hB1 hS1 hl

theorem k_callSv (C : Cx g X cc nL own lvl)  (lk : LkS own idx y cc2 nL2 ret2 n) (hM : ∀ l, Mv g l y cc2 nL2 ret2 lv2 (As) w w') (hlv : Nat.ble (lv2 + 1) lvl = true) (hnl : Nat.ble nL2 21 = true) (hcell : X.2.2.2.2.2.2.2.2.2.2.2.1 ≤ X.2.2.2.1.cells ∧ X.2.2.2.2.2.2.2.2.2.2.2.2 ≤ X.2.2.2.1.slots) (hst : st = As.reverse ++ rest) (hn : As.length = n) (hcat : Nat.ble (rest.map fun v => v.category).sum 8 = true) (hd : decode cc pc = .ok (.invokestatic idx, 3)) (h : Wk g X nL (pc + 3) loc (rest) w') : Wk g X nL pc loc st w := by
  obtain ⟨p, l, e, R, s, m, args, below, meth, c, Q, cells, slots⟩ := X
  obtain ⟨hx, hb, hml, hown, hts, hK, hg, hbs, hfr, hlo⟩ := C
  subst hst
  refine fun H locs ls hP hS hl => va_callv (va_runS (As := As) (rest := rest) ⟨hx, hb, hml, hown, hts⟩ (hM l) (lk R s args lv2 hts (lv_need hlv hnl hfr hlo)) ⟨wat_blind, fun U hU hW => ⟨rfl, by rw [hU]; exact hP, va_K.moved hW.alike hK, by rw [hU]; exact Nat.le_trans hbs hS.1⟩⟩ rfl hn hl.1 rfl (lv_room (Nat.le_of_ble_eq_true hcat)) hd hcell) hS (fun _ _ h => h) (fun _ h => h) (fun _ t H1 locs1 ht hvm hw hB hz1 hk1 hS1 => ?_)
  obtain ⟨hB1, -, -⟩ := hB
  rw [ht] at hB1
  exact h H1 locs1 ls hB1 hS1 hl

theorem k_callTv (C : Cx g X cc nL own lvl)  {host : String} (lk : LkT own idx y host cc2 nL2 ret2 n) (hM : ∀ l, Mv g l y cc2 nL2 ret2 lv2 (As) w w') (hlv : Nat.ble (lv2 + 1) lvl = true) (hnl : Nat.ble nL2 21 = true) (hcell : X.2.2.2.2.2.2.2.2.2.2.2.1 ≤ X.2.2.2.1.cells ∧ X.2.2.2.2.2.2.2.2.2.2.2.2 ≤ X.2.2.2.1.slots) (hst : st = As.reverse ++ rest) (hn : As.length = n) (hcat : Nat.ble (rest.map fun v => v.category).sum 8 = true) (hd : decode cc pc = .ok (.invokestatic idx, 3)) (h : Wk g X nL (pc + 3) loc (rest) w') : Wk g X nL pc loc st w := by
  obtain ⟨p, l, e, R, s, m, args, below, meth, c, Q, cells, slots⟩ := X
  obtain ⟨hx, hb, hml, hown, hts, hK, hg, hbs, hfr, hlo⟩ := C
  subst hst
  refine fun H locs ls hP hS hl => va_callv (va_runSN (As := As) (rest := rest) ⟨hx, hb, hml, hown, hts⟩ (hM l) (lk R s args lv2 hts (lv_need hlv hnl hfr hlo)) ⟨wat_blind, fun U hU hW => ⟨rfl, by rw [hU]; exact hP, va_K.moved hW.alike hK, by rw [hU]; exact Nat.le_trans hbs hS.1⟩⟩ rfl hn hl.1 rfl (lv_room (Nat.le_of_ble_eq_true hcat)) hd hcell) hS (fun _ _ h => h) (fun _ h => h) (fun _ t H1 locs1 ht hvm hw hB hz1 hk1 hS1 => ?_)
  obtain ⟨hB1, -, -⟩ := hB
  rw [ht] at hB1
  exact h H1 locs1 ls hB1 hS1 hl

theorem k_callVv (C : Cx g X cc nL own lvl) {o ci N : Nat} {T : u_T} {fs : List Value}  {Cn : String} (lk : LkV own Cn idx y cc2 nL2 ret2 n) (hM : ∀ l, Mv g l y cc2 nL2 ret2 lv2 (.ref (g_a g o) :: As) w w') (hlv : Nat.ble (lv2 + 1) lvl = true) (hnl : Nat.ble nL2 21 = true) (hcell : X.2.2.2.2.2.2.2.2.2.2.2.1 ≤ X.2.2.2.1.cells ∧ X.2.2.2.2.2.2.2.2.2.2.2.2 ≤ X.2.2.2.1.slots) (ho : o < 105) (he : shW g w o = .inr (ci, fs)) (hc : vcls[ci]? = some (Cn, T, N)) (hst : st = As.reverse ++ .ref (g_a g o) :: rest) (hn : As.length = n) (hcat : Nat.ble (rest.map fun v => v.category).sum 8 = true) (hd : decode cc pc = .ok (.invokevirtual idx, 3)) (h : Wk g X nL (pc + 3) loc (rest) w') : Wk g X nL pc loc st w := by
  obtain ⟨p, l, e, R, s, m, args, below, meth, c, Q, cells, slots⟩ := X
  obtain ⟨hx, hb, hml, hown, hts, hK, hg, hbs, hfr, hlo⟩ := C
  subst hst
  refine fun H locs ls hP hS hl => va_callv (va_runV (As := As) (rest := rest) ⟨hx, hb, hml, hown, hts⟩ (hM l) (lk R s args lv2 hts (lv_need hlv hnl hfr hlo)) ⟨wat_blind, va_recv (q := (Cn, T, N)) hK hP hc (q0 := o) (by rw [wl_at ho, he]), fun U hU hW => ⟨rfl, by rw [hU]; exact hP, va_K.moved hW.alike hK, by rw [hU]; exact Nat.le_trans hbs hS.1⟩⟩ rfl hn hl.1 rfl (lv_room (Nat.le_of_ble_eq_true hcat)) hd hcell) hS (fun _ _ h => h) (fun _ h => h) (fun _ t H1 locs1 ht hvm hw hB hz1 hk1 hS1 => ?_)
  obtain ⟨hB1, -, -⟩ := hB
  rw [ht] at hB1
  exact h H1 locs1 ls hB1 hS1 hl

theorem k_callUv (C : Cx g X cc nL own lvl) {o ci N : Nat} {T : u_T} {fs : List Value}  {Cn owner : String} {x : MethodName} (lk : LkU own Cn owner idx x y cc2 nL2 ret2 n) (hM : ∀ l, Mv g l y cc2 nL2 ret2 lv2 (.ref (g_a g o) :: As) w w') (hlv : Nat.ble (lv2 + 1) lvl = true) (hnl : Nat.ble nL2 21 = true) (hcell : X.2.2.2.2.2.2.2.2.2.2.2.1 ≤ X.2.2.2.1.cells ∧ X.2.2.2.2.2.2.2.2.2.2.2.2 ≤ X.2.2.2.1.slots) (ho : o < 105) (he : shW g w o = .inr (ci, fs)) (hc : vcls[ci]? = some (Cn, T, N)) (hst : st = As.reverse ++ .ref (g_a g o) :: rest) (hn : As.length = n) (hcat : Nat.ble (rest.map fun v => v.category).sum 8 = true) (hd : decode cc pc = .ok (.invokevirtual idx, 3)) (h : Wk g X nL (pc + 3) loc (rest) w') : Wk g X nL pc loc st w := by
  obtain ⟨p, l, e, R, s, m, args, below, meth, c, Q, cells, slots⟩ := X
  obtain ⟨hx, hb, hml, hown, hts, hK, hg, hbs, hfr, hlo⟩ := C
  subst hst
  refine fun H locs ls hP hS hl => va_callv (va_runU (As := As) (rest := rest) ⟨hx, hb, hml, hown, hts⟩ (hM l) (lk R s args lv2 hts (lv_need hlv hnl hfr hlo)) ⟨wat_blind, va_recv (q := (Cn, T, N)) hK hP hc (q0 := o) (by rw [wl_at ho, he]), fun U hU hW => ⟨rfl, by rw [hU]; exact hP, va_K.moved hW.alike hK, by rw [hU]; exact Nat.le_trans hbs hS.1⟩⟩ rfl hn hl.1 rfl (lv_room (Nat.le_of_ble_eq_true hcat)) hd hcell) hS (fun _ _ h => h) (fun _ h => h) (fun _ t H1 locs1 ht hvm hw hB hz1 hk1 hS1 => ?_)
  obtain ⟨hB1, -, -⟩ := hB
  rw [ht] at hB1
  exact h H1 locs1 ls hB1 hS1 hl

theorem k_callPv (C : Cx g X cc nL own lvl) {o ci N : Nat} {T : u_T} {fs : List Value}  {Cn : String} (lk : LkP own idx y cc2 nL2 ret2 n) (hM : ∀ l, Mv g l y cc2 nL2 ret2 lv2 (.ref (g_a g o) :: As) w w') (hlv : Nat.ble (lv2 + 1) lvl = true) (hnl : Nat.ble nL2 21 = true) (hcell : X.2.2.2.2.2.2.2.2.2.2.2.1 ≤ X.2.2.2.1.cells ∧ X.2.2.2.2.2.2.2.2.2.2.2.2 ≤ X.2.2.2.1.slots) (ho : o < 105) (he : shW g w o = .inr (ci, fs)) (hc : vcls[ci]? = some (Cn, T, N)) (hst : st = As.reverse ++ .ref (g_a g o) :: rest) (hn : As.length = n) (hcat : Nat.ble (rest.map fun v => v.category).sum 8 = true) (hd : decode cc pc = .ok (.invokespecial idx, 3)) (h : Wk g X nL (pc + 3) loc (rest) w') : Wk g X nL pc loc st w := by
  obtain ⟨p, l, e, R, s, m, args, below, meth, c, Q, cells, slots⟩ := X
  obtain ⟨hx, hb, hml, hown, hts, hK, hg, hbs, hfr, hlo⟩ := C
  subst hst
  refine fun H locs ls hP hS hl => va_callv (va_runSU (As := As) (rest := rest) (hK.1 ci _ hc).2 ⟨hx, hb, hml, hown, hts⟩ (hM l) (lk R s args lv2 hts (lv_need hlv hnl hfr hlo)) ⟨wat_blind, va_recv (q := (Cn, T, N)) hK hP hc (q0 := o) (by rw [wl_at ho, he]), fun U hU hW => ⟨rfl, by rw [hU]; exact hP, va_K.moved hW.alike hK, by rw [hU]; exact Nat.le_trans hbs hS.1⟩⟩ rfl hn hl.1 rfl (lv_room (Nat.le_of_ble_eq_true hcat)) hd hcell) hS (fun _ _ h => h) (fun _ h => h) (fun _ t H1 locs1 ht hvm hw hB hz1 hk1 hS1 => ?_)
  obtain ⟨hB1, -, -⟩ := hB
  rw [ht] at hB1
  exact h H1 locs1 ls hB1 hS1 hl

end CL
end
section
/-! What the world's list holds at each place; what a store does; loads and stores of this world. -/
def lt {α β : Type} (a : α) (k : α → β) : β := k a
theorem lt_some {α β : Type} {a : α} {k : α → Option β} {r : β} (h : lt a k = some r) : ∃ b, b = a ∧ k b = some r := ⟨a, rfl, h⟩
def fu : Nat := 1000
theorem nble {a b : Nat} (h : a ≤ b) : Nat.ble a b = true := Nat.ble_eq.mpr h
/-- a horse of the land o, a land in mind, a shelf: by their numbers -/
def sid (o : Nat) (i : Int32) : Nat := 22 + 7 * (o - 10) + i.toNatClampNeg
def lid (i : Int32) : Nat := 12 + i.toNatClampNeg
def hid (i : Int32) : Nat := 67 + i.toNatClampNeg
theorem sid_ok {o : Nat} {i : Int32} (h : 10 ≤ o ∧ o < 16) (hi : vp_in i 7) : 22 ≤ sid o i ∧ sid o i < 65 := by
  have := vin_lt hi
  unfold sid; omega
theorem lid_ok {i : Int32} (hi : vp_in i 4) : 10 ≤ lid i ∧ lid i < 16 := by
  have := vin_lt hi
  unfold lid; omega
theorem hid_ok {i : Int32} (hi : vp_in i 8) : 67 ≤ hid i ∧ hid i < 75 := by
  have := vin_lt hi
  unfold hid; omega
theorem lt105 {a b o : Nat} (h : a ≤ o ∧ o < b) (hb : Nat.ble b 105 = true) : o < 105 := Nat.lt_of_lt_of_le h.2 (Nat.le_of_ble_eq_true hb)
abbrev ZD : Type := MD × (Nat → Int64)
section SH
variable {g : GC} {x xx : XD} {z : ZD} {m : MD} {oo : Nat → Int64} {o : Nat}
theorem sh_Hb : shW g (x, z) 0 = .inr (11, [.ref (g_a g 1), .ref (g_a g 10), .ref (g_a g 11), .ref (g_a g 65), .ref (g_a g 64), .ref (g_a g 66), .int (x 0 6)]) := rfl
theorem sh_ka : shW g (x, z) 1 = .inl (g_c g 2, 8, rfs fun i => g_a g (2 + i)) := rfl
theorem sh_Ko (h : 2 ≤ o ∧ o < 10) : shW g (x, z) o = .inr (o - 2, []) := by
  obtain ⟨h1, h2⟩ := h
  unfold shW shX
  rw [if_pos (by omega), if_neg (by omega), if_neg (by omega), if_pos (by omega)]
theorem sh_La (h : 10 ≤ o ∧ o < 16) : shW g (x, z) o = .inr (9, [.ref (g_a g 1), .ref (g_a g (o + 6)), .int (x o 2), .int (x o 3), .int (x o 4)]) := by
  obtain ⟨h1, h2⟩ := h
  unfold shW shX
  rw [if_pos (by omega), if_neg (by omega), if_neg (by omega), if_neg (by omega), if_pos (by omega)]
theorem sh_sa (h : 10 ≤ o ∧ o < 16) : shW g (x, z) (o + 6) = .inl (g_c g 3, 7, rfs fun i => g_a g (22 + 7 * (o + 6 - 16) + i)) := by
  obtain ⟨h1, h2⟩ := h
  unfold shW shX
  rw [if_pos (by omega), if_neg (by omega), if_neg (by omega), if_neg (by omega), if_neg (by omega), if_pos (by omega)]
theorem sh_St (h : 22 ≤ o ∧ o < 65) : shW g (x, z) o = .inr (8, [.ref (g_a g (2 + (x o 0).toNatClampNeg)), .int (x o 1), .int (x o 2), .int (x o 3), .int (x o 4)]) := by
  obtain ⟨h1, h2⟩ := h
  unfold shW shX
  rw [if_pos (by omega), if_neg (by omega), if_neg (by omega), if_neg (by omega), if_neg (by omega), if_neg (by omega), if_pos (by omega)]
theorem sh_mi : shW g (x, z) 65 = .inl (g_c g 4, 4, rfs fun i => g_a g (12 + i)) := rfl
theorem sh_sv : shW g (x, z) 66 = .inl (g_c g 5, 8, rfs fun i => g_a g (67 + i)) := rfl
theorem sh_Sh (h : 67 ≤ o ∧ o < 75) : shW g (x, z) o = .inr (10, [.int (x o 0), .ref (g_a g (2 + (x o 1).toNatClampNeg)), .int (x o 2), .int (x o 3), .int (x o 4), .ref (g_a g (o + 8))]) := by
  obtain ⟨h1, h2⟩ := h
  unfold shW shX
  rw [if_pos (by omega), if_neg (by omega), if_neg (by omega), if_neg (by omega), if_neg (by omega), if_neg (by omega), if_neg (by omega), if_neg (by omega), if_neg (by omega), if_pos (by omega)]
theorem sh_el (h : 67 ≤ o ∧ o < 75) : shW g (x, z) (o + 8) = .inl (g_c g 0, 100, .inl (x (o + 8))) := by
  obtain ⟨h1, h2⟩ := h
  unfold shW shX
  rw [if_pos (by omega), if_neg (by omega), if_neg (by omega), if_neg (by omega), if_neg (by omega), if_neg (by omega), if_neg (by omega), if_neg (by omega), if_neg (by omega), if_neg (by omega)]
theorem sh_Mo : shW g (xx, m, oo) 83 = .inr (12, [.int (m.1 83 0), .ref (g_a g 84), .ref (g_a g 85), .ref (g_a g 86), .ref (g_a g 87), .ref (g_a g 88), .int (m.1 83 6), .int (m.1 83 7), .ref (g_a g 89), .ref (g_a g 90), .ref (g_a g 91), .ref (g_a g 92), .ref (g_a g 93), .ref (g_a g 94), .int (m.1 83 14), .int (m.1 83 15), .int (m.1 83 16), .int (m.1 83 17), .int (m.1 83 18), .ref (g_a g 95), .ref (g_a g 96), .ref (g_a g 97), .ref (g_a g 98), .ref (g_a g 99), .ref (g_a g 100), .ref (g_a g 101), .int (m.1 83 26), .int (m.1 83 27), .int (m.1 83 28), (if m.2.2 = 0 then .null else .ref (g_a g m.2.2)), .int (m.1 83 30), .int (m.1 83 31), .ref (g_a g 102), .int (m.1 83 33), .ref (g_a g 103)]) := rfl
theorem sm_i (h : 84 ≤ o ∧ o < 103) (h9 : ¬ o = 94) : shW g (xx, m, oo) o = .inl (g_c g 0, shN o, .inl (m.1 o)) := by
  obtain ⟨h1, h2⟩ := h
  unfold shW shM
  rw [if_neg (by omega), if_pos (by omega), if_neg (by omega), if_neg h9, if_neg (by omega)]
theorem sm_94 : shW g (xx, m, oo) 94 = .inl (g_c g 1, 800, .inr (.inl (m.2.1 94))) := rfl
theorem sm_103 : shW g (xx, m, oo) 103 = .inl (g_c g 1, 100, .inr (.inl (m.2.1 103))) := rfl
theorem x_up_ne {α : Type} {w : Nat → Nat → α} {k j a : Nat} {v : α} (h : ¬ a = k) : x_up w k j v a = w a := by
  funext b
  simp [x_up, h]
theorem x_up_eq {α : Type} {w : Nat → Nat → α} {k j : Nat} {v : α} : x_up w k j v k = fun b => if b = j then v else w k b := by
  funext b
  simp [x_up]
theorem oth_x {k j : Nat} {v : Int32} : ∀ a, a ≠ k → shW g (x_up x k j v, z) a = shW g (x, z) a := by
  intro a h
  unfold shW
  dsimp only
  rw [show x_up x k j v a = x a from x_up_ne h]
theorem oth_m {k j : Nat} {v : Int32} : ∀ a, a ≠ k → shW g (xx, (x_up m.1 k j v, m.2), oo) a = shW g (xx, m, oo) a := by
  intro a h
  unfold shW
  dsimp only
  rw [show x_up m.1 k j v a = m.1 a from x_up_ne h]
theorem oth_l {k j : Nat} {v : Int64} : ∀ a, a ≠ k → shW g (xx, (m.1, x_up m.2.1 k j v, m.2.2), oo) a = shW g (xx, m, oo) a := by
  intro a h
  unfold shW
  dsimp only
  rw [show x_up m.2.1 k j v a = m.2.1 a from x_up_ne h]
theorem oth_q {v : Nat} : ∀ a, a ≠ 83 → shW g (xx, (m.1, m.2.1, v), oo) a = shW g (xx, m, oo) a := by
  intro a h
  unfold shW shM
  by_cases h1 : a < 83
  · rw [if_pos h1, if_pos h1]
  · rw [if_neg h1, if_neg h1]
    by_cases h2 : a < 104
    · rw [if_pos h2, if_pos h2, if_neg h, if_neg h]
    · rw [if_neg h2, if_neg h2]
theorem upd_x {α : Type} {w : Nat → Nat → α} {k j : Nat} {v : α} : (fun b => if b = j then v else w k b) = x_up w k j v k := x_up_eq.symm
end SH
def ft (T : u_T) (k : Nat) : FieldType := (parseFieldDescriptor (T k).2.2.1).getD .int
theorem in_St : ∀ q ∈ u_ws n_St T_St 5, q ∈ TW := by decide +kernel
theorem in_La : ∀ q ∈ u_ws n_La T_La 5, q ∈ TW := by decide +kernel
theorem in_Sh : ∀ q ∈ u_ws n_Sh T_Sh 6, q ∈ TW := by decide +kernel
theorem in_Hb : ∀ q ∈ u_ws n_Hb T_Hb 7, q ∈ TW := by decide +kernel
theorem in_Mo : ∀ q ∈ u_ws n_Mo T_Mo 35, q ∈ TW := by decide +kernel
theorem tk_St : ∀ k, k < 5 → parseFieldDescriptor (T_St k).2.2.1 = some (ft T_St k) := by decide +kernel
theorem tk_La : ∀ k, k < 5 → parseFieldDescriptor (T_La k).2.2.1 = some (ft T_La k) := by decide +kernel
theorem tk_Sh : ∀ k, k < 6 → parseFieldDescriptor (T_Sh k).2.2.1 = some (ft T_Sh k) := by decide +kernel
theorem tk_Hb : ∀ k, k < 7 → parseFieldDescriptor (T_Hb k).2.2.1 = some (ft T_Hb k) := by decide +kernel
theorem tk_Mo : ∀ k, k < 35 → parseFieldDescriptor (T_Mo k).2.2.1 = some (ft T_Mo k) := by decide +kernel
theorem nm_St : ∀ a, a < 5 → ∀ b, b < 5 → a ≠ b → (T_St a).2.1 ≠ (T_St b).2.1 := by decide +kernel
theorem nm_La : ∀ a, a < 5 → ∀ b, b < 5 → a ≠ b → (T_La a).2.1 ≠ (T_La b).2.1 := by decide +kernel
theorem nm_Sh : ∀ a, a < 6 → ∀ b, b < 6 → a ≠ b → (T_Sh a).2.1 ≠ (T_Sh b).2.1 := by decide +kernel
theorem nm_Hb : ∀ a, a < 7 → ∀ b, b < 7 → a ≠ b → (T_Hb a).2.1 ≠ (T_Hb b).2.1 := by decide +kernel
theorem nm_Mo : ∀ a, a < 35 → ∀ b, b < 35 → a ≠ b → (T_Mo a).2.1 ≠ (T_Mo b).2.1 := by decide +kernel
theorem pn_In : plainName n_In = true := by decide +kernel
theorem pn_Ho : plainName n_Ho = true := by decide +kernel
theorem pn_Co : plainName n_Co = true := by decide +kernel
theorem pn_Bl : plainName n_Bl = true := by decide +kernel
theorem pn_Tw : plainName n_Tw = true := by decide +kernel
theorem pn_Dr : plainName n_Dr = true := by decide +kernel
theorem pn_Fo : plainName n_Fo = true := by decide +kernel
theorem pn_Ma : plainName n_Ma = true := by decide +kernel
theorem pn_Ge : plainName n_Ge = true := by decide +kernel
theorem pn_St : plainName n_St = true := by decide +kernel
theorem pn_La : plainName n_La = true := by decide +kernel
theorem pn_Sh : plainName n_Sh = true := by decide +kernel
theorem pn_Hb : plainName n_Hb = true := by decide +kernel
theorem pn_Mo : plainName n_Mo = true := by decide +kernel
theorem cx_g {g : GC} {X : MX} {cc : ByteArray} {nL : Nat} {own : String} {lvl : Nat} (C : Cx g X cc nL own lvl) : gOk g := by
  obtain ⟨p, l, e, R, s, m, args, below, meth, c, Q, cells, slots⟩ := X
  exact C.2.2.2.2.2.2.1
theorem ko_cls {o : Nat} (h : 2 ≤ o ∧ o < 10) : ∃ Cn, vcls[o - 2]? = some (Cn, T_0, 0) := by
  have h3 : o = 2 ∨ o = 3 ∨ o = 4 ∨ o = 5 ∨ o = 6 ∨ o = 7 ∨ o = 8 ∨ o = 9 := by omega
  rcases h3 with rfl | rfl | rfl | rfl | rfl | rfl | rfl | rfl <;> exact ⟨_, rfl⟩
section BR
variable {g : GC} {X : MX} {cc : ByteArray} {nL : Nat} {own : String} {lvl : Nat} {pc : Nat} {loc lv' : List (Nat × Value)} {rest : List Value} {w : WD} {x xx : XD} {z : ZD} {m m1 : MD} {oo : Nat → Int64} {o n : Nat} {i : Int32}
theorem k_inc (C : Cx g X cc nL own lvl) {k : Nat} {n : Int} {v x1 : Int32} (hd : decode cc pc = .ok (.iinc k n, 3)) (i : Nat) (hi : loc[i]? = some (k, .int x1)) (hv : Int32.ofInt n = v) (hn : Nat.ble (k + 1) nL = true) (hl' : (k, Value.int (x1 + v)) :: loc.filter (fun q => !(q.1 == k) && !(q.1 + 1 == k && q.2.category == 2)) = lv') (h : Wk g X nL (pc + 3) lv' rest w) : Wk g X nL pc loc rest w := k_iinc C (x1 + v) hd i hi (by rw [hv]) hn hl' h
theorem k_nmI {e v : Int32} (q : v = e) (h : Wk g X nL pc loc (.int v :: rest) w) : Wk g X nL pc loc (.int e :: rest) w := q ▸ h
theorem k_nmJ {e v : Int64} (q : v = e) (h : Wk g X nL pc loc (.long v :: rest) w) : Wk g X nL pc loc (.long e :: rest) w := q ▸ h
theorem k_iushr (C : Cx g X cc nL own lvl) {x1 y : Int32} (hd : decode cc pc = .ok (.iushr, 1)) (h : Wk g X nL (pc + 1) loc (.int (x1.toUInt32 >>> (y.toUInt32 &&& Int32.toUInt32 31)).toInt32 :: rest) w) : Wk g X nL pc loc (.int y :: .int x1 :: rest) w := by
  obtain ⟨p, l, e, R, s, m, args, below, meth, c, Q, cells, slots⟩ := X
  obtain ⟨hx, hb, hml, hown, hts, hK, hg, hbs, hfr, hlo⟩ := C
  exact fun H locs ls hP hS hl => lv_iushr hx hb hd rfl (h H locs ls hP hS hl)
theorem k_aald_St (C : Cx g X cc nL own lvl) (ho : 10 ≤ o ∧ o < 16) (hi : vp_in i 7) (hd : decode cc pc = .ok (.aaload, 1)) (h : Wk g X nL (pc + 1) loc (.ref (g_a g (sid o i)) :: rest) (x, z)) : Wk g X nL pc loc (.int i :: .ref (g_a g (o + 6)) :: rest) (x, z) := k_aald C (f := fun i => g_a g (22 + 7 * (o + 6 - 16) + i)) 3 rfl (by omega) (sh_sa ho) hi hd (by rw [show 22 + 7 * (o + 6 - 16) + i.toNatClampNeg = sid o i from by unfold sid; omega]; exact h)
theorem k_aald_kd (C : Cx g X cc nL own lvl) (hi : vp_in i 8) (hd : decode cc pc = .ok (.aaload, 1)) (h : Wk g X nL (pc + 1) loc (.ref (g_a g (2 + i.toNatClampNeg)) :: rest) (x, z)) : Wk g X nL pc loc (.int i :: .ref (g_a g 1) :: rest) (x, z) := k_aald C (f := fun i => g_a g (2 + i)) 2 rfl (by decide) sh_ka hi hd h
theorem k_aald_La (C : Cx g X cc nL own lvl) (hi : vp_in i 4) (hd : decode cc pc = .ok (.aaload, 1)) (h : Wk g X nL (pc + 1) loc (.ref (g_a g (lid i)) :: rest) (x, z)) : Wk g X nL pc loc (.int i :: .ref (g_a g 65) :: rest) (x, z) := k_aald C (f := fun i => g_a g (12 + i)) 4 rfl (by decide) sh_mi hi hd h
theorem k_aald_L0 (C : Cx g X cc nL own lvl) (hd : decode cc pc = .ok (.aaload, 1)) (h : Wk g X nL (pc + 1) loc (.ref (g_a g 12) :: rest) (x, z)) : Wk g X nL pc loc (.int 0 :: .ref (g_a g 65) :: rest) (x, z) := k_aald C (f := fun i => g_a g (12 + i)) 4 rfl (by decide) sh_mi (by unfold vp_in; decide) hd h
theorem k_aald_Sh (C : Cx g X cc nL own lvl) (hi : vp_in i 8) (hd : decode cc pc = .ok (.aaload, 1)) (h : Wk g X nL (pc + 1) loc (.ref (g_a g (hid i)) :: rest) (x, z)) : Wk g X nL pc loc (.int i :: .ref (g_a g 66) :: rest) (x, z) := k_aald C (f := fun i => g_a g (67 + i)) 5 rfl (by decide) sh_sv hi hd h
theorem k_ialdE (C : Cx g X cc nL own lvl) (ho : 67 ≤ o ∧ o < 75) (hi : vp_in i 100) (hd : decode cc pc = .ok (.iaload, 1)) (h : Wk g X nL (pc + 1) loc (.int (x (o + 8) i.toNatClampNeg) :: rest) (x, z)) : Wk g X nL pc loc (.int i :: .ref (g_a g (o + 8)) :: rest) (x, z) := k_iald C (by omega) (sh_el ho) hi hd h
theorem k_iastE (C : Cx g X cc nL own lvl) {v : Int32} {x1 : XD} (ho : 67 ≤ o ∧ o < 75) (hi : vp_in i 100) (e : x1 = x_up x (o + 8) i.toNatClampNeg v) (hd : decode cc pc = .ok (.iastore, 1)) (h : Wk g X nL (pc + 1) loc rest (x1, z)) : Wk g X nL pc loc (.int v :: .int i :: .ref (g_a g (o + 8)) :: rest) (x, z) := by
  subst e
  refine k_iast C (by omega) (sh_el ho) hi ?_ oth_x hd h
  rw [sh_el ho, x_up_eq]
  rfl
theorem k_ialdM (C : Cx g X cc nL own lvl) (ho : 84 ≤ o ∧ o < 103) (h9 : ¬ o = 94) (hi : vp_in i (shN o)) (hd : decode cc pc = .ok (.iaload, 1)) (h : Wk g X nL (pc + 1) loc (.int (m.1 o i.toNatClampNeg) :: rest) (xx, m, oo)) : Wk g X nL pc loc (.int i :: .ref (g_a g o) :: rest) (xx, m, oo) := k_iald C (by omega) (sm_i ho h9) hi hd h
theorem k_iastM (C : Cx g X cc nL own lvl) {v : Int32} (ho : 84 ≤ o ∧ o < 103) (h9 : ¬ o = 94) (hi : vp_in i (shN o)) (e : m1 = (x_up m.1 o i.toNatClampNeg v, m.2)) (hd : decode cc pc = .ok (.iastore, 1)) (h : Wk g X nL (pc + 1) loc rest (xx, m1, oo)) : Wk g X nL pc loc (.int v :: .int i :: .ref (g_a g o) :: rest) (xx, m, oo) := by
  subst e
  refine k_iast C (by omega) (sm_i ho h9) hi ?_ oth_m hd h
  rw [sm_i ho h9]
  dsimp only
  rw [x_up_eq]
  rfl
theorem k_lald94 (C : Cx g X cc nL own lvl) (hi : vp_in i 800) (hd : decode cc pc = .ok (.laload, 1)) (h : Wk g X nL (pc + 1) loc (.long (m.2.1 94 i.toNatClampNeg) :: rest) (xx, m, oo)) : Wk g X nL pc loc (.int i :: .ref (g_a g 94) :: rest) (xx, m, oo) := k_lald C (by decide) sm_94 hi hd h
theorem k_lald103 (C : Cx g X cc nL own lvl) (hi : vp_in i 100) (hd : decode cc pc = .ok (.laload, 1)) (h : Wk g X nL (pc + 1) loc (.long (m.2.1 103 i.toNatClampNeg) :: rest) (xx, m, oo)) : Wk g X nL pc loc (.int i :: .ref (g_a g 103) :: rest) (xx, m, oo) := k_lald C (by decide) sm_103 hi hd h
theorem k_last94 (C : Cx g X cc nL own lvl) {v : Int64} (hi : vp_in i 800) (e : m1 = (m.1, x_up m.2.1 94 i.toNatClampNeg v, m.2.2)) (hd : decode cc pc = .ok (.lastore, 1)) (h : Wk g X nL (pc + 1) loc rest (xx, m1, oo)) : Wk g X nL pc loc (.long v :: .int i :: .ref (g_a g 94) :: rest) (xx, m, oo) := by
  subst e
  refine k_last C (by decide) sm_94 hi ?_ oth_l hd h
  rw [sm_94]
  dsimp only
  rw [x_up_eq]
  rfl
theorem k_last103 (C : Cx g X cc nL own lvl) {v : Int64} (hi : vp_in i 100) (e : m1 = (m.1, x_up m.2.1 103 i.toNatClampNeg v, m.2.2)) (hd : decode cc pc = .ok (.lastore, 1)) (h : Wk g X nL (pc + 1) loc rest (xx, m1, oo)) : Wk g X nL pc loc (.long v :: .int i :: .ref (g_a g 103) :: rest) (xx, m, oo) := by
  subst e
  refine k_last C (by decide) sm_103 hi ?_ oth_l hd h
  rw [sm_103]
  dsimp only
  rw [x_up_eq]
  rfl
/-- System.arraycopy between two shelves' rows -/
def x_cp (x : XD) (a b : Nat) (sp dp n : Nat) : XD := fun k => if k = b then va_cpy (x a) (x b) sp dp n else x k
def gC {α : Type} (i j n : Int32) (v : Option α) : Option α := if i < 0 ∨ j < 0 ∨ n < 0 ∨ 100 < i.toNatClampNeg + n.toNatClampNeg ∨ 100 < j.toNatClampNeg + n.toNatClampNeg then none else v
theorem gC_some {α : Type} {i j n : Int32} {v : Option α} {r : α} (h : gC i j n v = some r) : (¬ i < 0 ∧ ¬ j < 0 ∧ ¬ n < 0 ∧ i.toNatClampNeg + n.toNatClampNeg ≤ 100 ∧ j.toNatClampNeg + n.toNatClampNeg ≤ 100) ∧ v = some r := by
  unfold gC at h
  by_cases c : i < 0 ∨ j < 0 ∨ n < 0 ∨ 100 < i.toNatClampNeg + n.toNatClampNeg ∨ 100 < j.toNatClampNeg + n.toNatClampNeg
  · rw [if_pos c] at h; cases h
  · rw [if_neg c] at h
    simp only [not_or, Nat.not_lt] at c
    exact ⟨c, h⟩
theorem k_acopy (C : Cx g X cc nL own lvl) {idx a b : Nat} {sp dp n : Int32} {x1 : XD} (hlink : Cond.methodLink own idx arraycopyName ∈ TW) (hnat : Cond.native arraycopyName ∈ TW) (hstat : Cond.static arraycopyName ∈ TW) (hini : Cond.initialized "java/lang/System" ∈ TW) (ha : 67 ≤ a ∧ a < 75) (hb2 : 67 ≤ b ∧ b < 75) (hq : ¬ sp < 0 ∧ ¬ dp < 0 ∧ ¬ n < 0 ∧ sp.toNatClampNeg + n.toNatClampNeg ≤ 100 ∧ dp.toNatClampNeg + n.toNatClampNeg ≤ 100) (hlv : Nat.ble 1 lvl = true) (hcs : Nat.ble (rest.map fun v => v.category).sum 8 = true) (e : x1 = x_cp x (a + 8) (b + 8) sp.toNatClampNeg dp.toNatClampNeg n.toNatClampNeg) (hd : decode cc pc = .ok (.invokestatic idx, 3)) (h : Wk g X nL (pc + 3) loc rest (x1, z)) : Wk g X nL pc loc (.int n :: .int dp :: .ref (g_a g (b + 8)) :: .int sp :: .ref (g_a g (a + 8)) :: rest) (x, z) := by
  subst e
  obtain ⟨p, l, e, R, s, m, args, below, meth, c, Q, cells, slots⟩ := X
  obtain ⟨hx, hb, hml, hown, hts, hK, hg, hbs, hfr, hlo⟩ := C
  obtain ⟨q1, q2, q3, q4, q5⟩ := hq
  have h1 := Nat.le_of_ble_eq_true hlv
  have h2 := Nat.le_of_ble_eq_true hcs
  have h3 : nativeFrameWords "java/lang/System" "arraycopy" 5 ≤ 16 := by decide +kernel
  refine fun H locs ls hP hS hl => va_copyi hx hb (hml.trans hl.1.symm) hown (hts _ hlink) (hts _ hnat) (hts _ hstat) (hts _ hini) hK hP (hg.d _) hS (a + 8) (b + 8) 0 0 (ty := .int) (f := x (a + 8)) (g := x (b + 8)) (by rw [wl_at (by omega), sh_el ha]) (by rw [wl_at (by omega), sh_el hb2]) rfl rfl rfl q1 q2 q3 q4 q5 (fun _ _ => rfl) (Nat.le_trans h1 hfr) (by omega) hd (fun H1 locs1 hP1 hD1 hS1 => ?_)
  rw [wl_set (w' := (x_cp x (a + 8) (b + 8) sp.toNatClampNeg dp.toNatClampNeg n.toNatClampNeg, z)) (by omega) (by rw [sh_el hb2]; simp [x_cp]) (fun j hj => by unfold shW; dsimp only; rw [show x_cp x (a + 8) (b + 8) sp.toNatClampNeg dp.toNatClampNeg n.toNatClampNeg j = x j from by simp [x_cp, hj]])] at hP1
  exact h H1 locs1 ls hP1 hS1 hl
end BR

/-! super.m(..) where the class above inherits m -/
section QI
variable {g : GC} {X : MX} {cc cc2 : ByteArray} {nL nL2 n idx lv2 : Nat} {own owner : String} {lvl : Nat} {pc : Nat} {loc : List (Nat × Value)} {rest st As : List Value} {w w' : WD} {x y : MethodName} {ret2 : Option FieldType}
theorem k_callQi (C : Cx g X cc nL own lvl) {o ci N : Nat} {T : u_T} {fs : List Value} {r : Int32} {Cn : String} (h1 : Cond.methodLink own idx x ∈ TW) (h2 : Cond.sameMethod x.cls owner x.name x.desc ∈ TW) (h3 : Cond.superclass own x.cls ∈ TW) (h4 : Cond.superclass x.cls owner ∈ TW) (h5 : Cond.instanceMethod y ∈ TW) (h6 : Cond.initialized y.cls ∈ TW) (h7 : Cond.code y cc2 nL2 ret2 ∈ TW) (hyx : y = ⟨owner, x.name, x.desc⟩) (hdd : x.name ≠ "<init>" ∧ (parseMethodDescriptor x.desc).map (fun d => d.parameters.length) = some n) (hM : ∀ l, Mi g l y cc2 nL2 ret2 lv2 (.ref (g_a g o) :: As) w r w') (hlv : Nat.ble (lv2 + 1) lvl = true) (hnl : Nat.ble nL2 21 = true) (hcell : X.2.2.2.2.2.2.2.2.2.2.2.1 ≤ X.2.2.2.1.cells ∧ X.2.2.2.2.2.2.2.2.2.2.2.2 ≤ X.2.2.2.1.slots) (ho : o < 105) (he : shW g w o = .inr (ci, fs)) (hc : vcls[ci]? = some (Cn, T, N)) (hst : st = As.reverse ++ .ref (g_a g o) :: rest) (hn : As.length = n) (hcat : Nat.ble (rest.map fun v => v.category).sum 8 = true) (hd : decode cc pc = .ok (.invokespecial idx, 3)) (h : Wk g X nL (pc + 3) loc (.int r :: rest) w') : Wk g X nL pc loc st w := by
  obtain ⟨p, l, e, R, s, m, args, below, meth, c, Q, cells, slots⟩ := X
  obtain ⟨hx, hb, hml, hown, hts, hK, hg, hbs, hfr, hlo⟩ := C
  subst hst
  have hR := lv_need (lv2 := lv2) (nL2 := nL2) hlv hnl hfr hlo
  have hG : GoodIn TW (.code y cc2 nL2 ret2 :: TW) := tw_gi (ex := []) h7 (by simp)
  refine fun H locs ls hP hS hl => va_calli (rest := rest) (?_ : va_Run p l e R s m args below meth c H locs cells slots 0 0 (F0 m pc ls (As.reverse ++ .ref (g_a g o) :: rest)) rest (va_Qi (fun (r2 : Int32) (_ : Unit) => r2 = r) (fun _ t => Wat g w' t) (AB g) (Value.ref (g_a g o) :: As).toArray) (AB g)) hS (fun _ _ h => h) (fun _ h => h) (fun r1 _ t H1 locs1 ht hvm hw hB hz1 hk1 hS1 => ?_)
  · have hK2 : Back l R p e below s args y 3 8 (PreOf R 0 0 (va_Pc (.ref (g_a g o) :: As) (fun U => Wat g w U))) (PostOf (va_Qi (fun (r2 : Int32) (_ : Unit) => r2 = r) (fun _ t => Wat g w' t) (AB g)) 0 0 (AB g)) := back_of (bytes := cc2) (maxL := nL2) (ret := ret2) (hM l) wat_blind rfl rfl hR.1 hR.2 (pay_in hts hG) List.mem_cons_self (fun a' U hW => word_at hW (Or.inl (by first | rfl | simp [Cond.onTables, Cond.keeps, Cond.steady])) (hts _ h6))
    obtain ⟨cellB, hcB, hoB, hclB⟩ := va_recv (q := (Cn, T, N)) hK hP hc (q0 := o) (by rw [wl_at ho, he])
    obtain ⟨-, hfc, kB, hkB, -⟩ := hK.1 ci _ hc
    have hce := Option.some.inj (hfc.symm.trans hclB)
    rw [hce] at hkB
    obtain ⟨mk, methM, hnamed, hmethM, hstM, habM⟩ := Cond.instanceMethod_spec (hts _ h5)
    obtain ⟨methM', cM, hmethM', -, -, -, -, -, -, hsigM⟩ := Cond.code_spec hnamed (hts _ h7)
    cases hmethM.symm.trans hmethM'
    obtain ⟨ps, dk, kp, hps, hdk, hkp, hsuper, -, -, hnid⟩ := Cond.superclass_spec hown (hts _ h3)
    obtain ⟨po, dk2, kp2, hpo, hdk2, hkp2, hsuper2, -, -, -⟩ := Cond.superclass_spec hps (hts _ h4)
    have hpm : po = mk.cls := Option.some.inj (hpo.symm.trans (by rw [hyx] at hnamed; exact findClass_of_methodNamed hnamed))
    have hsz : ps < s.vm.classes.size := (Array.getElem?_eq_some_iff.mp hdk2).1
    have hsub : s.vm.isSubclass ps mk.cls = true := by
      rw [← hpm]
      obtain ⟨k, hk⟩ : ∃ k, s.vm.classes.size = k + 1 := ⟨_, (Nat.succ_pred_eq_of_pos (Nat.lt_of_le_of_lt (Nat.zero_le _) hsz)).symm⟩
      simp only [Vm.isSubclass, Vm.isSubclassAux, hdk2, hsuper2, hk]
      simp
    have hn2 : s.methodNamed? ⟨owner, x.name, x.desc⟩ = some mk := by rw [← hyx]; exact hnamed
    have hsl : ∀ sig, parseMethodDescriptor y.desc = some sig → As.length = sig.parameters.length := by
      intro sig hsig
      have h9 := hdd.2
      rw [hyx] at hsig
      dsimp only at hsig
      rw [hsig] at h9
      exact hn.trans (Option.some.inj h9).symm
    intro T hT X
    obtain ⟨vm₁, X₁, hstep₁⟩ := X.invokespecialUp hx hown (hts _ h1) (hts _ h2) hn2 hmethM hstM habM hdd.1 hdk hnid hps hsuper hsub (a := g_a g o) (cell := cellB) (by rw [hT]; exact hcB)
      (fun z h => by rw [h] at hoB; cases hoB) hkB (g := F0 m pc ls (As.reverse ++ .ref (g_a g o) :: rest)) rfl (argsL := As) (rest := rest) (hsl _ hsigM) rfl (by rw [hb]; exact hd)
    obtain ⟨v, ⟨U', l2, c2, s2⟩, X', ⟨g', mk2, t, L, e1, e2, hq, q1, hL, q2, q3⟩, hsteps⟩ := hK2 m meth c ⟨T.setVm vm₁, locs, cells, slots⟩ { (F0 m pc ls (As.reverse ++ .ref (g_a g o) :: rest)) with stack := rest } (.invokespecial idx) mk (Value.ref (g_a g o) :: As).toArray X₁ rfl (hl.1.trans hml.symm) (by rw [hb]; exact hd) (lv_room (pc := pc) (ls := ls) (rest := rest) (Nat.le_of_ble_eq_true hcat)) (X₁.named hnamed) ⟨hcell.1, hcell.2, rfl, by show va_P g.1 vcls (wl g w) T.heap; rw [hT]; exact hP, va_K.moved (U := T.setVm vm₁) X₁.warmed.alike hK, by show g_b g ≤ T.heap.size; rw [hT]; exact Nat.le_trans hbs hS.1⟩
    dsimp only [Pt.U, Pt.locs, Pt.cells, Pt.slots] at X' e1 e2 q1 q2 q3 hsteps
    subst q1; subst q2; subst q3
    exact ⟨v, (T.setVm vm₁).calling g' mk2 (Value.ref (g_a g o) :: As).toArray, t, U', L, hT, X', hL, e1, e2, hq, fun target h => hstep₁ _ (by rw [doInvoke_state]; exact hsteps.trans h)⟩
  · cases hw
    obtain ⟨hB1, -, -⟩ := hB
    rw [ht] at hB1
    exact h H1 locs1 ls hB1 hS1 hl
end QI
end
