theorem d_Mo_init_0 : decode c_Mo_init 0 = .ok (.aload_n 0, 1) := by decide +kernel
theorem d_Mo_init_1 : decode c_Mo_init 1 = .ok (.invokespecial 1, 3) := by decide +kernel
theorem d_Mo_init_4 : decode c_Mo_init 4 = .ok (.aload_n 0, 1) := by decide +kernel
theorem d_Mo_init_5 : decode c_Mo_init 5 = .ok (.bipush 7, 2) := by decide +kernel
theorem d_Mo_init_7 : decode c_Mo_init 7 = .ok (.newarray .int, 2) := by decide +kernel
theorem d_Mo_init_9 : decode c_Mo_init 9 = .ok (.putfield 7, 3) := by decide +kernel
theorem d_Mo_init_12 : decode c_Mo_init 12 = .ok (.aload_n 0, 1) := by decide +kernel
theorem d_Mo_init_13 : decode c_Mo_init 13 = .ok (.bipush 7, 2) := by decide +kernel
theorem d_Mo_init_15 : decode c_Mo_init 15 = .ok (.newarray .int, 2) := by decide +kernel
theorem d_Mo_init_17 : decode c_Mo_init 17 = .ok (.putfield 13, 3) := by decide +kernel
theorem d_Mo_init_20 : decode c_Mo_init 20 = .ok (.aload_n 0, 1) := by decide +kernel
theorem d_Mo_init_21 : decode c_Mo_init 21 = .ok (.bipush 7, 2) := by decide +kernel
theorem d_Mo_init_23 : decode c_Mo_init 23 = .ok (.newarray .int, 2) := by decide +kernel
theorem d_Mo_init_25 : decode c_Mo_init 25 = .ok (.putfield 16, 3) := by decide +kernel
theorem d_Mo_init_28 : decode c_Mo_init 28 = .ok (.aload_n 0, 1) := by decide +kernel
theorem d_Mo_init_29 : decode c_Mo_init 29 = .ok (.bipush 7, 2) := by decide +kernel
theorem d_Mo_init_31 : decode c_Mo_init 31 = .ok (.newarray .int, 2) := by decide +kernel
theorem d_Mo_init_33 : decode c_Mo_init 33 = .ok (.putfield 19, 3) := by decide +kernel
theorem d_Mo_init_36 : decode c_Mo_init 36 = .ok (.aload_n 0, 1) := by decide +kernel
theorem d_Mo_init_37 : decode c_Mo_init 37 = .ok (.bipush 7, 2) := by decide +kernel
theorem d_Mo_init_39 : decode c_Mo_init 39 = .ok (.newarray .int, 2) := by decide +kernel
theorem d_Mo_init_41 : decode c_Mo_init 41 = .ok (.putfield 22, 3) := by decide +kernel
theorem d_Mo_init_44 : decode c_Mo_init 44 = .ok (.aload_n 0, 1) := by decide +kernel
theorem d_Mo_init_45 : decode c_Mo_init 45 = .ok (.bipush 8, 2) := by decide +kernel
theorem d_Mo_init_47 : decode c_Mo_init 47 = .ok (.newarray .int, 2) := by decide +kernel
theorem d_Mo_init_49 : decode c_Mo_init 49 = .ok (.putfield 25, 3) := by decide +kernel
theorem d_Mo_init_52 : decode c_Mo_init 52 = .ok (.aload_n 0, 1) := by decide +kernel
theorem d_Mo_init_53 : decode c_Mo_init 53 = .ok (.bipush 8, 2) := by decide +kernel
theorem d_Mo_init_55 : decode c_Mo_init 55 = .ok (.newarray .int, 2) := by decide +kernel
theorem d_Mo_init_57 : decode c_Mo_init 57 = .ok (.putfield 28, 3) := by decide +kernel
theorem d_Mo_init_60 : decode c_Mo_init 60 = .ok (.aload_n 0, 1) := by decide +kernel
theorem d_Mo_init_61 : decode c_Mo_init 61 = .ok (.bipush 8, 2) := by decide +kernel
theorem d_Mo_init_63 : decode c_Mo_init 63 = .ok (.newarray .int, 2) := by decide +kernel
theorem d_Mo_init_65 : decode c_Mo_init 65 = .ok (.putfield 31, 3) := by decide +kernel
theorem d_Mo_init_68 : decode c_Mo_init 68 = .ok (.aload_n 0, 1) := by decide +kernel
theorem d_Mo_init_69 : decode c_Mo_init 69 = .ok (.bipush 8, 2) := by decide +kernel
theorem d_Mo_init_71 : decode c_Mo_init 71 = .ok (.newarray .int, 2) := by decide +kernel
theorem d_Mo_init_73 : decode c_Mo_init 73 = .ok (.putfield 34, 3) := by decide +kernel
theorem d_Mo_init_76 : decode c_Mo_init 76 = .ok (.aload_n 0, 1) := by decide +kernel
theorem d_Mo_init_77 : decode c_Mo_init 77 = .ok (.bipush 8, 2) := by decide +kernel
theorem d_Mo_init_79 : decode c_Mo_init 79 = .ok (.newarray .int, 2) := by decide +kernel
theorem d_Mo_init_81 : decode c_Mo_init 81 = .ok (.putfield 37, 3) := by decide +kernel
theorem d_Mo_init_84 : decode c_Mo_init 84 = .ok (.aload_n 0, 1) := by decide +kernel
theorem d_Mo_init_85 : decode c_Mo_init 85 = .ok (.sipush 800, 3) := by decide +kernel
theorem d_Mo_init_88 : decode c_Mo_init 88 = .ok (.newarray .long, 2) := by decide +kernel
theorem d_Mo_init_90 : decode c_Mo_init 90 = .ok (.putfield 40, 3) := by decide +kernel
theorem d_Mo_init_93 : decode c_Mo_init 93 = .ok (.aload_n 0, 1) := by decide +kernel
theorem d_Mo_init_94 : decode c_Mo_init 94 = .ok (.bipush 51, 2) := by decide +kernel
theorem d_Mo_init_96 : decode c_Mo_init 96 = .ok (.newarray .int, 2) := by decide +kernel
theorem d_Mo_init_98 : decode c_Mo_init 98 = .ok (.putfield 44, 3) := by decide +kernel
theorem d_Mo_init_101 : decode c_Mo_init 101 = .ok (.aload_n 0, 1) := by decide +kernel
theorem d_Mo_init_102 : decode c_Mo_init 102 = .ok (.bipush 51, 2) := by decide +kernel
theorem d_Mo_init_104 : decode c_Mo_init 104 = .ok (.newarray .int, 2) := by decide +kernel
theorem d_Mo_init_106 : decode c_Mo_init 106 = .ok (.putfield 47, 3) := by decide +kernel
theorem d_Mo_init_109 : decode c_Mo_init 109 = .ok (.aload_n 0, 1) := by decide +kernel
theorem d_Mo_init_110 : decode c_Mo_init 110 = .ok (.sipush 204, 3) := by decide +kernel
theorem d_Mo_init_113 : decode c_Mo_init 113 = .ok (.newarray .int, 2) := by decide +kernel
theorem d_Mo_init_115 : decode c_Mo_init 115 = .ok (.putfield 50, 3) := by decide +kernel
theorem d_Mo_init_118 : decode c_Mo_init 118 = .ok (.aload_n 0, 1) := by decide +kernel
theorem d_Mo_init_119 : decode c_Mo_init 119 = .ok (.bipush 38, 2) := by decide +kernel
theorem d_Mo_init_121 : decode c_Mo_init 121 = .ok (.newarray .int, 2) := by decide +kernel
theorem d_Mo_init_123 : decode c_Mo_init 123 = .ok (.putfield 53, 3) := by decide +kernel
theorem d_Mo_init_126 : decode c_Mo_init 126 = .ok (.aload_n 0, 1) := by decide +kernel
theorem d_Mo_init_127 : decode c_Mo_init 127 = .ok (.bipush 38, 2) := by decide +kernel
theorem d_Mo_init_129 : decode c_Mo_init 129 = .ok (.newarray .int, 2) := by decide +kernel
theorem d_Mo_init_131 : decode c_Mo_init 131 = .ok (.putfield 56, 3) := by decide +kernel
theorem d_Mo_init_134 : decode c_Mo_init 134 = .ok (.aload_n 0, 1) := by decide +kernel
theorem d_Mo_init_135 : decode c_Mo_init 135 = .ok (.bipush 38, 2) := by decide +kernel
theorem d_Mo_init_137 : decode c_Mo_init 137 = .ok (.newarray .int, 2) := by decide +kernel
theorem d_Mo_init_139 : decode c_Mo_init 139 = .ok (.putfield 59, 3) := by decide +kernel
theorem d_Mo_init_142 : decode c_Mo_init 142 = .ok (.aload_n 0, 1) := by decide +kernel
theorem d_Mo_init_143 : decode c_Mo_init 143 = .ok (.bipush 38, 2) := by decide +kernel
theorem d_Mo_init_145 : decode c_Mo_init 145 = .ok (.newarray .int, 2) := by decide +kernel
theorem d_Mo_init_147 : decode c_Mo_init 147 = .ok (.putfield 62, 3) := by decide +kernel
theorem d_Mo_init_150 : decode c_Mo_init 150 = .ok (.aload_n 0, 1) := by decide +kernel
theorem d_Mo_init_151 : decode c_Mo_init 151 = .ok (.iconst 4, 1) := by decide +kernel
theorem d_Mo_init_152 : decode c_Mo_init 152 = .ok (.newarray .int, 2) := by decide +kernel
theorem d_Mo_init_154 : decode c_Mo_init 154 = .ok (.putfield 65, 3) := by decide +kernel
theorem d_Mo_init_157 : decode c_Mo_init 157 = .ok (.aload_n 0, 1) := by decide +kernel
theorem d_Mo_init_158 : decode c_Mo_init 158 = .ok (.bipush 100, 2) := by decide +kernel
theorem d_Mo_init_160 : decode c_Mo_init 160 = .ok (.newarray .long, 2) := by decide +kernel
theorem d_Mo_init_162 : decode c_Mo_init 162 = .ok (.putfield 68, 3) := by decide +kernel
theorem d_Mo_init_165 : decode c_Mo_init 165 = .ok (.aload_n 0, 1) := by decide +kernel
theorem d_Mo_init_166 : decode c_Mo_init 166 = .ok (.iconst 0, 1) := by decide +kernel
theorem d_Mo_init_167 : decode c_Mo_init 167 = .ok (.putfield 71, 3) := by decide +kernel
theorem d_Mo_init_170 : decode c_Mo_init 170 = .ok (.return_, 1) := by decide +kernel
theorem d_Mo_thrown_0 : decode c_Mo_thrown 0 = .ok (.aload_n 0, 1) := by decide +kernel
theorem d_Mo_thrown_1 : decode c_Mo_thrown 1 = .ok (.getfield 71, 3) := by decide +kernel
theorem d_Mo_thrown_4 : decode c_Mo_thrown 4 = .ok (.ireturn, 1) := by decide +kernel
theorem d_Mo_in_0 : decode c_Mo_in 0 = .ok (.lload_n 0, 1) := by decide +kernel
theorem d_Mo_in_1 : decode c_Mo_in 1 = .ok (.lload_n 2, 1) := by decide +kernel
theorem d_Mo_in_2 : decode c_Mo_in 2 = .ok (.lcmp, 1) := by decide +kernel
theorem d_Mo_in_3 : decode c_Mo_in 3 = .ok (.ifCond .lt 14, 3) := by decide +kernel
theorem d_Mo_in_6 : decode c_Mo_in 6 = .ok (.lload_n 0, 1) := by decide +kernel
theorem d_Mo_in_7 : decode c_Mo_in 7 = .ok (.lload 4, 2) := by decide +kernel
theorem d_Mo_in_9 : decode c_Mo_in 9 = .ok (.lcmp, 1) := by decide +kernel
theorem d_Mo_in_10 : decode c_Mo_in 10 = .ok (.ifCond .gt 7, 3) := by decide +kernel
theorem d_Mo_in_13 : decode c_Mo_in 13 = .ok (.iconst 1, 1) := by decide +kernel
theorem d_Mo_in_14 : decode c_Mo_in 14 = .ok (.goto 4, 3) := by decide +kernel
theorem d_Mo_in_17 : decode c_Mo_in 17 = .ok (.iconst 0, 1) := by decide +kernel
theorem d_Mo_in_18 : decode c_Mo_in 18 = .ok (.ireturn, 1) := by decide +kernel
theorem d_Mo_hasBit_0 : decode c_Mo_hasBit 0 = .ok (.iload_n 0, 1) := by decide +kernel
theorem d_Mo_hasBit_1 : decode c_Mo_hasBit 1 = .ok (.iload_n 1, 1) := by decide +kernel
theorem d_Mo_hasBit_2 : decode c_Mo_hasBit 2 = .ok (.ishr, 1) := by decide +kernel
theorem d_Mo_hasBit_3 : decode c_Mo_hasBit 3 = .ok (.iconst 1, 1) := by decide +kernel
theorem d_Mo_hasBit_4 : decode c_Mo_hasBit 4 = .ok (.iand, 1) := by decide +kernel
theorem d_Mo_hasBit_5 : decode c_Mo_hasBit 5 = .ok (.iconst 1, 1) := by decide +kernel
theorem d_Mo_hasBit_6 : decode c_Mo_hasBit 6 = .ok (.if_icmp .ne 7, 3) := by decide +kernel
theorem d_Mo_hasBit_9 : decode c_Mo_hasBit 9 = .ok (.iconst 1, 1) := by decide +kernel
theorem d_Mo_hasBit_10 : decode c_Mo_hasBit 10 = .ok (.goto 4, 3) := by decide +kernel
theorem d_Mo_hasBit_13 : decode c_Mo_hasBit 13 = .ok (.iconst 0, 1) := by decide +kernel
theorem d_Mo_hasBit_14 : decode c_Mo_hasBit 14 = .ok (.ireturn, 1) := by decide +kernel
theorem d_Mo_isYard_0 : decode c_Mo_isYard 0 = .ok (.iload_n 0, 1) := by decide +kernel
theorem d_Mo_isYard_1 : decode c_Mo_isYard 1 = .ok (.i2l, 1) := by decide +kernel
theorem d_Mo_isYard_2 : decode c_Mo_isYard 2 = .ok (.lconst 0, 1) := by decide +kernel
theorem d_Mo_isYard_3 : decode c_Mo_isYard 3 = .ok (.ldc2_w 75, 3) := by decide +kernel
theorem d_Mo_isYard_6 : decode c_Mo_isYard 6 = .ok (.invokestatic 77, 3) := by decide +kernel
theorem d_Mo_isYard_9 : decode c_Mo_isYard 9 = .ok (.ireturn, 1) := by decide +kernel
theorem d_Mo_isHorse_0 : decode c_Mo_isHorse 0 = .ok (.iload_n 1, 1) := by decide +kernel
theorem d_Mo_isHorse_1 : decode c_Mo_isHorse 1 = .ok (.i2l, 1) := by decide +kernel
theorem d_Mo_isHorse_2 : decode c_Mo_isHorse 2 = .ok (.lconst 0, 1) := by decide +kernel
theorem d_Mo_isHorse_3 : decode c_Mo_isHorse 3 = .ok (.aload_n 0, 1) := by decide +kernel
theorem d_Mo_isHorse_4 : decode c_Mo_isHorse 4 = .ok (.getfield 81, 3) := by decide +kernel
theorem d_Mo_isHorse_7 : decode c_Mo_isHorse 7 = .ok (.iconst 1, 1) := by decide +kernel
theorem d_Mo_isHorse_8 : decode c_Mo_isHorse 8 = .ok (.isub, 1) := by decide +kernel
theorem d_Mo_isHorse_9 : decode c_Mo_isHorse 9 = .ok (.i2l, 1) := by decide +kernel
theorem d_Mo_isHorse_10 : decode c_Mo_isHorse 10 = .ok (.invokestatic 77, 3) := by decide +kernel
theorem d_Mo_isHorse_13 : decode c_Mo_isHorse 13 = .ok (.ireturn, 1) := by decide +kernel
theorem d_Mo_least_0 : decode c_Mo_least 0 = .ok (.iload_n 0, 1) := by decide +kernel
theorem d_Mo_least_1 : decode c_Mo_least 1 = .ok (.iload_n 1, 1) := by decide +kernel
theorem d_Mo_least_2 : decode c_Mo_least 2 = .ok (.if_icmp .ge 7, 3) := by decide +kernel
theorem d_Mo_least_5 : decode c_Mo_least 5 = .ok (.iload_n 0, 1) := by decide +kernel
theorem d_Mo_least_6 : decode c_Mo_least 6 = .ok (.goto 4, 3) := by decide +kernel
theorem d_Mo_least_9 : decode c_Mo_least 9 = .ok (.iload_n 1, 1) := by decide +kernel
theorem d_Mo_least_10 : decode c_Mo_least 10 = .ok (.ireturn, 1) := by decide +kernel
theorem d_Mo_apart_0 : decode c_Mo_apart 0 = .ok (.iload_n 0, 1) := by decide +kernel
theorem d_Mo_apart_1 : decode c_Mo_apart 1 = .ok (.iload_n 1, 1) := by decide +kernel
theorem d_Mo_apart_2 : decode c_Mo_apart 2 = .ok (.if_icmp .le 9, 3) := by decide +kernel
theorem d_Mo_apart_5 : decode c_Mo_apart 5 = .ok (.iload_n 0, 1) := by decide +kernel
theorem d_Mo_apart_6 : decode c_Mo_apart 6 = .ok (.iload_n 1, 1) := by decide +kernel
theorem d_Mo_apart_7 : decode c_Mo_apart 7 = .ok (.isub, 1) := by decide +kernel
theorem d_Mo_apart_8 : decode c_Mo_apart 8 = .ok (.goto 6, 3) := by decide +kernel
theorem d_Mo_apart_11 : decode c_Mo_apart 11 = .ok (.iload_n 1, 1) := by decide +kernel
theorem d_Mo_apart_12 : decode c_Mo_apart 12 = .ok (.iload_n 0, 1) := by decide +kernel
theorem d_Mo_apart_13 : decode c_Mo_apart 13 = .ok (.isub, 1) := by decide +kernel
theorem d_Mo_apart_14 : decode c_Mo_apart 14 = .ok (.ireturn, 1) := by decide +kernel
theorem d_Mo_goalOf_0 : decode c_Mo_goalOf 0 = .ok (.aload_n 0, 1) := by decide +kernel
theorem d_Mo_goalOf_1 : decode c_Mo_goalOf 1 = .ok (.getfield 16, 3) := by decide +kernel
theorem d_Mo_goalOf_4 : decode c_Mo_goalOf 4 = .ok (.iload_n 1, 1) := by decide +kernel
theorem d_Mo_goalOf_5 : decode c_Mo_goalOf 5 = .ok (.iaload, 1) := by decide +kernel
theorem d_Mo_goalOf_6 : decode c_Mo_goalOf 6 = .ok (.istore_n 2, 1) := by decide +kernel
theorem d_Mo_goalOf_7 : decode c_Mo_goalOf 7 = .ok (.bipush 20, 2) := by decide +kernel
theorem d_Mo_goalOf_9 : decode c_Mo_goalOf 9 = .ok (.iload_n 2, 1) := by decide +kernel
theorem d_Mo_goalOf_10 : decode c_Mo_goalOf 10 = .ok (.isub, 1) := by decide +kernel
theorem d_Mo_goalOf_11 : decode c_Mo_goalOf 11 = .ok (.istore_n 3, 1) := by decide +kernel
theorem d_Mo_goalOf_12 : decode c_Mo_goalOf 12 = .ok (.aload_n 0, 1) := by decide +kernel
theorem d_Mo_goalOf_13 : decode c_Mo_goalOf 13 = .ok (.getfield 19, 3) := by decide +kernel
theorem d_Mo_goalOf_16 : decode c_Mo_goalOf 16 = .ok (.iload_n 1, 1) := by decide +kernel
theorem d_Mo_goalOf_17 : decode c_Mo_goalOf 17 = .ok (.iaload, 1) := by decide +kernel
theorem d_Mo_goalOf_18 : decode c_Mo_goalOf 18 = .ok (.iload_n 2, 1) := by decide +kernel
theorem d_Mo_goalOf_19 : decode c_Mo_goalOf 19 = .ok (.invokestatic 84, 3) := by decide +kernel
theorem d_Mo_goalOf_22 : decode c_Mo_goalOf 22 = .ok (.istore 4, 2) := by decide +kernel
theorem d_Mo_goalOf_24 : decode c_Mo_goalOf 24 = .ok (.aload_n 0, 1) := by decide +kernel
theorem d_Mo_goalOf_25 : decode c_Mo_goalOf 25 = .ok (.getfield 19, 3) := by decide +kernel
theorem d_Mo_goalOf_28 : decode c_Mo_goalOf 28 = .ok (.iload_n 1, 1) := by decide +kernel
theorem d_Mo_goalOf_29 : decode c_Mo_goalOf 29 = .ok (.iaload, 1) := by decide +kernel
theorem d_Mo_goalOf_30 : decode c_Mo_goalOf 30 = .ok (.iload_n 3, 1) := by decide +kernel
theorem d_Mo_goalOf_31 : decode c_Mo_goalOf 31 = .ok (.invokestatic 84, 3) := by decide +kernel
theorem d_Mo_goalOf_34 : decode c_Mo_goalOf 34 = .ok (.istore 5, 2) := by decide +kernel
theorem d_Mo_goalOf_36 : decode c_Mo_goalOf 36 = .ok (.aload_n 0, 1) := by decide +kernel
theorem d_Mo_goalOf_37 : decode c_Mo_goalOf 37 = .ok (.getfield 7, 3) := by decide +kernel
theorem d_Mo_goalOf_40 : decode c_Mo_goalOf 40 = .ok (.iload_n 1, 1) := by decide +kernel
theorem d_Mo_goalOf_41 : decode c_Mo_goalOf 41 = .ok (.iaload, 1) := by decide +kernel
theorem d_Mo_goalOf_42 : decode c_Mo_goalOf 42 = .ok (.tableswitch 82 1 7 #[42, 49, 51, 82, 64, 69, 42], 42) := by decide +kernel
theorem d_Mo_goalOf_84 : decode c_Mo_goalOf 84 = .ok (.aload_n 0, 1) := by decide +kernel
theorem d_Mo_goalOf_85 : decode c_Mo_goalOf 85 = .ok (.getfield 19, 3) := by decide +kernel
theorem d_Mo_goalOf_88 : decode c_Mo_goalOf 88 = .ok (.iload_n 1, 1) := by decide +kernel
theorem d_Mo_goalOf_89 : decode c_Mo_goalOf 89 = .ok (.iaload, 1) := by decide +kernel
theorem d_Mo_goalOf_90 : decode c_Mo_goalOf 90 = .ok (.ireturn, 1) := by decide +kernel
theorem d_Mo_goalOf_91 : decode c_Mo_goalOf 91 = .ok (.iload_n 3, 1) := by decide +kernel
theorem d_Mo_goalOf_92 : decode c_Mo_goalOf 92 = .ok (.ireturn, 1) := by decide +kernel
theorem d_Mo_goalOf_93 : decode c_Mo_goalOf 93 = .ok (.iload 5, 2) := by decide +kernel
theorem d_Mo_goalOf_95 : decode c_Mo_goalOf 95 = .ok (.iload 4, 2) := by decide +kernel
theorem d_Mo_goalOf_97 : decode c_Mo_goalOf 97 = .ok (.if_icmp .ge 7, 3) := by decide +kernel
theorem d_Mo_goalOf_100 : decode c_Mo_goalOf 100 = .ok (.iload_n 3, 1) := by decide +kernel
theorem d_Mo_goalOf_101 : decode c_Mo_goalOf 101 = .ok (.goto 4, 3) := by decide +kernel
theorem d_Mo_goalOf_104 : decode c_Mo_goalOf 104 = .ok (.iload_n 2, 1) := by decide +kernel
theorem d_Mo_goalOf_105 : decode c_Mo_goalOf 105 = .ok (.ireturn, 1) := by decide +kernel
theorem d_Mo_goalOf_106 : decode c_Mo_goalOf 106 = .ok (.aload_n 0, 1) := by decide +kernel
theorem d_Mo_goalOf_107 : decode c_Mo_goalOf 107 = .ok (.getfield 88, 3) := by decide +kernel
theorem d_Mo_goalOf_110 : decode c_Mo_goalOf 110 = .ok (.ireturn, 1) := by decide +kernel
theorem d_Mo_goalOf_111 : decode c_Mo_goalOf 111 = .ok (.iload 5, 2) := by decide +kernel
theorem d_Mo_goalOf_113 : decode c_Mo_goalOf 113 = .ok (.iload 4, 2) := by decide +kernel
theorem d_Mo_goalOf_115 : decode c_Mo_goalOf 115 = .ok (.if_icmp .le 7, 3) := by decide +kernel
theorem d_Mo_goalOf_118 : decode c_Mo_goalOf 118 = .ok (.iload_n 3, 1) := by decide +kernel
theorem d_Mo_goalOf_119 : decode c_Mo_goalOf 119 = .ok (.goto 4, 3) := by decide +kernel
theorem d_Mo_goalOf_122 : decode c_Mo_goalOf 122 = .ok (.iload_n 2, 1) := by decide +kernel
theorem d_Mo_goalOf_123 : decode c_Mo_goalOf 123 = .ok (.ireturn, 1) := by decide +kernel
theorem d_Mo_goalOf_124 : decode c_Mo_goalOf 124 = .ok (.iload_n 2, 1) := by decide +kernel
theorem d_Mo_goalOf_125 : decode c_Mo_goalOf 125 = .ok (.ireturn, 1) := by decide +kernel
theorem d_Mo_pinesOf_0 : decode c_Mo_pinesOf 0 = .ok (.iconst 1, 1) := by decide +kernel
theorem d_Mo_pinesOf_1 : decode c_Mo_pinesOf 1 = .ok (.aload_n 0, 1) := by decide +kernel
theorem d_Mo_pinesOf_2 : decode c_Mo_pinesOf 2 = .ok (.getfield 19, 3) := by decide +kernel
theorem d_Mo_pinesOf_5 : decode c_Mo_pinesOf 5 = .ok (.iload_n 1, 1) := by decide +kernel
theorem d_Mo_pinesOf_6 : decode c_Mo_pinesOf 6 = .ok (.iaload, 1) := by decide +kernel
theorem d_Mo_pinesOf_7 : decode c_Mo_pinesOf 7 = .ok (.aload_n 0, 1) := by decide +kernel
theorem d_Mo_pinesOf_8 : decode c_Mo_pinesOf 8 = .ok (.iload_n 1, 1) := by decide +kernel
theorem d_Mo_pinesOf_9 : decode c_Mo_pinesOf 9 = .ok (.invokevirtual 91, 3) := by decide +kernel
theorem d_Mo_pinesOf_12 : decode c_Mo_pinesOf 12 = .ok (.invokestatic 84, 3) := by decide +kernel
theorem d_Mo_pinesOf_15 : decode c_Mo_pinesOf 15 = .ok (.iconst 5, 1) := by decide +kernel
theorem d_Mo_pinesOf_16 : decode c_Mo_pinesOf 16 = .ok (.idiv, 1) := by decide +kernel
theorem d_Mo_pinesOf_17 : decode c_Mo_pinesOf 17 = .ok (.iadd, 1) := by decide +kernel
theorem d_Mo_pinesOf_18 : decode c_Mo_pinesOf 18 = .ok (.istore_n 2, 1) := by decide +kernel
theorem d_Mo_pinesOf_19 : decode c_Mo_pinesOf 19 = .ok (.aload_n 0, 1) := by decide +kernel
theorem d_Mo_pinesOf_20 : decode c_Mo_pinesOf 20 = .ok (.getfield 7, 3) := by decide +kernel
theorem d_Mo_pinesOf_23 : decode c_Mo_pinesOf 23 = .ok (.iload_n 1, 1) := by decide +kernel
theorem d_Mo_pinesOf_24 : decode c_Mo_pinesOf 24 = .ok (.iaload, 1) := by decide +kernel
theorem d_Mo_pinesOf_25 : decode c_Mo_pinesOf 25 = .ok (.tableswitch 73 1 7 #[43, 45, 73, 49, 58, 69, 43], 43) := by decide +kernel
theorem d_Mo_pinesOf_68 : decode c_Mo_pinesOf 68 = .ok (.iconst 0, 1) := by decide +kernel
theorem d_Mo_pinesOf_69 : decode c_Mo_pinesOf 69 = .ok (.ireturn, 1) := by decide +kernel
theorem d_Mo_pinesOf_70 : decode c_Mo_pinesOf 70 = .ok (.iconst 2, 1) := by decide +kernel
theorem d_Mo_pinesOf_71 : decode c_Mo_pinesOf 71 = .ok (.iload_n 2, 1) := by decide +kernel
theorem d_Mo_pinesOf_72 : decode c_Mo_pinesOf 72 = .ok (.imul, 1) := by decide +kernel
theorem d_Mo_pinesOf_73 : decode c_Mo_pinesOf 73 = .ok (.ireturn, 1) := by decide +kernel
theorem d_Mo_pinesOf_74 : decode c_Mo_pinesOf 74 = .ok (.iload_n 2, 1) := by decide +kernel
theorem d_Mo_pinesOf_75 : decode c_Mo_pinesOf 75 = .ok (.aload_n 0, 1) := by decide +kernel
theorem d_Mo_pinesOf_76 : decode c_Mo_pinesOf 76 = .ok (.getfield 13, 3) := by decide +kernel
theorem d_Mo_pinesOf_79 : decode c_Mo_pinesOf 79 = .ok (.iload_n 1, 1) := by decide +kernel
theorem d_Mo_pinesOf_80 : decode c_Mo_pinesOf 80 = .ok (.iaload, 1) := by decide +kernel
theorem d_Mo_pinesOf_81 : decode c_Mo_pinesOf 81 = .ok (.iadd, 1) := by decide +kernel
theorem d_Mo_pinesOf_82 : decode c_Mo_pinesOf 82 = .ok (.ireturn, 1) := by decide +kernel
theorem d_Mo_pinesOf_83 : decode c_Mo_pinesOf 83 = .ok (.iload_n 2, 1) := by decide +kernel
theorem d_Mo_pinesOf_84 : decode c_Mo_pinesOf 84 = .ok (.aload_n 0, 1) := by decide +kernel
theorem d_Mo_pinesOf_85 : decode c_Mo_pinesOf 85 = .ok (.getfield 13, 3) := by decide +kernel
theorem d_Mo_pinesOf_88 : decode c_Mo_pinesOf 88 = .ok (.iload_n 1, 1) := by decide +kernel
theorem d_Mo_pinesOf_89 : decode c_Mo_pinesOf 89 = .ok (.iaload, 1) := by decide +kernel
theorem d_Mo_pinesOf_90 : decode c_Mo_pinesOf 90 = .ok (.iconst 2, 1) := by decide +kernel
theorem d_Mo_pinesOf_91 : decode c_Mo_pinesOf 91 = .ok (.idiv, 1) := by decide +kernel
theorem d_Mo_pinesOf_92 : decode c_Mo_pinesOf 92 = .ok (.iadd, 1) := by decide +kernel
theorem d_Mo_pinesOf_93 : decode c_Mo_pinesOf 93 = .ok (.ireturn, 1) := by decide +kernel
theorem d_Mo_pinesOf_94 : decode c_Mo_pinesOf 94 = .ok (.iload_n 2, 1) := by decide +kernel
theorem d_Mo_pinesOf_95 : decode c_Mo_pinesOf 95 = .ok (.iconst 1, 1) := by decide +kernel
theorem d_Mo_pinesOf_96 : decode c_Mo_pinesOf 96 = .ok (.iadd, 1) := by decide +kernel
theorem d_Mo_pinesOf_97 : decode c_Mo_pinesOf 97 = .ok (.ireturn, 1) := by decide +kernel
theorem d_Mo_pinesOf_98 : decode c_Mo_pinesOf 98 = .ok (.iload_n 2, 1) := by decide +kernel
theorem d_Mo_pinesOf_99 : decode c_Mo_pinesOf 99 = .ok (.ireturn, 1) := by decide +kernel
theorem d_Mo_paceOf_0 : decode c_Mo_paceOf 0 = .ok (.iconst 1, 1) := by decide +kernel
theorem d_Mo_paceOf_1 : decode c_Mo_paceOf 1 = .ok (.aload_n 0, 1) := by decide +kernel
theorem d_Mo_paceOf_2 : decode c_Mo_paceOf 2 = .ok (.getfield 22, 3) := by decide +kernel
theorem d_Mo_paceOf_5 : decode c_Mo_paceOf 5 = .ok (.iload_n 1, 1) := by decide +kernel
theorem d_Mo_paceOf_6 : decode c_Mo_paceOf 6 = .ok (.iaload, 1) := by decide +kernel
theorem d_Mo_paceOf_7 : decode c_Mo_paceOf 7 = .ok (.iconst 4, 1) := by decide +kernel
theorem d_Mo_paceOf_8 : decode c_Mo_paceOf 8 = .ok (.idiv, 1) := by decide +kernel
theorem d_Mo_paceOf_9 : decode c_Mo_paceOf 9 = .ok (.iadd, 1) := by decide +kernel
theorem d_Mo_paceOf_10 : decode c_Mo_paceOf 10 = .ok (.istore_n 2, 1) := by decide +kernel
theorem d_Mo_paceOf_11 : decode c_Mo_paceOf 11 = .ok (.aload_n 0, 1) := by decide +kernel
theorem d_Mo_paceOf_12 : decode c_Mo_paceOf 12 = .ok (.getfield 7, 3) := by decide +kernel
theorem d_Mo_paceOf_15 : decode c_Mo_paceOf 15 = .ok (.iload_n 1, 1) := by decide +kernel
theorem d_Mo_paceOf_16 : decode c_Mo_paceOf 16 = .ok (.iaload, 1) := by decide +kernel
theorem d_Mo_paceOf_17 : decode c_Mo_paceOf 17 = .ok (.tableswitch 73 1 7 #[43, 45, 73, 73, 56, 60, 71], 43) := by decide +kernel
theorem d_Mo_paceOf_60 : decode c_Mo_paceOf 60 = .ok (.iconst 2, 1) := by decide +kernel
theorem d_Mo_paceOf_61 : decode c_Mo_paceOf 61 = .ok (.ireturn, 1) := by decide +kernel
theorem d_Mo_paceOf_62 : decode c_Mo_paceOf 62 = .ok (.iconst 1, 1) := by decide +kernel
theorem d_Mo_paceOf_63 : decode c_Mo_paceOf 63 = .ok (.aload_n 0, 1) := by decide +kernel
theorem d_Mo_paceOf_64 : decode c_Mo_paceOf 64 = .ok (.getfield 22, 3) := by decide +kernel
theorem d_Mo_paceOf_67 : decode c_Mo_paceOf 67 = .ok (.iload_n 1, 1) := by decide +kernel
theorem d_Mo_paceOf_68 : decode c_Mo_paceOf 68 = .ok (.iaload, 1) := by decide +kernel
theorem d_Mo_paceOf_69 : decode c_Mo_paceOf 69 = .ok (.iconst 2, 1) := by decide +kernel
theorem d_Mo_paceOf_70 : decode c_Mo_paceOf 70 = .ok (.idiv, 1) := by decide +kernel
theorem d_Mo_paceOf_71 : decode c_Mo_paceOf 71 = .ok (.iadd, 1) := by decide +kernel
theorem d_Mo_paceOf_72 : decode c_Mo_paceOf 72 = .ok (.ireturn, 1) := by decide +kernel
theorem d_Mo_paceOf_73 : decode c_Mo_paceOf 73 = .ok (.iload_n 2, 1) := by decide +kernel
theorem d_Mo_paceOf_74 : decode c_Mo_paceOf 74 = .ok (.iconst 1, 1) := by decide +kernel
theorem d_Mo_paceOf_75 : decode c_Mo_paceOf 75 = .ok (.iadd, 1) := by decide +kernel
theorem d_Mo_paceOf_76 : decode c_Mo_paceOf 76 = .ok (.ireturn, 1) := by decide +kernel
theorem d_Mo_paceOf_77 : decode c_Mo_paceOf 77 = .ok (.iload_n 2, 1) := by decide +kernel
theorem d_Mo_paceOf_78 : decode c_Mo_paceOf 78 = .ok (.aload_n 0, 1) := by decide +kernel
theorem d_Mo_paceOf_79 : decode c_Mo_paceOf 79 = .ok (.getfield 13, 3) := by decide +kernel
theorem d_Mo_paceOf_82 : decode c_Mo_paceOf 82 = .ok (.iload_n 1, 1) := by decide +kernel
theorem d_Mo_paceOf_83 : decode c_Mo_paceOf 83 = .ok (.iaload, 1) := by decide +kernel
theorem d_Mo_paceOf_84 : decode c_Mo_paceOf 84 = .ok (.iconst 3, 1) := by decide +kernel
theorem d_Mo_paceOf_85 : decode c_Mo_paceOf 85 = .ok (.idiv, 1) := by decide +kernel
theorem d_Mo_paceOf_86 : decode c_Mo_paceOf 86 = .ok (.iadd, 1) := by decide +kernel
theorem d_Mo_paceOf_87 : decode c_Mo_paceOf 87 = .ok (.ireturn, 1) := by decide +kernel
theorem d_Mo_paceOf_88 : decode c_Mo_paceOf 88 = .ok (.iconst 3, 1) := by decide +kernel
theorem d_Mo_paceOf_89 : decode c_Mo_paceOf 89 = .ok (.ireturn, 1) := by decide +kernel
theorem d_Mo_paceOf_90 : decode c_Mo_paceOf 90 = .ok (.iload_n 2, 1) := by decide +kernel
theorem d_Mo_paceOf_91 : decode c_Mo_paceOf 91 = .ok (.ireturn, 1) := by decide +kernel
theorem d_Mo_walkOf_0 : decode c_Mo_walkOf 0 = .ok (.aload_n 0, 1) := by decide +kernel
theorem d_Mo_walkOf_1 : decode c_Mo_walkOf 1 = .ok (.getfield 7, 3) := by decide +kernel
theorem d_Mo_walkOf_4 : decode c_Mo_walkOf 4 = .ok (.iload_n 1, 1) := by decide +kernel
theorem d_Mo_walkOf_5 : decode c_Mo_walkOf 5 = .ok (.iaload, 1) := by decide +kernel
theorem d_Mo_walkOf_6 : decode c_Mo_walkOf 6 = .ok (.bipush 7, 2) := by decide +kernel
theorem d_Mo_walkOf_8 : decode c_Mo_walkOf 8 = .ok (.if_icmp .ne 7, 3) := by decide +kernel
theorem d_Mo_walkOf_11 : decode c_Mo_walkOf 11 = .ok (.iconst 3, 1) := by decide +kernel
theorem d_Mo_walkOf_12 : decode c_Mo_walkOf 12 = .ok (.goto 29, 3) := by decide +kernel
theorem d_Mo_walkOf_15 : decode c_Mo_walkOf 15 = .ok (.aload_n 0, 1) := by decide +kernel
theorem d_Mo_walkOf_16 : decode c_Mo_walkOf 16 = .ok (.getfield 7, 3) := by decide +kernel
theorem d_Mo_walkOf_19 : decode c_Mo_walkOf 19 = .ok (.iload_n 1, 1) := by decide +kernel
theorem d_Mo_walkOf_20 : decode c_Mo_walkOf 20 = .ok (.iaload, 1) := by decide +kernel
theorem d_Mo_walkOf_21 : decode c_Mo_walkOf 21 = .ok (.iconst 1, 1) := by decide +kernel
theorem d_Mo_walkOf_22 : decode c_Mo_walkOf 22 = .ok (.if_icmp .eq 14, 3) := by decide +kernel
theorem d_Mo_walkOf_25 : decode c_Mo_walkOf 25 = .ok (.aload_n 0, 1) := by decide +kernel
theorem d_Mo_walkOf_26 : decode c_Mo_walkOf 26 = .ok (.getfield 7, 3) := by decide +kernel
theorem d_Mo_walkOf_29 : decode c_Mo_walkOf 29 = .ok (.iload_n 1, 1) := by decide +kernel
theorem d_Mo_walkOf_30 : decode c_Mo_walkOf 30 = .ok (.iaload, 1) := by decide +kernel
theorem d_Mo_walkOf_31 : decode c_Mo_walkOf 31 = .ok (.bipush 6, 2) := by decide +kernel
theorem d_Mo_walkOf_33 : decode c_Mo_walkOf 33 = .ok (.if_icmp .ne 7, 3) := by decide +kernel
theorem d_Mo_walkOf_36 : decode c_Mo_walkOf 36 = .ok (.iconst 2, 1) := by decide +kernel
theorem d_Mo_walkOf_37 : decode c_Mo_walkOf 37 = .ok (.goto 4, 3) := by decide +kernel
theorem d_Mo_walkOf_40 : decode c_Mo_walkOf 40 = .ok (.iconst 1, 1) := by decide +kernel
theorem d_Mo_walkOf_41 : decode c_Mo_walkOf 41 = .ok (.ireturn, 1) := by decide +kernel
theorem d_Mo_dayBy_0 : decode c_Mo_dayBy 0 = .ok (.aload_n 0, 1) := by decide +kernel
theorem d_Mo_dayBy_1 : decode c_Mo_dayBy 1 = .ok (.dup, 1) := by decide +kernel
theorem d_Mo_dayBy_2 : decode c_Mo_dayBy 2 = .ok (.getfield 95, 3) := by decide +kernel
theorem d_Mo_dayBy_5 : decode c_Mo_dayBy 5 = .ok (.iconst 1, 1) := by decide +kernel
theorem d_Mo_dayBy_6 : decode c_Mo_dayBy 6 = .ok (.iadd, 1) := by decide +kernel
theorem d_Mo_dayBy_7 : decode c_Mo_dayBy 7 = .ok (.putfield 95, 3) := by decide +kernel
theorem d_Mo_dayBy_10 : decode c_Mo_dayBy 10 = .ok (.iconst 0, 1) := by decide +kernel
theorem d_Mo_dayBy_11 : decode c_Mo_dayBy 11 = .ok (.istore_n 2, 1) := by decide +kernel
theorem d_Mo_dayBy_12 : decode c_Mo_dayBy 12 = .ok (.iload_n 2, 1) := by decide +kernel
theorem d_Mo_dayBy_13 : decode c_Mo_dayBy 13 = .ok (.aload_n 0, 1) := by decide +kernel
theorem d_Mo_dayBy_14 : decode c_Mo_dayBy 14 = .ok (.getfield 81, 3) := by decide +kernel
theorem d_Mo_dayBy_17 : decode c_Mo_dayBy 17 = .ok (.if_icmp .ge 71, 3) := by decide +kernel
theorem d_Mo_dayBy_20 : decode c_Mo_dayBy 20 = .ok (.iload_n 1, 1) := by decide +kernel
theorem d_Mo_dayBy_21 : decode c_Mo_dayBy 21 = .ok (.ifCond .ne 67, 3) := by decide +kernel
theorem d_Mo_dayBy_24 : decode c_Mo_dayBy 24 = .ok (.aload_n 0, 1) := by decide +kernel
theorem d_Mo_dayBy_25 : decode c_Mo_dayBy 25 = .ok (.getfield 19, 3) := by decide +kernel
theorem d_Mo_dayBy_28 : decode c_Mo_dayBy 28 = .ok (.iload_n 2, 1) := by decide +kernel
theorem d_Mo_dayBy_29 : decode c_Mo_dayBy 29 = .ok (.iaload, 1) := by decide +kernel
theorem d_Mo_dayBy_30 : decode c_Mo_dayBy 30 = .ok (.aload_n 0, 1) := by decide +kernel
theorem d_Mo_dayBy_31 : decode c_Mo_dayBy 31 = .ok (.iload_n 2, 1) := by decide +kernel
theorem d_Mo_dayBy_32 : decode c_Mo_dayBy 32 = .ok (.invokevirtual 91, 3) := by decide +kernel
theorem d_Mo_dayBy_35 : decode c_Mo_dayBy 35 = .ok (.if_icmp .ne 7, 3) := by decide +kernel
theorem d_Mo_dayBy_38 : decode c_Mo_dayBy 38 = .ok (.iconst 1, 1) := by decide +kernel
theorem d_Mo_dayBy_39 : decode c_Mo_dayBy 39 = .ok (.goto 4, 3) := by decide +kernel
theorem d_Mo_dayBy_42 : decode c_Mo_dayBy 42 = .ok (.iconst 0, 1) := by decide +kernel
theorem d_Mo_dayBy_43 : decode c_Mo_dayBy 43 = .ok (.istore_n 3, 1) := by decide +kernel
theorem d_Mo_dayBy_44 : decode c_Mo_dayBy 44 = .ok (.aload_n 0, 1) := by decide +kernel
theorem d_Mo_dayBy_45 : decode c_Mo_dayBy 45 = .ok (.getfield 22, 3) := by decide +kernel
theorem d_Mo_dayBy_48 : decode c_Mo_dayBy 48 = .ok (.iload_n 2, 1) := by decide +kernel
theorem d_Mo_dayBy_49 : decode c_Mo_dayBy 49 = .ok (.iload_n 3, 1) := by decide +kernel
theorem d_Mo_dayBy_50 : decode c_Mo_dayBy 50 = .ok (.ifCond .eq 14, 3) := by decide +kernel
theorem d_Mo_dayBy_53 : decode c_Mo_dayBy 53 = .ok (.aload_n 0, 1) := by decide +kernel
theorem d_Mo_dayBy_54 : decode c_Mo_dayBy 54 = .ok (.getfield 22, 3) := by decide +kernel
theorem d_Mo_dayBy_57 : decode c_Mo_dayBy 57 = .ok (.iload_n 2, 1) := by decide +kernel
theorem d_Mo_dayBy_58 : decode c_Mo_dayBy 58 = .ok (.iaload, 1) := by decide +kernel
theorem d_Mo_dayBy_59 : decode c_Mo_dayBy 59 = .ok (.iconst 2, 1) := by decide +kernel
theorem d_Mo_dayBy_60 : decode c_Mo_dayBy 60 = .ok (.idiv, 1) := by decide +kernel
theorem d_Mo_dayBy_61 : decode c_Mo_dayBy 61 = .ok (.goto 20, 3) := by decide +kernel
theorem d_Mo_dayBy_64 : decode c_Mo_dayBy 64 = .ok (.bipush 99, 2) := by decide +kernel
theorem d_Mo_dayBy_66 : decode c_Mo_dayBy 66 = .ok (.aload_n 0, 1) := by decide +kernel
theorem d_Mo_dayBy_67 : decode c_Mo_dayBy 67 = .ok (.getfield 22, 3) := by decide +kernel
theorem d_Mo_dayBy_70 : decode c_Mo_dayBy 70 = .ok (.iload_n 2, 1) := by decide +kernel
theorem d_Mo_dayBy_71 : decode c_Mo_dayBy 71 = .ok (.iaload, 1) := by decide +kernel
theorem d_Mo_dayBy_72 : decode c_Mo_dayBy 72 = .ok (.aload_n 0, 1) := by decide +kernel
theorem d_Mo_dayBy_73 : decode c_Mo_dayBy 73 = .ok (.iload_n 2, 1) := by decide +kernel
theorem d_Mo_dayBy_74 : decode c_Mo_dayBy 74 = .ok (.invokevirtual 98, 3) := by decide +kernel
theorem d_Mo_dayBy_77 : decode c_Mo_dayBy 77 = .ok (.iadd, 1) := by decide +kernel
theorem d_Mo_dayBy_78 : decode c_Mo_dayBy 78 = .ok (.invokestatic 101, 3) := by decide +kernel
theorem d_Mo_dayBy_81 : decode c_Mo_dayBy 81 = .ok (.iastore, 1) := by decide +kernel
theorem d_Mo_dayBy_82 : decode c_Mo_dayBy 82 = .ok (.iinc 2 1, 3) := by decide +kernel
theorem d_Mo_dayBy_85 : decode c_Mo_dayBy 85 = .ok (.goto (-73), 3) := by decide +kernel
theorem d_Mo_dayBy_88 : decode c_Mo_dayBy 88 = .ok (.return_, 1) := by decide +kernel
theorem d_Mo_goDays_0 : decode c_Mo_goDays 0 = .ok (.iconst 0, 1) := by decide +kernel
theorem d_Mo_goDays_1 : decode c_Mo_goDays 1 = .ok (.istore_n 2, 1) := by decide +kernel
theorem d_Mo_goDays_2 : decode c_Mo_goDays 2 = .ok (.iload_n 2, 1) := by decide +kernel
theorem d_Mo_goDays_3 : decode c_Mo_goDays 3 = .ok (.iload_n 1, 1) := by decide +kernel
theorem d_Mo_goDays_4 : decode c_Mo_goDays 4 = .ok (.if_icmp .ge 14, 3) := by decide +kernel
theorem d_Mo_goDays_7 : decode c_Mo_goDays 7 = .ok (.aload_n 0, 1) := by decide +kernel
theorem d_Mo_goDays_8 : decode c_Mo_goDays 8 = .ok (.iconst 0, 1) := by decide +kernel
theorem d_Mo_goDays_9 : decode c_Mo_goDays 9 = .ok (.invokevirtual 104, 3) := by decide +kernel
theorem d_Mo_goDays_12 : decode c_Mo_goDays 12 = .ok (.iinc 2 1, 3) := by decide +kernel
theorem d_Mo_goDays_15 : decode c_Mo_goDays 15 = .ok (.goto (-13), 3) := by decide +kernel
theorem d_Mo_goDays_18 : decode c_Mo_goDays 18 = .ok (.return_, 1) := by decide +kernel
theorem d_Mo_rideOn_0 : decode c_Mo_rideOn 0 = .ok (.aload_n 0, 1) := by decide +kernel
theorem d_Mo_rideOn_1 : decode c_Mo_rideOn 1 = .ok (.getfield 19, 3) := by decide +kernel
theorem d_Mo_rideOn_4 : decode c_Mo_rideOn 4 = .ok (.iload_n 1, 1) := by decide +kernel
theorem d_Mo_rideOn_5 : decode c_Mo_rideOn 5 = .ok (.iaload, 1) := by decide +kernel
theorem d_Mo_rideOn_6 : decode c_Mo_rideOn 6 = .ok (.istore_n 3, 1) := by decide +kernel
theorem d_Mo_rideOn_7 : decode c_Mo_rideOn 7 = .ok (.aload_n 0, 1) := by decide +kernel
theorem d_Mo_rideOn_8 : decode c_Mo_rideOn 8 = .ok (.iload_n 1, 1) := by decide +kernel
theorem d_Mo_rideOn_9 : decode c_Mo_rideOn 9 = .ok (.invokevirtual 91, 3) := by decide +kernel
theorem d_Mo_rideOn_12 : decode c_Mo_rideOn 12 = .ok (.istore 4, 2) := by decide +kernel
theorem d_Mo_rideOn_14 : decode c_Mo_rideOn 14 = .ok (.iload_n 2, 1) := by decide +kernel
theorem d_Mo_rideOn_15 : decode c_Mo_rideOn 15 = .ok (.iload_n 3, 1) := by decide +kernel
theorem d_Mo_rideOn_16 : decode c_Mo_rideOn 16 = .ok (.if_icmp .le 7, 3) := by decide +kernel
theorem d_Mo_rideOn_19 : decode c_Mo_rideOn 19 = .ok (.iconst 1, 1) := by decide +kernel
theorem d_Mo_rideOn_20 : decode c_Mo_rideOn 20 = .ok (.goto 4, 3) := by decide +kernel
theorem d_Mo_rideOn_23 : decode c_Mo_rideOn 23 = .ok (.iconst (-1), 1) := by decide +kernel
theorem d_Mo_rideOn_24 : decode c_Mo_rideOn 24 = .ok (.istore 5, 2) := by decide +kernel
theorem d_Mo_rideOn_26 : decode c_Mo_rideOn 26 = .ok (.iload 5, 2) := by decide +kernel
theorem d_Mo_rideOn_28 : decode c_Mo_rideOn 28 = .ok (.ifCond .le 17, 3) := by decide +kernel
theorem d_Mo_rideOn_31 : decode c_Mo_rideOn 31 = .ok (.iload 4, 2) := by decide +kernel
theorem d_Mo_rideOn_33 : decode c_Mo_rideOn 33 = .ok (.iload_n 3, 1) := by decide +kernel
theorem d_Mo_rideOn_34 : decode c_Mo_rideOn 34 = .ok (.if_icmp .le 7, 3) := by decide +kernel
theorem d_Mo_rideOn_37 : decode c_Mo_rideOn 37 = .ok (.iconst 1, 1) := by decide +kernel
theorem d_Mo_rideOn_38 : decode c_Mo_rideOn 38 = .ok (.goto 18, 3) := by decide +kernel
theorem d_Mo_rideOn_41 : decode c_Mo_rideOn 41 = .ok (.iconst 0, 1) := by decide +kernel
theorem d_Mo_rideOn_42 : decode c_Mo_rideOn 42 = .ok (.goto 14, 3) := by decide +kernel
theorem d_Mo_rideOn_45 : decode c_Mo_rideOn 45 = .ok (.iload 4, 2) := by decide +kernel
theorem d_Mo_rideOn_47 : decode c_Mo_rideOn 47 = .ok (.iload_n 3, 1) := by decide +kernel
theorem d_Mo_rideOn_48 : decode c_Mo_rideOn 48 = .ok (.if_icmp .ge 7, 3) := by decide +kernel
theorem d_Mo_rideOn_51 : decode c_Mo_rideOn 51 = .ok (.iconst 1, 1) := by decide +kernel
theorem d_Mo_rideOn_52 : decode c_Mo_rideOn 52 = .ok (.goto 4, 3) := by decide +kernel
theorem d_Mo_rideOn_55 : decode c_Mo_rideOn 55 = .ok (.iconst 0, 1) := by decide +kernel
theorem d_Mo_rideOn_56 : decode c_Mo_rideOn 56 = .ok (.istore 6, 2) := by decide +kernel
theorem d_Mo_rideOn_58 : decode c_Mo_rideOn 58 = .ok (.iload_n 3, 1) := by decide +kernel
theorem d_Mo_rideOn_59 : decode c_Mo_rideOn 59 = .ok (.iload_n 2, 1) := by decide +kernel
theorem d_Mo_rideOn_60 : decode c_Mo_rideOn 60 = .ok (.invokestatic 84, 3) := by decide +kernel
theorem d_Mo_rideOn_63 : decode c_Mo_rideOn 63 = .ok (.istore 7, 2) := by decide +kernel
theorem d_Mo_rideOn_65 : decode c_Mo_rideOn 65 = .ok (.iload 6, 2) := by decide +kernel
theorem d_Mo_rideOn_67 : decode c_Mo_rideOn 67 = .ok (.ifCond .eq 27, 3) := by decide +kernel
theorem d_Mo_rideOn_70 : decode c_Mo_rideOn 70 = .ok (.iload 7, 2) := by decide +kernel
theorem d_Mo_rideOn_72 : decode c_Mo_rideOn 72 = .ok (.aload_n 0, 1) := by decide +kernel
theorem d_Mo_rideOn_73 : decode c_Mo_rideOn 73 = .ok (.iload_n 1, 1) := by decide +kernel
theorem d_Mo_rideOn_74 : decode c_Mo_rideOn 74 = .ok (.invokevirtual 108, 3) := by decide +kernel
theorem d_Mo_rideOn_77 : decode c_Mo_rideOn 77 = .ok (.iload_n 3, 1) := by decide +kernel
theorem d_Mo_rideOn_78 : decode c_Mo_rideOn 78 = .ok (.iload 4, 2) := by decide +kernel
theorem d_Mo_rideOn_80 : decode c_Mo_rideOn 80 = .ok (.invokestatic 84, 3) := by decide +kernel
theorem d_Mo_rideOn_83 : decode c_Mo_rideOn 83 = .ok (.invokestatic 101, 3) := by decide +kernel
theorem d_Mo_rideOn_86 : decode c_Mo_rideOn 86 = .ok (.invokestatic 101, 3) := by decide +kernel
theorem d_Mo_rideOn_89 : decode c_Mo_rideOn 89 = .ok (.istore 7, 2) := by decide +kernel
theorem d_Mo_rideOn_91 : decode c_Mo_rideOn 91 = .ok (.goto 15, 3) := by decide +kernel
theorem d_Mo_rideOn_94 : decode c_Mo_rideOn 94 = .ok (.iload 7, 2) := by decide +kernel
theorem d_Mo_rideOn_96 : decode c_Mo_rideOn 96 = .ok (.aload_n 0, 1) := by decide +kernel
theorem d_Mo_rideOn_97 : decode c_Mo_rideOn 97 = .ok (.iload_n 1, 1) := by decide +kernel
theorem d_Mo_rideOn_98 : decode c_Mo_rideOn 98 = .ok (.invokevirtual 111, 3) := by decide +kernel
theorem d_Mo_rideOn_101 : decode c_Mo_rideOn 101 = .ok (.invokestatic 101, 3) := by decide +kernel
theorem d_Mo_rideOn_104 : decode c_Mo_rideOn 104 = .ok (.istore 7, 2) := by decide +kernel
theorem d_Mo_rideOn_106 : decode c_Mo_rideOn 106 = .ok (.aload_n 0, 1) := by decide +kernel
theorem d_Mo_rideOn_107 : decode c_Mo_rideOn 107 = .ok (.getfield 19, 3) := by decide +kernel
theorem d_Mo_rideOn_110 : decode c_Mo_rideOn 110 = .ok (.iload_n 1, 1) := by decide +kernel
theorem d_Mo_rideOn_111 : decode c_Mo_rideOn 111 = .ok (.iload_n 3, 1) := by decide +kernel
theorem d_Mo_rideOn_112 : decode c_Mo_rideOn 112 = .ok (.iload 5, 2) := by decide +kernel
theorem d_Mo_rideOn_114 : decode c_Mo_rideOn 114 = .ok (.iload 7, 2) := by decide +kernel
theorem d_Mo_rideOn_116 : decode c_Mo_rideOn 116 = .ok (.imul, 1) := by decide +kernel
theorem d_Mo_rideOn_117 : decode c_Mo_rideOn 117 = .ok (.iadd, 1) := by decide +kernel
theorem d_Mo_rideOn_118 : decode c_Mo_rideOn 118 = .ok (.iastore, 1) := by decide +kernel
theorem d_Mo_rideOn_119 : decode c_Mo_rideOn 119 = .ok (.aload_n 0, 1) := by decide +kernel
theorem d_Mo_rideOn_120 : decode c_Mo_rideOn 120 = .ok (.iconst 0, 1) := by decide +kernel
theorem d_Mo_rideOn_121 : decode c_Mo_rideOn 121 = .ok (.invokevirtual 104, 3) := by decide +kernel
theorem d_Mo_rideOn_124 : decode c_Mo_rideOn 124 = .ok (.return_, 1) := by decide +kernel
theorem d_Mo_ride_0 : decode c_Mo_ride 0 = .ok (.iconst 0, 1) := by decide +kernel
theorem d_Mo_ride_1 : decode c_Mo_ride 1 = .ok (.istore_n 3, 1) := by decide +kernel
theorem d_Mo_ride_2 : decode c_Mo_ride 2 = .ok (.aload_n 0, 1) := by decide +kernel
theorem d_Mo_ride_3 : decode c_Mo_ride 3 = .ok (.getfield 19, 3) := by decide +kernel
theorem d_Mo_ride_6 : decode c_Mo_ride 6 = .ok (.iload_n 1, 1) := by decide +kernel
theorem d_Mo_ride_7 : decode c_Mo_ride 7 = .ok (.iaload, 1) := by decide +kernel
theorem d_Mo_ride_8 : decode c_Mo_ride 8 = .ok (.iload_n 2, 1) := by decide +kernel
theorem d_Mo_ride_9 : decode c_Mo_ride 9 = .ok (.if_icmp .eq 15, 3) := by decide +kernel
theorem d_Mo_ride_12 : decode c_Mo_ride 12 = .ok (.aload_n 0, 1) := by decide +kernel
theorem d_Mo_ride_13 : decode c_Mo_ride 13 = .ok (.iload_n 1, 1) := by decide +kernel
theorem d_Mo_ride_14 : decode c_Mo_ride 14 = .ok (.iload_n 2, 1) := by decide +kernel
theorem d_Mo_ride_15 : decode c_Mo_ride 15 = .ok (.invokevirtual 114, 3) := by decide +kernel
theorem d_Mo_ride_18 : decode c_Mo_ride 18 = .ok (.iinc 3 1, 3) := by decide +kernel
theorem d_Mo_ride_21 : decode c_Mo_ride 21 = .ok (.goto (-19), 3) := by decide +kernel
theorem d_Mo_ride_24 : decode c_Mo_ride 24 = .ok (.iload_n 3, 1) := by decide +kernel
theorem d_Mo_ride_25 : decode c_Mo_ride 25 = .ok (.ireturn, 1) := by decide +kernel
theorem d_Mo_allLonging_0 : decode c_Mo_allLonging 0 = .ok (.iconst 0, 1) := by decide +kernel
theorem d_Mo_allLonging_1 : decode c_Mo_allLonging 1 = .ok (.istore_n 1, 1) := by decide +kernel
theorem d_Mo_allLonging_2 : decode c_Mo_allLonging 2 = .ok (.iconst 0, 1) := by decide +kernel
theorem d_Mo_allLonging_3 : decode c_Mo_allLonging 3 = .ok (.istore_n 2, 1) := by decide +kernel
theorem d_Mo_allLonging_4 : decode c_Mo_allLonging 4 = .ok (.iload_n 2, 1) := by decide +kernel
theorem d_Mo_allLonging_5 : decode c_Mo_allLonging 5 = .ok (.aload_n 0, 1) := by decide +kernel
theorem d_Mo_allLonging_6 : decode c_Mo_allLonging 6 = .ok (.getfield 81, 3) := by decide +kernel
theorem d_Mo_allLonging_9 : decode c_Mo_allLonging 9 = .ok (.if_icmp .ge 18, 3) := by decide +kernel
theorem d_Mo_allLonging_12 : decode c_Mo_allLonging 12 = .ok (.iload_n 1, 1) := by decide +kernel
theorem d_Mo_allLonging_13 : decode c_Mo_allLonging 13 = .ok (.aload_n 0, 1) := by decide +kernel
theorem d_Mo_allLonging_14 : decode c_Mo_allLonging 14 = .ok (.getfield 22, 3) := by decide +kernel
theorem d_Mo_allLonging_17 : decode c_Mo_allLonging 17 = .ok (.iload_n 2, 1) := by decide +kernel
theorem d_Mo_allLonging_18 : decode c_Mo_allLonging 18 = .ok (.iaload, 1) := by decide +kernel
theorem d_Mo_allLonging_19 : decode c_Mo_allLonging 19 = .ok (.iadd, 1) := by decide +kernel
theorem d_Mo_allLonging_20 : decode c_Mo_allLonging 20 = .ok (.istore_n 1, 1) := by decide +kernel
theorem d_Mo_allLonging_21 : decode c_Mo_allLonging 21 = .ok (.iinc 2 1, 3) := by decide +kernel
theorem d_Mo_allLonging_24 : decode c_Mo_allLonging 24 = .ok (.goto (-20), 3) := by decide +kernel
theorem d_Mo_allLonging_27 : decode c_Mo_allLonging 27 = .ok (.iload_n 1, 1) := by decide +kernel
theorem d_Mo_allLonging_28 : decode c_Mo_allLonging 28 = .ok (.ireturn, 1) := by decide +kernel
theorem d_Mo_atGoals_0 : decode c_Mo_atGoals 0 = .ok (.iconst 0, 1) := by decide +kernel
theorem d_Mo_atGoals_1 : decode c_Mo_atGoals 1 = .ok (.istore_n 1, 1) := by decide +kernel
theorem d_Mo_atGoals_2 : decode c_Mo_atGoals 2 = .ok (.iconst 0, 1) := by decide +kernel
theorem d_Mo_atGoals_3 : decode c_Mo_atGoals 3 = .ok (.istore_n 2, 1) := by decide +kernel
theorem d_Mo_atGoals_4 : decode c_Mo_atGoals 4 = .ok (.iload_n 2, 1) := by decide +kernel
theorem d_Mo_atGoals_5 : decode c_Mo_atGoals 5 = .ok (.aload_n 0, 1) := by decide +kernel
theorem d_Mo_atGoals_6 : decode c_Mo_atGoals 6 = .ok (.getfield 81, 3) := by decide +kernel
theorem d_Mo_atGoals_9 : decode c_Mo_atGoals 9 = .ok (.if_icmp .ge 31, 3) := by decide +kernel
theorem d_Mo_atGoals_12 : decode c_Mo_atGoals 12 = .ok (.iload_n 1, 1) := by decide +kernel
theorem d_Mo_atGoals_13 : decode c_Mo_atGoals 13 = .ok (.aload_n 0, 1) := by decide +kernel
theorem d_Mo_atGoals_14 : decode c_Mo_atGoals 14 = .ok (.getfield 19, 3) := by decide +kernel
theorem d_Mo_atGoals_17 : decode c_Mo_atGoals 17 = .ok (.iload_n 2, 1) := by decide +kernel
theorem d_Mo_atGoals_18 : decode c_Mo_atGoals 18 = .ok (.iaload, 1) := by decide +kernel
theorem d_Mo_atGoals_19 : decode c_Mo_atGoals 19 = .ok (.aload_n 0, 1) := by decide +kernel
theorem d_Mo_atGoals_20 : decode c_Mo_atGoals 20 = .ok (.iload_n 2, 1) := by decide +kernel
theorem d_Mo_atGoals_21 : decode c_Mo_atGoals 21 = .ok (.invokevirtual 91, 3) := by decide +kernel
theorem d_Mo_atGoals_24 : decode c_Mo_atGoals 24 = .ok (.if_icmp .ne 7, 3) := by decide +kernel
theorem d_Mo_atGoals_27 : decode c_Mo_atGoals 27 = .ok (.iconst 1, 1) := by decide +kernel
theorem d_Mo_atGoals_28 : decode c_Mo_atGoals 28 = .ok (.goto 4, 3) := by decide +kernel
theorem d_Mo_atGoals_31 : decode c_Mo_atGoals 31 = .ok (.iconst 0, 1) := by decide +kernel
theorem d_Mo_atGoals_32 : decode c_Mo_atGoals 32 = .ok (.iadd, 1) := by decide +kernel
theorem d_Mo_atGoals_33 : decode c_Mo_atGoals 33 = .ok (.istore_n 1, 1) := by decide +kernel
theorem d_Mo_atGoals_34 : decode c_Mo_atGoals 34 = .ok (.iinc 2 1, 3) := by decide +kernel
theorem d_Mo_atGoals_37 : decode c_Mo_atGoals 37 = .ok (.goto (-33), 3) := by decide +kernel
theorem d_Mo_atGoals_40 : decode c_Mo_atGoals 40 = .ok (.iload_n 1, 1) := by decide +kernel
theorem d_Mo_atGoals_41 : decode c_Mo_atGoals 41 = .ok (.ireturn, 1) := by decide +kernel
theorem d_Mo_here_0 : decode c_Mo_here 0 = .ok (.aload_n 0, 1) := by decide +kernel
theorem d_Mo_here_1 : decode c_Mo_here 1 = .ok (.getfield 118, 3) := by decide +kernel
theorem d_Mo_here_4 : decode c_Mo_here 4 = .ok (.aload_n 0, 1) := by decide +kernel
theorem d_Mo_here_5 : decode c_Mo_here 5 = .ok (.getfield 37, 3) := by decide +kernel
theorem d_Mo_here_8 : decode c_Mo_here 8 = .ok (.aload_n 0, 1) := by decide +kernel
theorem d_Mo_here_9 : decode c_Mo_here 9 = .ok (.getfield 121, 3) := by decide +kernel
theorem d_Mo_here_12 : decode c_Mo_here 12 = .ok (.iaload, 1) := by decide +kernel
theorem d_Mo_here_13 : decode c_Mo_here 13 = .ok (.if_icmp .ge 24, 3) := by decide +kernel
theorem d_Mo_here_16 : decode c_Mo_here 16 = .ok (.aload_n 0, 1) := by decide +kernel
theorem d_Mo_here_17 : decode c_Mo_here 17 = .ok (.getfield 40, 3) := by decide +kernel
theorem d_Mo_here_20 : decode c_Mo_here 20 = .ok (.bipush 100, 2) := by decide +kernel
theorem d_Mo_here_22 : decode c_Mo_here 22 = .ok (.aload_n 0, 1) := by decide +kernel
theorem d_Mo_here_23 : decode c_Mo_here 23 = .ok (.getfield 121, 3) := by decide +kernel
theorem d_Mo_here_26 : decode c_Mo_here 26 = .ok (.imul, 1) := by decide +kernel
theorem d_Mo_here_27 : decode c_Mo_here 27 = .ok (.aload_n 0, 1) := by decide +kernel
theorem d_Mo_here_28 : decode c_Mo_here 28 = .ok (.getfield 118, 3) := by decide +kernel
theorem d_Mo_here_31 : decode c_Mo_here 31 = .ok (.iadd, 1) := by decide +kernel
theorem d_Mo_here_32 : decode c_Mo_here 32 = .ok (.laload, 1) := by decide +kernel
theorem d_Mo_here_33 : decode c_Mo_here 33 = .ok (.l2i, 1) := by decide +kernel
theorem d_Mo_here_34 : decode c_Mo_here 34 = .ok (.goto 6, 3) := by decide +kernel
theorem d_Mo_here_37 : decode c_Mo_here 37 = .ok (.sipush (-999), 3) := by decide +kernel
theorem d_Mo_here_40 : decode c_Mo_here 40 = .ok (.ireturn, 1) := by decide +kernel
theorem d_Mo_readDigits_0 : decode c_Mo_readDigits 0 = .ok (.iconst 0, 1) := by decide +kernel
theorem d_Mo_readDigits_1 : decode c_Mo_readDigits 1 = .ok (.istore_n 2, 1) := by decide +kernel
theorem d_Mo_readDigits_2 : decode c_Mo_readDigits 2 = .ok (.iconst 0, 1) := by decide +kernel
theorem d_Mo_readDigits_3 : decode c_Mo_readDigits 3 = .ok (.istore_n 3, 1) := by decide +kernel
theorem d_Mo_readDigits_4 : decode c_Mo_readDigits 4 = .ok (.iload_n 3, 1) := by decide +kernel
theorem d_Mo_readDigits_5 : decode c_Mo_readDigits 5 = .ok (.iload_n 1, 1) := by decide +kernel
theorem d_Mo_readDigits_6 : decode c_Mo_readDigits 6 = .ok (.if_icmp .ge 87, 3) := by decide +kernel
theorem d_Mo_readDigits_9 : decode c_Mo_readDigits 9 = .ok (.aload_n 0, 1) := by decide +kernel
theorem d_Mo_readDigits_10 : decode c_Mo_readDigits 10 = .ok (.aload_n 0, 1) := by decide +kernel
theorem d_Mo_readDigits_11 : decode c_Mo_readDigits 11 = .ok (.getfield 124, 3) := by decide +kernel
theorem d_Mo_readDigits_14 : decode c_Mo_readDigits 14 = .ok (.ifCond .ne 20, 3) := by decide +kernel
theorem d_Mo_readDigits_17 : decode c_Mo_readDigits 17 = .ok (.aload_n 0, 1) := by decide +kernel
theorem d_Mo_readDigits_18 : decode c_Mo_readDigits 18 = .ok (.invokevirtual 128, 3) := by decide +kernel
theorem d_Mo_readDigits_21 : decode c_Mo_readDigits 21 = .ok (.i2l, 1) := by decide +kernel
theorem d_Mo_readDigits_22 : decode c_Mo_readDigits 22 = .ok (.ldc2_w 132, 3) := by decide +kernel
theorem d_Mo_readDigits_25 : decode c_Mo_readDigits 25 = .ok (.ldc2_w 134, 3) := by decide +kernel
theorem d_Mo_readDigits_28 : decode c_Mo_readDigits 28 = .ok (.invokestatic 77, 3) := by decide +kernel
theorem d_Mo_readDigits_31 : decode c_Mo_readDigits 31 = .ok (.ifCond .ne 7, 3) := by decide +kernel
theorem d_Mo_readDigits_34 : decode c_Mo_readDigits 34 = .ok (.iconst 1, 1) := by decide +kernel
theorem d_Mo_readDigits_35 : decode c_Mo_readDigits 35 = .ok (.goto 4, 3) := by decide +kernel
theorem d_Mo_readDigits_38 : decode c_Mo_readDigits 38 = .ok (.iconst 0, 1) := by decide +kernel
theorem d_Mo_readDigits_39 : decode c_Mo_readDigits 39 = .ok (.putfield 124, 3) := by decide +kernel
theorem d_Mo_readDigits_42 : decode c_Mo_readDigits 42 = .ok (.aload_n 0, 1) := by decide +kernel
theorem d_Mo_readDigits_43 : decode c_Mo_readDigits 43 = .ok (.getfield 124, 3) := by decide +kernel
theorem d_Mo_readDigits_46 : decode c_Mo_readDigits 46 = .ok (.ifCond .eq 7, 3) := by decide +kernel
theorem d_Mo_readDigits_49 : decode c_Mo_readDigits 49 = .ok (.iconst 0, 1) := by decide +kernel
theorem d_Mo_readDigits_50 : decode c_Mo_readDigits 50 = .ok (.goto 15, 3) := by decide +kernel
theorem d_Mo_readDigits_53 : decode c_Mo_readDigits 53 = .ok (.bipush 10, 2) := by decide +kernel
theorem d_Mo_readDigits_55 : decode c_Mo_readDigits 55 = .ok (.iload_n 2, 1) := by decide +kernel
theorem d_Mo_readDigits_56 : decode c_Mo_readDigits 56 = .ok (.imul, 1) := by decide +kernel
theorem d_Mo_readDigits_57 : decode c_Mo_readDigits 57 = .ok (.aload_n 0, 1) := by decide +kernel
theorem d_Mo_readDigits_58 : decode c_Mo_readDigits 58 = .ok (.invokevirtual 128, 3) := by decide +kernel
theorem d_Mo_readDigits_61 : decode c_Mo_readDigits 61 = .ok (.iadd, 1) := by decide +kernel
theorem d_Mo_readDigits_62 : decode c_Mo_readDigits 62 = .ok (.bipush 48, 2) := by decide +kernel
theorem d_Mo_readDigits_64 : decode c_Mo_readDigits 64 = .ok (.isub, 1) := by decide +kernel
theorem d_Mo_readDigits_65 : decode c_Mo_readDigits 65 = .ok (.istore_n 2, 1) := by decide +kernel
theorem d_Mo_readDigits_66 : decode c_Mo_readDigits 66 = .ok (.aload_n 0, 1) := by decide +kernel
theorem d_Mo_readDigits_67 : decode c_Mo_readDigits 67 = .ok (.dup, 1) := by decide +kernel
theorem d_Mo_readDigits_68 : decode c_Mo_readDigits 68 = .ok (.getfield 118, 3) := by decide +kernel
theorem d_Mo_readDigits_71 : decode c_Mo_readDigits 71 = .ok (.aload_n 0, 1) := by decide +kernel
theorem d_Mo_readDigits_72 : decode c_Mo_readDigits 72 = .ok (.getfield 124, 3) := by decide +kernel
theorem d_Mo_readDigits_75 : decode c_Mo_readDigits 75 = .ok (.ifCond .eq 7, 3) := by decide +kernel
theorem d_Mo_readDigits_78 : decode c_Mo_readDigits 78 = .ok (.iconst 0, 1) := by decide +kernel
theorem d_Mo_readDigits_79 : decode c_Mo_readDigits 79 = .ok (.goto 4, 3) := by decide +kernel
theorem d_Mo_readDigits_82 : decode c_Mo_readDigits 82 = .ok (.iconst 1, 1) := by decide +kernel
theorem d_Mo_readDigits_83 : decode c_Mo_readDigits 83 = .ok (.iadd, 1) := by decide +kernel
theorem d_Mo_readDigits_84 : decode c_Mo_readDigits 84 = .ok (.putfield 118, 3) := by decide +kernel
theorem d_Mo_readDigits_87 : decode c_Mo_readDigits 87 = .ok (.iinc 3 1, 3) := by decide +kernel
theorem d_Mo_readDigits_90 : decode c_Mo_readDigits 90 = .ok (.goto (-86), 3) := by decide +kernel
theorem d_Mo_readDigits_93 : decode c_Mo_readDigits 93 = .ok (.iload_n 2, 1) := by decide +kernel
theorem d_Mo_readDigits_94 : decode c_Mo_readDigits 94 = .ok (.ireturn, 1) := by decide +kernel
theorem d_Mo_isLetter_0 : decode c_Mo_isLetter 0 = .ok (.iload_n 0, 1) := by decide +kernel
theorem d_Mo_isLetter_1 : decode c_Mo_isLetter 1 = .ok (.bipush 104, 2) := by decide +kernel
theorem d_Mo_isLetter_3 : decode c_Mo_isLetter 3 = .ok (.if_icmp .eq 27, 3) := by decide +kernel
theorem d_Mo_isLetter_6 : decode c_Mo_isLetter 6 = .ok (.iload_n 0, 1) := by decide +kernel
theorem d_Mo_isLetter_7 : decode c_Mo_isLetter 7 = .ok (.bipush 114, 2) := by decide +kernel
theorem d_Mo_isLetter_9 : decode c_Mo_isLetter 9 = .ok (.if_icmp .eq 21, 3) := by decide +kernel
theorem d_Mo_isLetter_12 : decode c_Mo_isLetter 12 = .ok (.iload_n 0, 1) := by decide +kernel
theorem d_Mo_isLetter_13 : decode c_Mo_isLetter 13 = .ok (.bipush 111, 2) := by decide +kernel
theorem d_Mo_isLetter_15 : decode c_Mo_isLetter 15 = .ok (.if_icmp .eq 15, 3) := by decide +kernel
theorem d_Mo_isLetter_18 : decode c_Mo_isLetter 18 = .ok (.iload_n 0, 1) := by decide +kernel
theorem d_Mo_isLetter_19 : decode c_Mo_isLetter 19 = .ok (.bipush 100, 2) := by decide +kernel
theorem d_Mo_isLetter_21 : decode c_Mo_isLetter 21 = .ok (.if_icmp .eq 9, 3) := by decide +kernel
theorem d_Mo_isLetter_24 : decode c_Mo_isLetter 24 = .ok (.iload_n 0, 1) := by decide +kernel
theorem d_Mo_isLetter_25 : decode c_Mo_isLetter 25 = .ok (.bipush 108, 2) := by decide +kernel
theorem d_Mo_isLetter_27 : decode c_Mo_isLetter 27 = .ok (.if_icmp .ne 7, 3) := by decide +kernel
theorem d_Mo_isLetter_30 : decode c_Mo_isLetter 30 = .ok (.iconst 1, 1) := by decide +kernel
theorem d_Mo_isLetter_31 : decode c_Mo_isLetter 31 = .ok (.goto 4, 3) := by decide +kernel
theorem d_Mo_isLetter_34 : decode c_Mo_isLetter 34 = .ok (.iconst 0, 1) := by decide +kernel
theorem d_Mo_isLetter_35 : decode c_Mo_isLetter 35 = .ok (.ireturn, 1) := by decide +kernel
theorem d_Mo_readNumbers_0 : decode c_Mo_readNumbers 0 = .ok (.aload_n 0, 1) := by decide +kernel
theorem d_Mo_readNumbers_1 : decode c_Mo_readNumbers 1 = .ok (.getfield 50, 3) := by decide +kernel
theorem d_Mo_readNumbers_4 : decode c_Mo_readNumbers 4 = .ok (.iload_n 2, 1) := by decide +kernel
theorem d_Mo_readNumbers_5 : decode c_Mo_readNumbers 5 = .ok (.aload_n 0, 1) := by decide +kernel
theorem d_Mo_readNumbers_6 : decode c_Mo_readNumbers 6 = .ok (.iload_n 1, 1) := by decide +kernel
theorem d_Mo_readNumbers_7 : decode c_Mo_readNumbers 7 = .ok (.bipush 111, 2) := by decide +kernel
theorem d_Mo_readNumbers_9 : decode c_Mo_readNumbers 9 = .ok (.if_icmp .eq 9, 3) := by decide +kernel
theorem d_Mo_readNumbers_12 : decode c_Mo_readNumbers 12 = .ok (.iload_n 1, 1) := by decide +kernel
theorem d_Mo_readNumbers_13 : decode c_Mo_readNumbers 13 = .ok (.bipush 100, 2) := by decide +kernel
theorem d_Mo_readNumbers_15 : decode c_Mo_readNumbers 15 = .ok (.if_icmp .ne 7, 3) := by decide +kernel
theorem d_Mo_readNumbers_18 : decode c_Mo_readNumbers 18 = .ok (.iconst 2, 1) := by decide +kernel
theorem d_Mo_readNumbers_19 : decode c_Mo_readNumbers 19 = .ok (.goto 4, 3) := by decide +kernel
theorem d_Mo_readNumbers_22 : decode c_Mo_readNumbers 22 = .ok (.iconst 1, 1) := by decide +kernel
theorem d_Mo_readNumbers_23 : decode c_Mo_readNumbers 23 = .ok (.invokevirtual 136, 3) := by decide +kernel
theorem d_Mo_readNumbers_26 : decode c_Mo_readNumbers 26 = .ok (.iastore, 1) := by decide +kernel
theorem d_Mo_readNumbers_27 : decode c_Mo_readNumbers 27 = .ok (.iload_n 1, 1) := by decide +kernel
theorem d_Mo_readNumbers_28 : decode c_Mo_readNumbers 28 = .ok (.bipush 104, 2) := by decide +kernel
theorem d_Mo_readNumbers_30 : decode c_Mo_readNumbers 30 = .ok (.if_icmp .ne 45, 3) := by decide +kernel
theorem d_Mo_readNumbers_33 : decode c_Mo_readNumbers 33 = .ok (.aload_n 0, 1) := by decide +kernel
theorem d_Mo_readNumbers_34 : decode c_Mo_readNumbers 34 = .ok (.getfield 50, 3) := by decide +kernel
theorem d_Mo_readNumbers_37 : decode c_Mo_readNumbers 37 = .ok (.iload_n 2, 1) := by decide +kernel
theorem d_Mo_readNumbers_38 : decode c_Mo_readNumbers 38 = .ok (.iconst 1, 1) := by decide +kernel
theorem d_Mo_readNumbers_39 : decode c_Mo_readNumbers 39 = .ok (.iadd, 1) := by decide +kernel
theorem d_Mo_readNumbers_40 : decode c_Mo_readNumbers 40 = .ok (.aload_n 0, 1) := by decide +kernel
theorem d_Mo_readNumbers_41 : decode c_Mo_readNumbers 41 = .ok (.iconst 1, 1) := by decide +kernel
theorem d_Mo_readNumbers_42 : decode c_Mo_readNumbers 42 = .ok (.invokevirtual 136, 3) := by decide +kernel
theorem d_Mo_readNumbers_45 : decode c_Mo_readNumbers 45 = .ok (.iastore, 1) := by decide +kernel
theorem d_Mo_readNumbers_46 : decode c_Mo_readNumbers 46 = .ok (.aload_n 0, 1) := by decide +kernel
theorem d_Mo_readNumbers_47 : decode c_Mo_readNumbers 47 = .ok (.getfield 50, 3) := by decide +kernel
theorem d_Mo_readNumbers_50 : decode c_Mo_readNumbers 50 = .ok (.iload_n 2, 1) := by decide +kernel
theorem d_Mo_readNumbers_51 : decode c_Mo_readNumbers 51 = .ok (.iconst 2, 1) := by decide +kernel
theorem d_Mo_readNumbers_52 : decode c_Mo_readNumbers 52 = .ok (.iadd, 1) := by decide +kernel
theorem d_Mo_readNumbers_53 : decode c_Mo_readNumbers 53 = .ok (.aload_n 0, 1) := by decide +kernel
theorem d_Mo_readNumbers_54 : decode c_Mo_readNumbers 54 = .ok (.iconst 2, 1) := by decide +kernel
theorem d_Mo_readNumbers_55 : decode c_Mo_readNumbers 55 = .ok (.invokevirtual 136, 3) := by decide +kernel
theorem d_Mo_readNumbers_58 : decode c_Mo_readNumbers 58 = .ok (.iastore, 1) := by decide +kernel
theorem d_Mo_readNumbers_59 : decode c_Mo_readNumbers 59 = .ok (.aload_n 0, 1) := by decide +kernel
theorem d_Mo_readNumbers_60 : decode c_Mo_readNumbers 60 = .ok (.getfield 50, 3) := by decide +kernel
theorem d_Mo_readNumbers_63 : decode c_Mo_readNumbers 63 = .ok (.iload_n 2, 1) := by decide +kernel
theorem d_Mo_readNumbers_64 : decode c_Mo_readNumbers 64 = .ok (.iconst 3, 1) := by decide +kernel
theorem d_Mo_readNumbers_65 : decode c_Mo_readNumbers 65 = .ok (.iadd, 1) := by decide +kernel
theorem d_Mo_readNumbers_66 : decode c_Mo_readNumbers 66 = .ok (.aload_n 0, 1) := by decide +kernel
theorem d_Mo_readNumbers_67 : decode c_Mo_readNumbers 67 = .ok (.iconst 2, 1) := by decide +kernel
theorem d_Mo_readNumbers_68 : decode c_Mo_readNumbers 68 = .ok (.invokevirtual 136, 3) := by decide +kernel
theorem d_Mo_readNumbers_71 : decode c_Mo_readNumbers 71 = .ok (.iastore, 1) := by decide +kernel
theorem d_Mo_readNumbers_72 : decode c_Mo_readNumbers 72 = .ok (.goto 28, 3) := by decide +kernel
theorem d_Mo_readNumbers_75 : decode c_Mo_readNumbers 75 = .ok (.iload_n 1, 1) := by decide +kernel
theorem d_Mo_readNumbers_76 : decode c_Mo_readNumbers 76 = .ok (.bipush 114, 2) := by decide +kernel
theorem d_Mo_readNumbers_78 : decode c_Mo_readNumbers 78 = .ok (.if_icmp .eq 9, 3) := by decide +kernel
theorem d_Mo_readNumbers_81 : decode c_Mo_readNumbers 81 = .ok (.iload_n 1, 1) := by decide +kernel
theorem d_Mo_readNumbers_82 : decode c_Mo_readNumbers 82 = .ok (.bipush 108, 2) := by decide +kernel
theorem d_Mo_readNumbers_84 : decode c_Mo_readNumbers 84 = .ok (.if_icmp .ne 16, 3) := by decide +kernel
theorem d_Mo_readNumbers_87 : decode c_Mo_readNumbers 87 = .ok (.aload_n 0, 1) := by decide +kernel
theorem d_Mo_readNumbers_88 : decode c_Mo_readNumbers 88 = .ok (.getfield 50, 3) := by decide +kernel
theorem d_Mo_readNumbers_91 : decode c_Mo_readNumbers 91 = .ok (.iload_n 2, 1) := by decide +kernel
theorem d_Mo_readNumbers_92 : decode c_Mo_readNumbers 92 = .ok (.iconst 1, 1) := by decide +kernel
theorem d_Mo_readNumbers_93 : decode c_Mo_readNumbers 93 = .ok (.iadd, 1) := by decide +kernel
theorem d_Mo_readNumbers_94 : decode c_Mo_readNumbers 94 = .ok (.aload_n 0, 1) := by decide +kernel
theorem d_Mo_readNumbers_95 : decode c_Mo_readNumbers 95 = .ok (.iconst 2, 1) := by decide +kernel
theorem d_Mo_readNumbers_96 : decode c_Mo_readNumbers 96 = .ok (.invokevirtual 136, 3) := by decide +kernel
theorem d_Mo_readNumbers_99 : decode c_Mo_readNumbers 99 = .ok (.iastore, 1) := by decide +kernel
theorem d_Mo_readNumbers_100 : decode c_Mo_readNumbers 100 = .ok (.return_, 1) := by decide +kernel
theorem d_Mo_readStatement_0 : decode c_Mo_readStatement 0 = .ok (.aload_n 0, 1) := by decide +kernel
theorem d_Mo_readStatement_1 : decode c_Mo_readStatement 1 = .ok (.getfield 139, 3) := by decide +kernel
theorem d_Mo_readStatement_4 : decode c_Mo_readStatement 4 = .ok (.istore_n 1, 1) := by decide +kernel
theorem d_Mo_readStatement_5 : decode c_Mo_readStatement 5 = .ok (.aload_n 0, 1) := by decide +kernel
theorem d_Mo_readStatement_6 : decode c_Mo_readStatement 6 = .ok (.invokevirtual 128, 3) := by decide +kernel
theorem d_Mo_readStatement_9 : decode c_Mo_readStatement 9 = .ok (.istore_n 2, 1) := by decide +kernel
theorem d_Mo_readStatement_10 : decode c_Mo_readStatement 10 = .ok (.aload_n 0, 1) := by decide +kernel
theorem d_Mo_readStatement_11 : decode c_Mo_readStatement 11 = .ok (.getfield 44, 3) := by decide +kernel
theorem d_Mo_readStatement_14 : decode c_Mo_readStatement 14 = .ok (.iload_n 1, 1) := by decide +kernel
theorem d_Mo_readStatement_15 : decode c_Mo_readStatement 15 = .ok (.aload_n 0, 1) := by decide +kernel
theorem d_Mo_readStatement_16 : decode c_Mo_readStatement 16 = .ok (.getfield 118, 3) := by decide +kernel
theorem d_Mo_readStatement_19 : decode c_Mo_readStatement 19 = .ok (.iastore, 1) := by decide +kernel
theorem d_Mo_readStatement_20 : decode c_Mo_readStatement 20 = .ok (.aload_n 0, 1) := by decide +kernel
theorem d_Mo_readStatement_21 : decode c_Mo_readStatement 21 = .ok (.getfield 47, 3) := by decide +kernel
theorem d_Mo_readStatement_24 : decode c_Mo_readStatement 24 = .ok (.iload_n 1, 1) := by decide +kernel
theorem d_Mo_readStatement_25 : decode c_Mo_readStatement 25 = .ok (.iload_n 2, 1) := by decide +kernel
theorem d_Mo_readStatement_26 : decode c_Mo_readStatement 26 = .ok (.iastore, 1) := by decide +kernel
theorem d_Mo_readStatement_27 : decode c_Mo_readStatement 27 = .ok (.aload_n 0, 1) := by decide +kernel
theorem d_Mo_readStatement_28 : decode c_Mo_readStatement 28 = .ok (.aload_n 0, 1) := by decide +kernel
theorem d_Mo_readStatement_29 : decode c_Mo_readStatement 29 = .ok (.getfield 124, 3) := by decide +kernel
theorem d_Mo_readStatement_32 : decode c_Mo_readStatement 32 = .ok (.ifCond .ne 10, 3) := by decide +kernel
theorem d_Mo_readStatement_35 : decode c_Mo_readStatement 35 = .ok (.iload_n 2, 1) := by decide +kernel
theorem d_Mo_readStatement_36 : decode c_Mo_readStatement 36 = .ok (.invokestatic 142, 3) := by decide +kernel
theorem d_Mo_readStatement_39 : decode c_Mo_readStatement 39 = .ok (.ifCond .ne 7, 3) := by decide +kernel
theorem d_Mo_readStatement_42 : decode c_Mo_readStatement 42 = .ok (.iconst 1, 1) := by decide +kernel
theorem d_Mo_readStatement_43 : decode c_Mo_readStatement 43 = .ok (.goto 4, 3) := by decide +kernel
theorem d_Mo_readStatement_46 : decode c_Mo_readStatement 46 = .ok (.iconst 0, 1) := by decide +kernel
theorem d_Mo_readStatement_47 : decode c_Mo_readStatement 47 = .ok (.putfield 124, 3) := by decide +kernel
theorem d_Mo_readStatement_50 : decode c_Mo_readStatement 50 = .ok (.aload_n 0, 1) := by decide +kernel
theorem d_Mo_readStatement_51 : decode c_Mo_readStatement 51 = .ok (.dup, 1) := by decide +kernel
theorem d_Mo_readStatement_52 : decode c_Mo_readStatement 52 = .ok (.getfield 118, 3) := by decide +kernel
theorem d_Mo_readStatement_55 : decode c_Mo_readStatement 55 = .ok (.aload_n 0, 1) := by decide +kernel
theorem d_Mo_readStatement_56 : decode c_Mo_readStatement 56 = .ok (.getfield 124, 3) := by decide +kernel
theorem d_Mo_readStatement_59 : decode c_Mo_readStatement 59 = .ok (.ifCond .eq 7, 3) := by decide +kernel
theorem d_Mo_readStatement_62 : decode c_Mo_readStatement 62 = .ok (.iconst 0, 1) := by decide +kernel
theorem d_Mo_readStatement_63 : decode c_Mo_readStatement 63 = .ok (.goto 4, 3) := by decide +kernel
theorem d_Mo_readStatement_66 : decode c_Mo_readStatement 66 = .ok (.iconst 1, 1) := by decide +kernel
theorem d_Mo_readStatement_67 : decode c_Mo_readStatement 67 = .ok (.iadd, 1) := by decide +kernel
theorem d_Mo_readStatement_68 : decode c_Mo_readStatement 68 = .ok (.putfield 118, 3) := by decide +kernel
theorem d_Mo_readStatement_71 : decode c_Mo_readStatement 71 = .ok (.aload_n 0, 1) := by decide +kernel
theorem d_Mo_readStatement_72 : decode c_Mo_readStatement 72 = .ok (.getfield 124, 3) := by decide +kernel
theorem d_Mo_readStatement_75 : decode c_Mo_readStatement 75 = .ok (.ifCond .ne 11, 3) := by decide +kernel
theorem d_Mo_readStatement_78 : decode c_Mo_readStatement 78 = .ok (.aload_n 0, 1) := by decide +kernel
theorem d_Mo_readStatement_79 : decode c_Mo_readStatement 79 = .ok (.iload_n 2, 1) := by decide +kernel
theorem d_Mo_readStatement_80 : decode c_Mo_readStatement 80 = .ok (.iconst 4, 1) := by decide +kernel
theorem d_Mo_readStatement_81 : decode c_Mo_readStatement 81 = .ok (.iload_n 1, 1) := by decide +kernel
theorem d_Mo_readStatement_82 : decode c_Mo_readStatement 82 = .ok (.imul, 1) := by decide +kernel
theorem d_Mo_readStatement_83 : decode c_Mo_readStatement 83 = .ok (.invokevirtual 146, 3) := by decide +kernel
theorem d_Mo_readStatement_86 : decode c_Mo_readStatement 86 = .ok (.aload_n 0, 1) := by decide +kernel
theorem d_Mo_readStatement_87 : decode c_Mo_readStatement 87 = .ok (.aload_n 0, 1) := by decide +kernel
theorem d_Mo_readStatement_88 : decode c_Mo_readStatement 88 = .ok (.getfield 124, 3) := by decide +kernel
theorem d_Mo_readStatement_91 : decode c_Mo_readStatement 91 = .ok (.ifCond .ne 12, 3) := by decide +kernel
theorem d_Mo_readStatement_94 : decode c_Mo_readStatement 94 = .ok (.aload_n 0, 1) := by decide +kernel
theorem d_Mo_readStatement_95 : decode c_Mo_readStatement 95 = .ok (.invokevirtual 128, 3) := by decide +kernel
theorem d_Mo_readStatement_98 : decode c_Mo_readStatement 98 = .ok (.bipush 59, 2) := by decide +kernel
theorem d_Mo_readStatement_100 : decode c_Mo_readStatement 100 = .ok (.if_icmp .eq 7, 3) := by decide +kernel
theorem d_Mo_readStatement_103 : decode c_Mo_readStatement 103 = .ok (.iconst 1, 1) := by decide +kernel
theorem d_Mo_readStatement_104 : decode c_Mo_readStatement 104 = .ok (.goto 4, 3) := by decide +kernel
theorem d_Mo_readStatement_107 : decode c_Mo_readStatement 107 = .ok (.iconst 0, 1) := by decide +kernel
theorem d_Mo_readStatement_108 : decode c_Mo_readStatement 108 = .ok (.putfield 124, 3) := by decide +kernel
theorem d_Mo_readStatement_111 : decode c_Mo_readStatement 111 = .ok (.aload_n 0, 1) := by decide +kernel
theorem d_Mo_readStatement_112 : decode c_Mo_readStatement 112 = .ok (.dup, 1) := by decide +kernel
theorem d_Mo_readStatement_113 : decode c_Mo_readStatement 113 = .ok (.getfield 118, 3) := by decide +kernel
theorem d_Mo_readStatement_116 : decode c_Mo_readStatement 116 = .ok (.aload_n 0, 1) := by decide +kernel
theorem d_Mo_readStatement_117 : decode c_Mo_readStatement 117 = .ok (.getfield 124, 3) := by decide +kernel
theorem d_Mo_readStatement_120 : decode c_Mo_readStatement 120 = .ok (.ifCond .eq 7, 3) := by decide +kernel
theorem d_Mo_readStatement_123 : decode c_Mo_readStatement 123 = .ok (.iconst 0, 1) := by decide +kernel
theorem d_Mo_readStatement_124 : decode c_Mo_readStatement 124 = .ok (.goto 4, 3) := by decide +kernel
theorem d_Mo_readStatement_127 : decode c_Mo_readStatement 127 = .ok (.iconst 1, 1) := by decide +kernel
theorem d_Mo_readStatement_128 : decode c_Mo_readStatement 128 = .ok (.iadd, 1) := by decide +kernel
theorem d_Mo_readStatement_129 : decode c_Mo_readStatement 129 = .ok (.putfield 118, 3) := by decide +kernel
theorem d_Mo_readStatement_132 : decode c_Mo_readStatement 132 = .ok (.aload_n 0, 1) := by decide +kernel
theorem d_Mo_readStatement_133 : decode c_Mo_readStatement 133 = .ok (.dup, 1) := by decide +kernel
theorem d_Mo_readStatement_134 : decode c_Mo_readStatement 134 = .ok (.getfield 139, 3) := by decide +kernel
theorem d_Mo_readStatement_137 : decode c_Mo_readStatement 137 = .ok (.iconst 1, 1) := by decide +kernel
theorem d_Mo_readStatement_138 : decode c_Mo_readStatement 138 = .ok (.iadd, 1) := by decide +kernel
theorem d_Mo_readStatement_139 : decode c_Mo_readStatement 139 = .ok (.putfield 139, 3) := by decide +kernel
theorem d_Mo_readStatement_142 : decode c_Mo_readStatement 142 = .ok (.return_, 1) := by decide +kernel
theorem d_Mo_horseComes_0 : decode c_Mo_horseComes 0 = .ok (.iload_n 1, 1) := by decide +kernel
theorem d_Mo_horseComes_1 : decode c_Mo_horseComes 1 = .ok (.bipush 8, 2) := by decide +kernel
theorem d_Mo_horseComes_3 : decode c_Mo_horseComes 3 = .ok (.if_icmp .ge 31, 3) := by decide +kernel
theorem d_Mo_horseComes_6 : decode c_Mo_horseComes 6 = .ok (.iload_n 3, 1) := by decide +kernel
theorem d_Mo_horseComes_7 : decode c_Mo_horseComes 7 = .ok (.invokestatic 149, 3) := by decide +kernel
theorem d_Mo_horseComes_10 : decode c_Mo_horseComes 10 = .ok (.ifCond .eq 24, 3) := by decide +kernel
theorem d_Mo_horseComes_13 : decode c_Mo_horseComes 13 = .ok (.iload 4, 2) := by decide +kernel
theorem d_Mo_horseComes_15 : decode c_Mo_horseComes 15 = .ok (.invokestatic 149, 3) := by decide +kernel
theorem d_Mo_horseComes_18 : decode c_Mo_horseComes 18 = .ok (.ifCond .eq 16, 3) := by decide +kernel
theorem d_Mo_horseComes_21 : decode c_Mo_horseComes 21 = .ok (.aload_n 0, 1) := by decide +kernel
theorem d_Mo_horseComes_22 : decode c_Mo_horseComes 22 = .ok (.getfield 81, 3) := by decide +kernel
theorem d_Mo_horseComes_25 : decode c_Mo_horseComes 25 = .ok (.bipush 7, 2) := by decide +kernel
theorem d_Mo_horseComes_27 : decode c_Mo_horseComes 27 = .ok (.if_icmp .ge 7, 3) := by decide +kernel
theorem d_Mo_horseComes_30 : decode c_Mo_horseComes 30 = .ok (.iconst 1, 1) := by decide +kernel
theorem d_Mo_horseComes_31 : decode c_Mo_horseComes 31 = .ok (.goto 4, 3) := by decide +kernel
theorem d_Mo_horseComes_34 : decode c_Mo_horseComes 34 = .ok (.iconst 0, 1) := by decide +kernel
theorem d_Mo_horseComes_35 : decode c_Mo_horseComes 35 = .ok (.istore 5, 2) := by decide +kernel
theorem d_Mo_horseComes_37 : decode c_Mo_horseComes 37 = .ok (.iload 5, 2) := by decide +kernel
theorem d_Mo_horseComes_39 : decode c_Mo_horseComes 39 = .ok (.ifCond .eq 64, 3) := by decide +kernel
theorem d_Mo_horseComes_42 : decode c_Mo_horseComes 42 = .ok (.aload_n 0, 1) := by decide +kernel
theorem d_Mo_horseComes_43 : decode c_Mo_horseComes 43 = .ok (.getfield 7, 3) := by decide +kernel
theorem d_Mo_horseComes_46 : decode c_Mo_horseComes 46 = .ok (.aload_n 0, 1) := by decide +kernel
theorem d_Mo_horseComes_47 : decode c_Mo_horseComes 47 = .ok (.getfield 81, 3) := by decide +kernel
theorem d_Mo_horseComes_50 : decode c_Mo_horseComes 50 = .ok (.iload_n 1, 1) := by decide +kernel
theorem d_Mo_horseComes_51 : decode c_Mo_horseComes 51 = .ok (.iastore, 1) := by decide +kernel
theorem d_Mo_horseComes_52 : decode c_Mo_horseComes 52 = .ok (.aload_n 0, 1) := by decide +kernel
theorem d_Mo_horseComes_53 : decode c_Mo_horseComes 53 = .ok (.getfield 13, 3) := by decide +kernel
theorem d_Mo_horseComes_56 : decode c_Mo_horseComes 56 = .ok (.aload_n 0, 1) := by decide +kernel
theorem d_Mo_horseComes_57 : decode c_Mo_horseComes 57 = .ok (.getfield 81, 3) := by decide +kernel
theorem d_Mo_horseComes_60 : decode c_Mo_horseComes 60 = .ok (.iload_n 2, 1) := by decide +kernel
theorem d_Mo_horseComes_61 : decode c_Mo_horseComes 61 = .ok (.iastore, 1) := by decide +kernel
theorem d_Mo_horseComes_62 : decode c_Mo_horseComes 62 = .ok (.aload_n 0, 1) := by decide +kernel
theorem d_Mo_horseComes_63 : decode c_Mo_horseComes 63 = .ok (.getfield 16, 3) := by decide +kernel
theorem d_Mo_horseComes_66 : decode c_Mo_horseComes 66 = .ok (.aload_n 0, 1) := by decide +kernel
theorem d_Mo_horseComes_67 : decode c_Mo_horseComes 67 = .ok (.getfield 81, 3) := by decide +kernel
theorem d_Mo_horseComes_70 : decode c_Mo_horseComes 70 = .ok (.iload_n 3, 1) := by decide +kernel
theorem d_Mo_horseComes_71 : decode c_Mo_horseComes 71 = .ok (.iastore, 1) := by decide +kernel
theorem d_Mo_horseComes_72 : decode c_Mo_horseComes 72 = .ok (.aload_n 0, 1) := by decide +kernel
theorem d_Mo_horseComes_73 : decode c_Mo_horseComes 73 = .ok (.getfield 19, 3) := by decide +kernel
theorem d_Mo_horseComes_76 : decode c_Mo_horseComes 76 = .ok (.aload_n 0, 1) := by decide +kernel
theorem d_Mo_horseComes_77 : decode c_Mo_horseComes 77 = .ok (.getfield 81, 3) := by decide +kernel
theorem d_Mo_horseComes_80 : decode c_Mo_horseComes 80 = .ok (.iload 4, 2) := by decide +kernel
theorem d_Mo_horseComes_82 : decode c_Mo_horseComes 82 = .ok (.iastore, 1) := by decide +kernel
theorem d_Mo_horseComes_83 : decode c_Mo_horseComes 83 = .ok (.aload_n 0, 1) := by decide +kernel
theorem d_Mo_horseComes_84 : decode c_Mo_horseComes 84 = .ok (.getfield 22, 3) := by decide +kernel
theorem d_Mo_horseComes_87 : decode c_Mo_horseComes 87 = .ok (.aload_n 0, 1) := by decide +kernel
theorem d_Mo_horseComes_88 : decode c_Mo_horseComes 88 = .ok (.getfield 81, 3) := by decide +kernel
theorem d_Mo_horseComes_91 : decode c_Mo_horseComes 91 = .ok (.iconst 0, 1) := by decide +kernel
theorem d_Mo_horseComes_92 : decode c_Mo_horseComes 92 = .ok (.iastore, 1) := by decide +kernel
theorem d_Mo_horseComes_93 : decode c_Mo_horseComes 93 = .ok (.aload_n 0, 1) := by decide +kernel
theorem d_Mo_horseComes_94 : decode c_Mo_horseComes 94 = .ok (.dup, 1) := by decide +kernel
theorem d_Mo_horseComes_95 : decode c_Mo_horseComes 95 = .ok (.getfield 81, 3) := by decide +kernel
theorem d_Mo_horseComes_98 : decode c_Mo_horseComes 98 = .ok (.iconst 1, 1) := by decide +kernel
theorem d_Mo_horseComes_99 : decode c_Mo_horseComes 99 = .ok (.iadd, 1) := by decide +kernel
theorem d_Mo_horseComes_100 : decode c_Mo_horseComes 100 = .ok (.putfield 81, 3) := by decide +kernel
theorem d_Mo_horseComes_103 : decode c_Mo_horseComes 103 = .ok (.iload 5, 2) := by decide +kernel
theorem d_Mo_horseComes_105 : decode c_Mo_horseComes 105 = .ok (.ireturn, 1) := by decide +kernel
theorem d_Mo_daysCome_0 : decode c_Mo_daysCome 0 = .ok (.iload_n 1, 1) := by decide +kernel
theorem d_Mo_daysCome_1 : decode c_Mo_daysCome 1 = .ok (.i2l, 1) := by decide +kernel
theorem d_Mo_daysCome_2 : decode c_Mo_daysCome 2 = .ok (.lconst 1, 1) := by decide +kernel
theorem d_Mo_daysCome_3 : decode c_Mo_daysCome 3 = .ok (.ldc2_w 152, 3) := by decide +kernel
theorem d_Mo_daysCome_6 : decode c_Mo_daysCome 6 = .ok (.invokestatic 77, 3) := by decide +kernel
theorem d_Mo_daysCome_9 : decode c_Mo_daysCome 9 = .ok (.ifCond .eq 19, 3) := by decide +kernel
theorem d_Mo_daysCome_12 : decode c_Mo_daysCome 12 = .ok (.aload_n 0, 1) := by decide +kernel
theorem d_Mo_daysCome_13 : decode c_Mo_daysCome 13 = .ok (.getfield 95, 3) := by decide +kernel
theorem d_Mo_daysCome_16 : decode c_Mo_daysCome 16 = .ok (.iload_n 1, 1) := by decide +kernel
theorem d_Mo_daysCome_17 : decode c_Mo_daysCome 17 = .ok (.iadd, 1) := by decide +kernel
theorem d_Mo_daysCome_18 : decode c_Mo_daysCome 18 = .ok (.sipush 999, 3) := by decide +kernel
theorem d_Mo_daysCome_21 : decode c_Mo_daysCome 21 = .ok (.if_icmp .gt 7, 3) := by decide +kernel
theorem d_Mo_daysCome_24 : decode c_Mo_daysCome 24 = .ok (.iconst 1, 1) := by decide +kernel
theorem d_Mo_daysCome_25 : decode c_Mo_daysCome 25 = .ok (.goto 4, 3) := by decide +kernel
theorem d_Mo_daysCome_28 : decode c_Mo_daysCome 28 = .ok (.iconst 0, 1) := by decide +kernel
theorem d_Mo_daysCome_29 : decode c_Mo_daysCome 29 = .ok (.istore_n 2, 1) := by decide +kernel
theorem d_Mo_daysCome_30 : decode c_Mo_daysCome 30 = .ok (.iload_n 2, 1) := by decide +kernel
theorem d_Mo_daysCome_31 : decode c_Mo_daysCome 31 = .ok (.ifCond .eq 8, 3) := by decide +kernel
theorem d_Mo_daysCome_34 : decode c_Mo_daysCome 34 = .ok (.aload_n 0, 1) := by decide +kernel
theorem d_Mo_daysCome_35 : decode c_Mo_daysCome 35 = .ok (.iload_n 1, 1) := by decide +kernel
theorem d_Mo_daysCome_36 : decode c_Mo_daysCome 36 = .ok (.invokevirtual 154, 3) := by decide +kernel
theorem d_Mo_daysCome_39 : decode c_Mo_daysCome 39 = .ok (.iload_n 2, 1) := by decide +kernel
theorem d_Mo_daysCome_40 : decode c_Mo_daysCome 40 = .ok (.ireturn, 1) := by decide +kernel
theorem d_Mo_comesTold_0 : decode c_Mo_comesTold 0 = .ok (.aload_n 0, 1) := by decide +kernel
theorem d_Mo_comesTold_1 : decode c_Mo_comesTold 1 = .ok (.getfield 50, 3) := by decide +kernel
theorem d_Mo_comesTold_4 : decode c_Mo_comesTold 4 = .ok (.iconst 4, 1) := by decide +kernel
theorem d_Mo_comesTold_5 : decode c_Mo_comesTold 5 = .ok (.iload_n 1, 1) := by decide +kernel
theorem d_Mo_comesTold_6 : decode c_Mo_comesTold 6 = .ok (.imul, 1) := by decide +kernel
theorem d_Mo_comesTold_7 : decode c_Mo_comesTold 7 = .ok (.iaload, 1) := by decide +kernel
theorem d_Mo_comesTold_8 : decode c_Mo_comesTold 8 = .ok (.istore_n 2, 1) := by decide +kernel
theorem d_Mo_comesTold_9 : decode c_Mo_comesTold 9 = .ok (.aload_n 0, 1) := by decide +kernel
theorem d_Mo_comesTold_10 : decode c_Mo_comesTold 10 = .ok (.getfield 50, 3) := by decide +kernel
theorem d_Mo_comesTold_13 : decode c_Mo_comesTold 13 = .ok (.iconst 4, 1) := by decide +kernel
theorem d_Mo_comesTold_14 : decode c_Mo_comesTold 14 = .ok (.iload_n 1, 1) := by decide +kernel
theorem d_Mo_comesTold_15 : decode c_Mo_comesTold 15 = .ok (.imul, 1) := by decide +kernel
theorem d_Mo_comesTold_16 : decode c_Mo_comesTold 16 = .ok (.iconst 1, 1) := by decide +kernel
theorem d_Mo_comesTold_17 : decode c_Mo_comesTold 17 = .ok (.iadd, 1) := by decide +kernel
theorem d_Mo_comesTold_18 : decode c_Mo_comesTold 18 = .ok (.iaload, 1) := by decide +kernel
theorem d_Mo_comesTold_19 : decode c_Mo_comesTold 19 = .ok (.istore_n 3, 1) := by decide +kernel
theorem d_Mo_comesTold_20 : decode c_Mo_comesTold 20 = .ok (.iconst 1, 1) := by decide +kernel
theorem d_Mo_comesTold_21 : decode c_Mo_comesTold 21 = .ok (.istore 4, 2) := by decide +kernel
theorem d_Mo_comesTold_23 : decode c_Mo_comesTold 23 = .ok (.aload_n 0, 1) := by decide +kernel
theorem d_Mo_comesTold_24 : decode c_Mo_comesTold 24 = .ok (.getfield 47, 3) := by decide +kernel
theorem d_Mo_comesTold_27 : decode c_Mo_comesTold 27 = .ok (.iload_n 1, 1) := by decide +kernel
theorem d_Mo_comesTold_28 : decode c_Mo_comesTold 28 = .ok (.iaload, 1) := by decide +kernel
theorem d_Mo_comesTold_29 : decode c_Mo_comesTold 29 = .ok (.lookupswitch 142 #[(100, 136), (104, 43), (111, 110), (114, 70)], 43) := by decide +kernel
theorem d_Mo_comesTold_72 : decode c_Mo_comesTold 72 = .ok (.aload_n 0, 1) := by decide +kernel
theorem d_Mo_comesTold_73 : decode c_Mo_comesTold 73 = .ok (.iload_n 2, 1) := by decide +kernel
theorem d_Mo_comesTold_74 : decode c_Mo_comesTold 74 = .ok (.iload_n 3, 1) := by decide +kernel
theorem d_Mo_comesTold_75 : decode c_Mo_comesTold 75 = .ok (.aload_n 0, 1) := by decide +kernel
theorem d_Mo_comesTold_76 : decode c_Mo_comesTold 76 = .ok (.getfield 50, 3) := by decide +kernel
theorem d_Mo_comesTold_79 : decode c_Mo_comesTold 79 = .ok (.iconst 4, 1) := by decide +kernel
theorem d_Mo_comesTold_80 : decode c_Mo_comesTold 80 = .ok (.iload_n 1, 1) := by decide +kernel
theorem d_Mo_comesTold_81 : decode c_Mo_comesTold 81 = .ok (.imul, 1) := by decide +kernel
theorem d_Mo_comesTold_82 : decode c_Mo_comesTold 82 = .ok (.iconst 2, 1) := by decide +kernel
theorem d_Mo_comesTold_83 : decode c_Mo_comesTold 83 = .ok (.iadd, 1) := by decide +kernel
theorem d_Mo_comesTold_84 : decode c_Mo_comesTold 84 = .ok (.iaload, 1) := by decide +kernel
theorem d_Mo_comesTold_85 : decode c_Mo_comesTold 85 = .ok (.aload_n 0, 1) := by decide +kernel
theorem d_Mo_comesTold_86 : decode c_Mo_comesTold 86 = .ok (.getfield 50, 3) := by decide +kernel
theorem d_Mo_comesTold_89 : decode c_Mo_comesTold 89 = .ok (.iconst 4, 1) := by decide +kernel
theorem d_Mo_comesTold_90 : decode c_Mo_comesTold 90 = .ok (.iload_n 1, 1) := by decide +kernel
theorem d_Mo_comesTold_91 : decode c_Mo_comesTold 91 = .ok (.imul, 1) := by decide +kernel
theorem d_Mo_comesTold_92 : decode c_Mo_comesTold 92 = .ok (.iconst 3, 1) := by decide +kernel
theorem d_Mo_comesTold_93 : decode c_Mo_comesTold 93 = .ok (.iadd, 1) := by decide +kernel
theorem d_Mo_comesTold_94 : decode c_Mo_comesTold 94 = .ok (.iaload, 1) := by decide +kernel
theorem d_Mo_comesTold_95 : decode c_Mo_comesTold 95 = .ok (.invokevirtual 158, 3) := by decide +kernel
theorem d_Mo_comesTold_98 : decode c_Mo_comesTold 98 = .ok (.ireturn, 1) := by decide +kernel
theorem d_Mo_comesTold_99 : decode c_Mo_comesTold 99 = .ok (.aload_n 0, 1) := by decide +kernel
theorem d_Mo_comesTold_100 : decode c_Mo_comesTold 100 = .ok (.iload_n 2, 1) := by decide +kernel
theorem d_Mo_comesTold_101 : decode c_Mo_comesTold 101 = .ok (.invokevirtual 162, 3) := by decide +kernel
theorem d_Mo_comesTold_104 : decode c_Mo_comesTold 104 = .ok (.ifCond .eq 10, 3) := by decide +kernel
theorem d_Mo_comesTold_107 : decode c_Mo_comesTold 107 = .ok (.iload_n 3, 1) := by decide +kernel
theorem d_Mo_comesTold_108 : decode c_Mo_comesTold 108 = .ok (.invokestatic 149, 3) := by decide +kernel
theorem d_Mo_comesTold_111 : decode c_Mo_comesTold 111 = .ok (.ifCond .ne 5, 3) := by decide +kernel
theorem d_Mo_comesTold_114 : decode c_Mo_comesTold 114 = .ok (.iconst 0, 1) := by decide +kernel
theorem d_Mo_comesTold_115 : decode c_Mo_comesTold 115 = .ok (.ireturn, 1) := by decide +kernel
theorem d_Mo_comesTold_116 : decode c_Mo_comesTold 116 = .ok (.aload_n 0, 1) := by decide +kernel
theorem d_Mo_comesTold_117 : decode c_Mo_comesTold 117 = .ok (.iload_n 2, 1) := by decide +kernel
theorem d_Mo_comesTold_118 : decode c_Mo_comesTold 118 = .ok (.iload_n 3, 1) := by decide +kernel
theorem d_Mo_comesTold_119 : decode c_Mo_comesTold 119 = .ok (.invokevirtual 165, 3) := by decide +kernel
theorem d_Mo_comesTold_122 : decode c_Mo_comesTold 122 = .ok (.pop, 1) := by decide +kernel
theorem d_Mo_comesTold_123 : decode c_Mo_comesTold 123 = .ok (.aload_n 0, 1) := by decide +kernel
theorem d_Mo_comesTold_124 : decode c_Mo_comesTold 124 = .ok (.getfield 95, 3) := by decide +kernel
theorem d_Mo_comesTold_127 : decode c_Mo_comesTold 127 = .ok (.sipush 999, 3) := by decide +kernel
theorem d_Mo_comesTold_130 : decode c_Mo_comesTold 130 = .ok (.if_icmp .gt 7, 3) := by decide +kernel
theorem d_Mo_comesTold_133 : decode c_Mo_comesTold 133 = .ok (.iconst 1, 1) := by decide +kernel
theorem d_Mo_comesTold_134 : decode c_Mo_comesTold 134 = .ok (.goto 4, 3) := by decide +kernel
theorem d_Mo_comesTold_137 : decode c_Mo_comesTold 137 = .ok (.iconst 0, 1) := by decide +kernel
theorem d_Mo_comesTold_138 : decode c_Mo_comesTold 138 = .ok (.ireturn, 1) := by decide +kernel
theorem d_Mo_comesTold_139 : decode c_Mo_comesTold 139 = .ok (.iload_n 2, 1) := by decide +kernel
theorem d_Mo_comesTold_140 : decode c_Mo_comesTold 140 = .ok (.invokestatic 149, 3) := by decide +kernel
theorem d_Mo_comesTold_143 : decode c_Mo_comesTold 143 = .ok (.istore 4, 2) := by decide +kernel
theorem d_Mo_comesTold_145 : decode c_Mo_comesTold 145 = .ok (.aload_n 0, 1) := by decide +kernel
theorem d_Mo_comesTold_146 : decode c_Mo_comesTold 146 = .ok (.iload 4, 2) := by decide +kernel
theorem d_Mo_comesTold_148 : decode c_Mo_comesTold 148 = .ok (.ifCond .eq 7, 3) := by decide +kernel
theorem d_Mo_comesTold_151 : decode c_Mo_comesTold 151 = .ok (.iload_n 2, 1) := by decide +kernel
theorem d_Mo_comesTold_152 : decode c_Mo_comesTold 152 = .ok (.goto 7, 3) := by decide +kernel
theorem d_Mo_comesTold_155 : decode c_Mo_comesTold 155 = .ok (.aload_n 0, 1) := by decide +kernel
theorem d_Mo_comesTold_156 : decode c_Mo_comesTold 156 = .ok (.getfield 88, 3) := by decide +kernel
theorem d_Mo_comesTold_159 : decode c_Mo_comesTold 159 = .ok (.putfield 88, 3) := by decide +kernel
theorem d_Mo_comesTold_162 : decode c_Mo_comesTold 162 = .ok (.iload 4, 2) := by decide +kernel
theorem d_Mo_comesTold_164 : decode c_Mo_comesTold 164 = .ok (.ireturn, 1) := by decide +kernel
theorem d_Mo_comesTold_165 : decode c_Mo_comesTold 165 = .ok (.aload_n 0, 1) := by decide +kernel
theorem d_Mo_comesTold_166 : decode c_Mo_comesTold 166 = .ok (.iload_n 2, 1) := by decide +kernel
theorem d_Mo_comesTold_167 : decode c_Mo_comesTold 167 = .ok (.invokevirtual 168, 3) := by decide +kernel
theorem d_Mo_comesTold_170 : decode c_Mo_comesTold 170 = .ok (.ireturn, 1) := by decide +kernel
theorem d_Mo_comesTold_171 : decode c_Mo_comesTold 171 = .ok (.aload_n 0, 1) := by decide +kernel
theorem d_Mo_comesTold_172 : decode c_Mo_comesTold 172 = .ok (.iload_n 2, 1) := by decide +kernel
theorem d_Mo_comesTold_173 : decode c_Mo_comesTold 173 = .ok (.invokevirtual 162, 3) := by decide +kernel
theorem d_Mo_comesTold_176 : decode c_Mo_comesTold 176 = .ok (.istore 4, 2) := by decide +kernel
theorem d_Mo_comesTold_178 : decode c_Mo_comesTold 178 = .ok (.iload 4, 2) := by decide +kernel
theorem d_Mo_comesTold_180 : decode c_Mo_comesTold 180 = .ok (.ifCond .eq 10, 3) := by decide +kernel
theorem d_Mo_comesTold_183 : decode c_Mo_comesTold 183 = .ok (.aload_n 0, 1) := by decide +kernel
theorem d_Mo_comesTold_184 : decode c_Mo_comesTold 184 = .ok (.getfield 22, 3) := by decide +kernel
theorem d_Mo_comesTold_187 : decode c_Mo_comesTold 187 = .ok (.iload_n 2, 1) := by decide +kernel
theorem d_Mo_comesTold_188 : decode c_Mo_comesTold 188 = .ok (.iload_n 3, 1) := by decide +kernel
theorem d_Mo_comesTold_189 : decode c_Mo_comesTold 189 = .ok (.iastore, 1) := by decide +kernel
theorem d_Mo_comesTold_190 : decode c_Mo_comesTold 190 = .ok (.iload 4, 2) := by decide +kernel
theorem d_Mo_comesTold_192 : decode c_Mo_comesTold 192 = .ok (.ireturn, 1) := by decide +kernel
theorem d_Mo_land_0 : decode c_Mo_land 0 = .ok (.aload_n 0, 1) := by decide +kernel
theorem d_Mo_land_1 : decode c_Mo_land 1 = .ok (.iconst 0, 1) := by decide +kernel
theorem d_Mo_land_2 : decode c_Mo_land 2 = .ok (.putfield 71, 3) := by decide +kernel
theorem d_Mo_land_5 : decode c_Mo_land 5 = .ok (.aload_n 0, 1) := by decide +kernel
theorem d_Mo_land_6 : decode c_Mo_land 6 = .ok (.iload_n 1, 1) := by decide +kernel
theorem d_Mo_land_7 : decode c_Mo_land 7 = .ok (.invokevirtual 171, 3) := by decide +kernel
theorem d_Mo_land_10 : decode c_Mo_land 10 = .ok (.istore_n 2, 1) := by decide +kernel
theorem d_Mo_land_11 : decode c_Mo_land 11 = .ok (.iload_n 2, 1) := by decide +kernel
theorem d_Mo_land_12 : decode c_Mo_land 12 = .ok (.ifCond .ne 17, 3) := by decide +kernel
theorem d_Mo_land_15 : decode c_Mo_land 15 = .ok (.aload_n 0, 1) := by decide +kernel
theorem d_Mo_land_16 : decode c_Mo_land 16 = .ok (.getfield 34, 3) := by decide +kernel
theorem d_Mo_land_19 : decode c_Mo_land 19 = .ok (.iload_n 1, 1) := by decide +kernel
theorem d_Mo_land_20 : decode c_Mo_land 20 = .ok (.iaload, 1) := by decide +kernel
theorem d_Mo_land_21 : decode c_Mo_land 21 = .ok (.ifCond .eq 8, 3) := by decide +kernel
theorem d_Mo_land_24 : decode c_Mo_land 24 = .ok (.bipush (-12), 2) := by decide +kernel
theorem d_Mo_land_26 : decode c_Mo_land 26 = .ok (.goto 4, 3) := by decide +kernel
theorem d_Mo_land_29 : decode c_Mo_land 29 = .ok (.iload_n 2, 1) := by decide +kernel
theorem d_Mo_land_30 : decode c_Mo_land 30 = .ok (.istore_n 2, 1) := by decide +kernel
theorem d_Mo_land_31 : decode c_Mo_land 31 = .ok (.iload_n 2, 1) := by decide +kernel
theorem d_Mo_land_32 : decode c_Mo_land 32 = .ok (.ifCond .ge 5, 3) := by decide +kernel
theorem d_Mo_land_35 : decode c_Mo_land 35 = .ok (.iload_n 2, 1) := by decide +kernel
theorem d_Mo_land_36 : decode c_Mo_land 36 = .ok (.ireturn, 1) := by decide +kernel
theorem d_Mo_land_37 : decode c_Mo_land 37 = .ok (.aload_n 0, 1) := by decide +kernel
theorem d_Mo_land_38 : decode c_Mo_land 38 = .ok (.iload_n 1, 1) := by decide +kernel
theorem d_Mo_land_39 : decode c_Mo_land 39 = .ok (.putfield 121, 3) := by decide +kernel
theorem d_Mo_land_42 : decode c_Mo_land 42 = .ok (.aload_n 0, 1) := by decide +kernel
theorem d_Mo_land_43 : decode c_Mo_land 43 = .ok (.iconst 0, 1) := by decide +kernel
theorem d_Mo_land_44 : decode c_Mo_land 44 = .ok (.putfield 118, 3) := by decide +kernel
theorem d_Mo_land_47 : decode c_Mo_land 47 = .ok (.aload_n 0, 1) := by decide +kernel
theorem d_Mo_land_48 : decode c_Mo_land 48 = .ok (.iconst 0, 1) := by decide +kernel
theorem d_Mo_land_49 : decode c_Mo_land 49 = .ok (.putfield 124, 3) := by decide +kernel
theorem d_Mo_land_52 : decode c_Mo_land 52 = .ok (.aload_n 0, 1) := by decide +kernel
theorem d_Mo_land_53 : decode c_Mo_land 53 = .ok (.iconst 0, 1) := by decide +kernel
theorem d_Mo_land_54 : decode c_Mo_land 54 = .ok (.putfield 139, 3) := by decide +kernel
theorem d_Mo_land_57 : decode c_Mo_land 57 = .ok (.aload_n 0, 1) := by decide +kernel
theorem d_Mo_land_58 : decode c_Mo_land 58 = .ok (.getfield 124, 3) := by decide +kernel
theorem d_Mo_land_61 : decode c_Mo_land 61 = .ok (.ifCond .ne 30, 3) := by decide +kernel
theorem d_Mo_land_64 : decode c_Mo_land 64 = .ok (.aload_n 0, 1) := by decide +kernel
theorem d_Mo_land_65 : decode c_Mo_land 65 = .ok (.getfield 139, 3) := by decide +kernel
theorem d_Mo_land_68 : decode c_Mo_land 68 = .ok (.ifCond .eq 16, 3) := by decide +kernel
theorem d_Mo_land_71 : decode c_Mo_land 71 = .ok (.aload_n 0, 1) := by decide +kernel
theorem d_Mo_land_72 : decode c_Mo_land 72 = .ok (.getfield 118, 3) := by decide +kernel
theorem d_Mo_land_75 : decode c_Mo_land 75 = .ok (.aload_n 0, 1) := by decide +kernel
theorem d_Mo_land_76 : decode c_Mo_land 76 = .ok (.getfield 37, 3) := by decide +kernel
theorem d_Mo_land_79 : decode c_Mo_land 79 = .ok (.iload_n 1, 1) := by decide +kernel
theorem d_Mo_land_80 : decode c_Mo_land 80 = .ok (.iaload, 1) := by decide +kernel
theorem d_Mo_land_81 : decode c_Mo_land 81 = .ok (.if_icmp .ge 10, 3) := by decide +kernel
theorem d_Mo_land_84 : decode c_Mo_land 84 = .ok (.aload_n 0, 1) := by decide +kernel
theorem d_Mo_land_85 : decode c_Mo_land 85 = .ok (.invokevirtual 174, 3) := by decide +kernel
theorem d_Mo_land_88 : decode c_Mo_land 88 = .ok (.goto (-31), 3) := by decide +kernel
theorem d_Mo_land_91 : decode c_Mo_land 91 = .ok (.aload_n 0, 1) := by decide +kernel
theorem d_Mo_land_92 : decode c_Mo_land 92 = .ok (.getfield 124, 3) := by decide +kernel
theorem d_Mo_land_95 : decode c_Mo_land 95 = .ok (.ifCond .eq 12, 3) := by decide +kernel
theorem d_Mo_land_98 : decode c_Mo_land 98 = .ok (.sipush (-1000), 3) := by decide +kernel
theorem d_Mo_land_101 : decode c_Mo_land 101 = .ok (.aload_n 0, 1) := by decide +kernel
theorem d_Mo_land_102 : decode c_Mo_land 102 = .ok (.getfield 118, 3) := by decide +kernel
theorem d_Mo_land_105 : decode c_Mo_land 105 = .ok (.isub, 1) := by decide +kernel
theorem d_Mo_land_106 : decode c_Mo_land 106 = .ok (.ireturn, 1) := by decide +kernel
theorem d_Mo_land_107 : decode c_Mo_land 107 = .ok (.aload_n 0, 1) := by decide +kernel
theorem d_Mo_land_108 : decode c_Mo_land 108 = .ok (.invokevirtual 177, 3) := by decide +kernel
theorem d_Mo_land_111 : decode c_Mo_land 111 = .ok (.iconst 0, 1) := by decide +kernel
theorem d_Mo_land_112 : decode c_Mo_land 112 = .ok (.istore_n 3, 1) := by decide +kernel
theorem d_Mo_land_113 : decode c_Mo_land 113 = .ok (.iload_n 3, 1) := by decide +kernel
theorem d_Mo_land_114 : decode c_Mo_land 114 = .ok (.aload_n 0, 1) := by decide +kernel
theorem d_Mo_land_115 : decode c_Mo_land 115 = .ok (.getfield 139, 3) := by decide +kernel
theorem d_Mo_land_118 : decode c_Mo_land 118 = .ok (.if_icmp .ge 32, 3) := by decide +kernel
theorem d_Mo_land_121 : decode c_Mo_land 121 = .ok (.aload_n 0, 1) := by decide +kernel
theorem d_Mo_land_122 : decode c_Mo_land 122 = .ok (.iload_n 3, 1) := by decide +kernel
theorem d_Mo_land_123 : decode c_Mo_land 123 = .ok (.invokevirtual 180, 3) := by decide +kernel
theorem d_Mo_land_126 : decode c_Mo_land 126 = .ok (.ifCond .ne 18, 3) := by decide +kernel
theorem d_Mo_land_129 : decode c_Mo_land 129 = .ok (.aload_n 0, 1) := by decide +kernel
theorem d_Mo_land_130 : decode c_Mo_land 130 = .ok (.invokevirtual 183, 3) := by decide +kernel
theorem d_Mo_land_133 : decode c_Mo_land 133 = .ok (.sipush (-2000), 3) := by decide +kernel
theorem d_Mo_land_136 : decode c_Mo_land 136 = .ok (.aload_n 0, 1) := by decide +kernel
theorem d_Mo_land_137 : decode c_Mo_land 137 = .ok (.getfield 44, 3) := by decide +kernel
theorem d_Mo_land_140 : decode c_Mo_land 140 = .ok (.iload_n 3, 1) := by decide +kernel
theorem d_Mo_land_141 : decode c_Mo_land 141 = .ok (.iaload, 1) := by decide +kernel
theorem d_Mo_land_142 : decode c_Mo_land 142 = .ok (.isub, 1) := by decide +kernel
theorem d_Mo_land_143 : decode c_Mo_land 143 = .ok (.ireturn, 1) := by decide +kernel
theorem d_Mo_land_144 : decode c_Mo_land 144 = .ok (.iinc 3 1, 3) := by decide +kernel
theorem d_Mo_land_147 : decode c_Mo_land 147 = .ok (.goto (-34), 3) := by decide +kernel
theorem d_Mo_land_150 : decode c_Mo_land 150 = .ok (.aload_n 0, 1) := by decide +kernel
theorem d_Mo_land_151 : decode c_Mo_land 151 = .ok (.getfield 139, 3) := by decide +kernel
theorem d_Mo_land_154 : decode c_Mo_land 154 = .ok (.ireturn, 1) := by decide +kernel
theorem d_Mo_carry_0 : decode c_Mo_carry 0 = .ok (.aload_n 0, 1) := by decide +kernel
theorem d_Mo_carry_1 : decode c_Mo_carry 1 = .ok (.getfield 186, 3) := by decide +kernel
theorem d_Mo_carry_4 : decode c_Mo_carry 4 = .ok (.ifCond .eq 13, 3) := by decide +kernel
theorem d_Mo_carry_7 : decode c_Mo_carry 7 = .ok (.aload_n 0, 1) := by decide +kernel
theorem d_Mo_carry_8 : decode c_Mo_carry 8 = .ok (.getfield 189, 3) := by decide +kernel
theorem d_Mo_carry_11 : decode c_Mo_carry 11 = .ok (.aload_n 0, 1) := by decide +kernel
theorem d_Mo_carry_12 : decode c_Mo_carry 12 = .ok (.getfield 192, 3) := by decide +kernel
theorem d_Mo_carry_15 : decode c_Mo_carry 15 = .ok (.iload_n 1, 1) := by decide +kernel
theorem d_Mo_carry_16 : decode c_Mo_carry 16 = .ok (.iastore, 1) := by decide +kernel
theorem d_Mo_carry_17 : decode c_Mo_carry 17 = .ok (.aload_n 0, 1) := by decide +kernel
theorem d_Mo_carry_18 : decode c_Mo_carry 18 = .ok (.dup, 1) := by decide +kernel
theorem d_Mo_carry_19 : decode c_Mo_carry 19 = .ok (.getfield 192, 3) := by decide +kernel
theorem d_Mo_carry_22 : decode c_Mo_carry 22 = .ok (.iconst 1, 1) := by decide +kernel
theorem d_Mo_carry_23 : decode c_Mo_carry 23 = .ok (.iadd, 1) := by decide +kernel
theorem d_Mo_carry_24 : decode c_Mo_carry 24 = .ok (.putfield 192, 3) := by decide +kernel
theorem d_Mo_carry_27 : decode c_Mo_carry 27 = .ok (.aload_n 0, 1) := by decide +kernel
theorem d_Mo_carry_28 : decode c_Mo_carry 28 = .ok (.getfield 189, 3) := by decide +kernel
theorem d_Mo_carry_31 : decode c_Mo_carry 31 = .ok (.aload_n 0, 1) := by decide +kernel
theorem d_Mo_carry_32 : decode c_Mo_carry 32 = .ok (.getfield 192, 3) := by decide +kernel
theorem d_Mo_carry_35 : decode c_Mo_carry 35 = .ok (.iconst 1, 1) := by decide +kernel
theorem d_Mo_carry_36 : decode c_Mo_carry 36 = .ok (.isub, 1) := by decide +kernel
theorem d_Mo_carry_37 : decode c_Mo_carry 37 = .ok (.iaload, 1) := by decide +kernel
theorem d_Mo_carry_38 : decode c_Mo_carry 38 = .ok (.ireturn, 1) := by decide +kernel
theorem d_Mo_carryAll_0 : decode c_Mo_carryAll 0 = .ok (.aload_n 0, 1) := by decide +kernel
theorem d_Mo_carryAll_1 : decode c_Mo_carryAll 1 = .ok (.aload_n 1, 1) := by decide +kernel
theorem d_Mo_carryAll_2 : decode c_Mo_carryAll 2 = .ok (.putfield 189, 3) := by decide +kernel
theorem d_Mo_carryAll_5 : decode c_Mo_carryAll 5 = .ok (.aload_n 0, 1) := by decide +kernel
theorem d_Mo_carryAll_6 : decode c_Mo_carryAll 6 = .ok (.iload_n 2, 1) := by decide +kernel
theorem d_Mo_carryAll_7 : decode c_Mo_carryAll 7 = .ok (.putfield 186, 3) := by decide +kernel
theorem d_Mo_carryAll_10 : decode c_Mo_carryAll 10 = .ok (.aload_n 0, 1) := by decide +kernel
theorem d_Mo_carryAll_11 : decode c_Mo_carryAll 11 = .ok (.iconst 0, 1) := by decide +kernel
theorem d_Mo_carryAll_12 : decode c_Mo_carryAll 12 = .ok (.putfield 192, 3) := by decide +kernel
theorem d_Mo_carryAll_15 : decode c_Mo_carryAll 15 = .ok (.aload_n 0, 1) := by decide +kernel
theorem d_Mo_carryAll_16 : decode c_Mo_carryAll 16 = .ok (.aload_n 0, 1) := by decide +kernel
theorem d_Mo_carryAll_17 : decode c_Mo_carryAll 17 = .ok (.aload_n 0, 1) := by decide +kernel
theorem d_Mo_carryAll_18 : decode c_Mo_carryAll 18 = .ok (.getfield 81, 3) := by decide +kernel
theorem d_Mo_carryAll_21 : decode c_Mo_carryAll 21 = .ok (.invokevirtual 195, 3) := by decide +kernel
theorem d_Mo_carryAll_24 : decode c_Mo_carryAll 24 = .ok (.putfield 81, 3) := by decide +kernel
theorem d_Mo_carryAll_27 : decode c_Mo_carryAll 27 = .ok (.aload_n 0, 1) := by decide +kernel
theorem d_Mo_carryAll_28 : decode c_Mo_carryAll 28 = .ok (.aload_n 0, 1) := by decide +kernel
theorem d_Mo_carryAll_29 : decode c_Mo_carryAll 29 = .ok (.aload_n 0, 1) := by decide +kernel
theorem d_Mo_carryAll_30 : decode c_Mo_carryAll 30 = .ok (.getfield 88, 3) := by decide +kernel
theorem d_Mo_carryAll_33 : decode c_Mo_carryAll 33 = .ok (.invokevirtual 195, 3) := by decide +kernel
theorem d_Mo_carryAll_36 : decode c_Mo_carryAll 36 = .ok (.putfield 88, 3) := by decide +kernel
theorem d_Mo_carryAll_39 : decode c_Mo_carryAll 39 = .ok (.aload_n 0, 1) := by decide +kernel
theorem d_Mo_carryAll_40 : decode c_Mo_carryAll 40 = .ok (.aload_n 0, 1) := by decide +kernel
theorem d_Mo_carryAll_41 : decode c_Mo_carryAll 41 = .ok (.aload_n 0, 1) := by decide +kernel
theorem d_Mo_carryAll_42 : decode c_Mo_carryAll 42 = .ok (.getfield 95, 3) := by decide +kernel
theorem d_Mo_carryAll_45 : decode c_Mo_carryAll 45 = .ok (.invokevirtual 195, 3) := by decide +kernel
theorem d_Mo_carryAll_48 : decode c_Mo_carryAll 48 = .ok (.putfield 95, 3) := by decide +kernel
theorem d_Mo_carryAll_51 : decode c_Mo_carryAll 51 = .ok (.iconst 0, 1) := by decide +kernel
theorem d_Mo_carryAll_52 : decode c_Mo_carryAll 52 = .ok (.istore_n 3, 1) := by decide +kernel
theorem d_Mo_carryAll_53 : decode c_Mo_carryAll 53 = .ok (.iload_n 3, 1) := by decide +kernel
theorem d_Mo_carryAll_54 : decode c_Mo_carryAll 54 = .ok (.bipush 7, 2) := by decide +kernel
theorem d_Mo_carryAll_56 : decode c_Mo_carryAll 56 = .ok (.if_icmp .ge 89, 3) := by decide +kernel
theorem d_Mo_carryAll_59 : decode c_Mo_carryAll 59 = .ok (.aload_n 0, 1) := by decide +kernel
theorem d_Mo_carryAll_60 : decode c_Mo_carryAll 60 = .ok (.getfield 7, 3) := by decide +kernel
theorem d_Mo_carryAll_63 : decode c_Mo_carryAll 63 = .ok (.iload_n 3, 1) := by decide +kernel
theorem d_Mo_carryAll_64 : decode c_Mo_carryAll 64 = .ok (.aload_n 0, 1) := by decide +kernel
theorem d_Mo_carryAll_65 : decode c_Mo_carryAll 65 = .ok (.aload_n 0, 1) := by decide +kernel
theorem d_Mo_carryAll_66 : decode c_Mo_carryAll 66 = .ok (.getfield 7, 3) := by decide +kernel
theorem d_Mo_carryAll_69 : decode c_Mo_carryAll 69 = .ok (.iload_n 3, 1) := by decide +kernel
theorem d_Mo_carryAll_70 : decode c_Mo_carryAll 70 = .ok (.iaload, 1) := by decide +kernel
theorem d_Mo_carryAll_71 : decode c_Mo_carryAll 71 = .ok (.invokevirtual 195, 3) := by decide +kernel
theorem d_Mo_carryAll_74 : decode c_Mo_carryAll 74 = .ok (.iastore, 1) := by decide +kernel
theorem d_Mo_carryAll_75 : decode c_Mo_carryAll 75 = .ok (.aload_n 0, 1) := by decide +kernel
theorem d_Mo_carryAll_76 : decode c_Mo_carryAll 76 = .ok (.getfield 13, 3) := by decide +kernel
theorem d_Mo_carryAll_79 : decode c_Mo_carryAll 79 = .ok (.iload_n 3, 1) := by decide +kernel
theorem d_Mo_carryAll_80 : decode c_Mo_carryAll 80 = .ok (.aload_n 0, 1) := by decide +kernel
theorem d_Mo_carryAll_81 : decode c_Mo_carryAll 81 = .ok (.aload_n 0, 1) := by decide +kernel
theorem d_Mo_carryAll_82 : decode c_Mo_carryAll 82 = .ok (.getfield 13, 3) := by decide +kernel
theorem d_Mo_carryAll_85 : decode c_Mo_carryAll 85 = .ok (.iload_n 3, 1) := by decide +kernel
theorem d_Mo_carryAll_86 : decode c_Mo_carryAll 86 = .ok (.iaload, 1) := by decide +kernel
theorem d_Mo_carryAll_87 : decode c_Mo_carryAll 87 = .ok (.invokevirtual 195, 3) := by decide +kernel
theorem d_Mo_carryAll_90 : decode c_Mo_carryAll 90 = .ok (.iastore, 1) := by decide +kernel
theorem d_Mo_carryAll_91 : decode c_Mo_carryAll 91 = .ok (.aload_n 0, 1) := by decide +kernel
theorem d_Mo_carryAll_92 : decode c_Mo_carryAll 92 = .ok (.getfield 16, 3) := by decide +kernel
theorem d_Mo_carryAll_95 : decode c_Mo_carryAll 95 = .ok (.iload_n 3, 1) := by decide +kernel
theorem d_Mo_carryAll_96 : decode c_Mo_carryAll 96 = .ok (.aload_n 0, 1) := by decide +kernel
theorem d_Mo_carryAll_97 : decode c_Mo_carryAll 97 = .ok (.aload_n 0, 1) := by decide +kernel
theorem d_Mo_carryAll_98 : decode c_Mo_carryAll 98 = .ok (.getfield 16, 3) := by decide +kernel
theorem d_Mo_carryAll_101 : decode c_Mo_carryAll 101 = .ok (.iload_n 3, 1) := by decide +kernel
theorem d_Mo_carryAll_102 : decode c_Mo_carryAll 102 = .ok (.iaload, 1) := by decide +kernel
theorem d_Mo_carryAll_103 : decode c_Mo_carryAll 103 = .ok (.invokevirtual 195, 3) := by decide +kernel
theorem d_Mo_carryAll_106 : decode c_Mo_carryAll 106 = .ok (.iastore, 1) := by decide +kernel
theorem d_Mo_carryAll_107 : decode c_Mo_carryAll 107 = .ok (.aload_n 0, 1) := by decide +kernel
theorem d_Mo_carryAll_108 : decode c_Mo_carryAll 108 = .ok (.getfield 19, 3) := by decide +kernel
theorem d_Mo_carryAll_111 : decode c_Mo_carryAll 111 = .ok (.iload_n 3, 1) := by decide +kernel
theorem d_Mo_carryAll_112 : decode c_Mo_carryAll 112 = .ok (.aload_n 0, 1) := by decide +kernel
theorem d_Mo_carryAll_113 : decode c_Mo_carryAll 113 = .ok (.aload_n 0, 1) := by decide +kernel
theorem d_Mo_carryAll_114 : decode c_Mo_carryAll 114 = .ok (.getfield 19, 3) := by decide +kernel
theorem d_Mo_carryAll_117 : decode c_Mo_carryAll 117 = .ok (.iload_n 3, 1) := by decide +kernel
theorem d_Mo_carryAll_118 : decode c_Mo_carryAll 118 = .ok (.iaload, 1) := by decide +kernel
theorem d_Mo_carryAll_119 : decode c_Mo_carryAll 119 = .ok (.invokevirtual 195, 3) := by decide +kernel
theorem d_Mo_carryAll_122 : decode c_Mo_carryAll 122 = .ok (.iastore, 1) := by decide +kernel
theorem d_Mo_carryAll_123 : decode c_Mo_carryAll 123 = .ok (.aload_n 0, 1) := by decide +kernel
theorem d_Mo_carryAll_124 : decode c_Mo_carryAll 124 = .ok (.getfield 22, 3) := by decide +kernel
theorem d_Mo_carryAll_127 : decode c_Mo_carryAll 127 = .ok (.iload_n 3, 1) := by decide +kernel
theorem d_Mo_carryAll_128 : decode c_Mo_carryAll 128 = .ok (.aload_n 0, 1) := by decide +kernel
theorem d_Mo_carryAll_129 : decode c_Mo_carryAll 129 = .ok (.aload_n 0, 1) := by decide +kernel
theorem d_Mo_carryAll_130 : decode c_Mo_carryAll 130 = .ok (.getfield 22, 3) := by decide +kernel
theorem d_Mo_carryAll_133 : decode c_Mo_carryAll 133 = .ok (.iload_n 3, 1) := by decide +kernel
theorem d_Mo_carryAll_134 : decode c_Mo_carryAll 134 = .ok (.iaload, 1) := by decide +kernel
theorem d_Mo_carryAll_135 : decode c_Mo_carryAll 135 = .ok (.invokevirtual 195, 3) := by decide +kernel
theorem d_Mo_carryAll_138 : decode c_Mo_carryAll 138 = .ok (.iastore, 1) := by decide +kernel
theorem d_Mo_carryAll_139 : decode c_Mo_carryAll 139 = .ok (.iinc 3 1, 3) := by decide +kernel
theorem d_Mo_carryAll_142 : decode c_Mo_carryAll 142 = .ok (.goto (-89), 3) := by decide +kernel
theorem d_Mo_carryAll_145 : decode c_Mo_carryAll 145 = .ok (.return_, 1) := by decide +kernel
theorem d_Mo_open_0 : decode c_Mo_open 0 = .ok (.aload_n 0, 1) := by decide +kernel
theorem d_Mo_open_1 : decode c_Mo_open 1 = .ok (.aload_n 0, 1) := by decide +kernel
theorem d_Mo_open_2 : decode c_Mo_open 2 = .ok (.getfield 53, 3) := by decide +kernel
theorem d_Mo_open_5 : decode c_Mo_open 5 = .ok (.iconst 1, 1) := by decide +kernel
theorem d_Mo_open_6 : decode c_Mo_open 6 = .ok (.invokevirtual 198, 3) := by decide +kernel
theorem d_Mo_open_9 : decode c_Mo_open 9 = .ok (.return_, 1) := by decide +kernel
theorem d_Mo_close_0 : decode c_Mo_close 0 = .ok (.aload_n 0, 1) := by decide +kernel
theorem d_Mo_close_1 : decode c_Mo_close 1 = .ok (.aload_n 0, 1) := by decide +kernel
theorem d_Mo_close_2 : decode c_Mo_close 2 = .ok (.getfield 53, 3) := by decide +kernel
theorem d_Mo_close_5 : decode c_Mo_close 5 = .ok (.iconst 0, 1) := by decide +kernel
theorem d_Mo_close_6 : decode c_Mo_close 6 = .ok (.invokevirtual 198, 3) := by decide +kernel
theorem d_Mo_close_9 : decode c_Mo_close 9 = .ok (.return_, 1) := by decide +kernel
theorem d_Mo_image_0 : decode c_Mo_image 0 = .ok (.aload_n 0, 1) := by decide +kernel
theorem d_Mo_image_1 : decode c_Mo_image 1 = .ok (.iconst 0, 1) := by decide +kernel
theorem d_Mo_image_2 : decode c_Mo_image 2 = .ok (.putfield 71, 3) := by decide +kernel
theorem d_Mo_image_5 : decode c_Mo_image 5 = .ok (.aload_n 0, 1) := by decide +kernel
theorem d_Mo_image_6 : decode c_Mo_image 6 = .ok (.iconst 1, 1) := by decide +kernel
theorem d_Mo_image_7 : decode c_Mo_image 7 = .ok (.putfield 202, 3) := by decide +kernel
theorem d_Mo_image_10 : decode c_Mo_image 10 = .ok (.aload_n 0, 1) := by decide +kernel
theorem d_Mo_image_11 : decode c_Mo_image 11 = .ok (.aload_n 0, 1) := by decide +kernel
theorem d_Mo_image_12 : decode c_Mo_image 12 = .ok (.getfield 62, 3) := by decide +kernel
theorem d_Mo_image_15 : decode c_Mo_image 15 = .ok (.iconst 1, 1) := by decide +kernel
theorem d_Mo_image_16 : decode c_Mo_image 16 = .ok (.invokevirtual 198, 3) := by decide +kernel
theorem d_Mo_image_19 : decode c_Mo_image 19 = .ok (.aload_n 0, 1) := by decide +kernel
theorem d_Mo_image_20 : decode c_Mo_image 20 = .ok (.getfield 95, 3) := by decide +kernel
theorem d_Mo_image_23 : decode c_Mo_image 23 = .ok (.ireturn, 1) := by decide +kernel
theorem d_Mo_restore_0 : decode c_Mo_restore 0 = .ok (.aload_n 0, 1) := by decide +kernel
theorem d_Mo_restore_1 : decode c_Mo_restore 1 = .ok (.iconst 0, 1) := by decide +kernel
theorem d_Mo_restore_2 : decode c_Mo_restore 2 = .ok (.putfield 71, 3) := by decide +kernel
theorem d_Mo_restore_5 : decode c_Mo_restore 5 = .ok (.aload_n 0, 1) := by decide +kernel
theorem d_Mo_restore_6 : decode c_Mo_restore 6 = .ok (.getfield 202, 3) := by decide +kernel
theorem d_Mo_restore_9 : decode c_Mo_restore 9 = .ok (.ifCond .ne 6, 3) := by decide +kernel
theorem d_Mo_restore_12 : decode c_Mo_restore 12 = .ok (.bipush (-3), 2) := by decide +kernel
theorem d_Mo_restore_14 : decode c_Mo_restore 14 = .ok (.ireturn, 1) := by decide +kernel
theorem d_Mo_restore_15 : decode c_Mo_restore 15 = .ok (.aload_n 0, 1) := by decide +kernel
theorem d_Mo_restore_16 : decode c_Mo_restore 16 = .ok (.aload_n 0, 1) := by decide +kernel
theorem d_Mo_restore_17 : decode c_Mo_restore 17 = .ok (.getfield 62, 3) := by decide +kernel
theorem d_Mo_restore_20 : decode c_Mo_restore 20 = .ok (.iconst 0, 1) := by decide +kernel
theorem d_Mo_restore_21 : decode c_Mo_restore 21 = .ok (.invokevirtual 198, 3) := by decide +kernel
theorem d_Mo_restore_24 : decode c_Mo_restore 24 = .ok (.aload_n 0, 1) := by decide +kernel
theorem d_Mo_restore_25 : decode c_Mo_restore 25 = .ok (.getfield 95, 3) := by decide +kernel
theorem d_Mo_restore_28 : decode c_Mo_restore 28 = .ok (.ireturn, 1) := by decide +kernel
theorem d_Mo_horse_0 : decode c_Mo_horse 0 = .ok (.aload_n 0, 1) := by decide +kernel
theorem d_Mo_horse_1 : decode c_Mo_horse 1 = .ok (.iconst 0, 1) := by decide +kernel
theorem d_Mo_horse_2 : decode c_Mo_horse 2 = .ok (.putfield 71, 3) := by decide +kernel
theorem d_Mo_horse_5 : decode c_Mo_horse 5 = .ok (.aload_n 0, 1) := by decide +kernel
theorem d_Mo_horse_6 : decode c_Mo_horse 6 = .ok (.iload_n 1, 1) := by decide +kernel
theorem d_Mo_horse_7 : decode c_Mo_horse 7 = .ok (.invokevirtual 162, 3) := by decide +kernel
theorem d_Mo_horse_10 : decode c_Mo_horse 10 = .ok (.ifCond .ne 5, 3) := by decide +kernel
theorem d_Mo_horse_13 : decode c_Mo_horse 13 = .ok (.iconst (-1), 1) := by decide +kernel
theorem d_Mo_horse_14 : decode c_Mo_horse 14 = .ok (.ireturn, 1) := by decide +kernel
theorem d_Mo_horse_15 : decode c_Mo_horse 15 = .ok (.iload_n 2, 1) := by decide +kernel
theorem d_Mo_horse_16 : decode c_Mo_horse 16 = .ok (.tableswitch 101 0 7 #[48, 55, 62, 69, 76, 83, 89, 95], 48) := by decide +kernel
theorem d_Mo_horse_64 : decode c_Mo_horse 64 = .ok (.aload_n 0, 1) := by decide +kernel
theorem d_Mo_horse_65 : decode c_Mo_horse 65 = .ok (.getfield 7, 3) := by decide +kernel
theorem d_Mo_horse_68 : decode c_Mo_horse 68 = .ok (.iload_n 1, 1) := by decide +kernel
theorem d_Mo_horse_69 : decode c_Mo_horse 69 = .ok (.iaload, 1) := by decide +kernel
theorem d_Mo_horse_70 : decode c_Mo_horse 70 = .ok (.ireturn, 1) := by decide +kernel
theorem d_Mo_horse_71 : decode c_Mo_horse 71 = .ok (.aload_n 0, 1) := by decide +kernel
theorem d_Mo_horse_72 : decode c_Mo_horse 72 = .ok (.getfield 13, 3) := by decide +kernel
theorem d_Mo_horse_75 : decode c_Mo_horse 75 = .ok (.iload_n 1, 1) := by decide +kernel
theorem d_Mo_horse_76 : decode c_Mo_horse 76 = .ok (.iaload, 1) := by decide +kernel
theorem d_Mo_horse_77 : decode c_Mo_horse 77 = .ok (.ireturn, 1) := by decide +kernel
theorem d_Mo_horse_78 : decode c_Mo_horse 78 = .ok (.aload_n 0, 1) := by decide +kernel
theorem d_Mo_horse_79 : decode c_Mo_horse 79 = .ok (.getfield 16, 3) := by decide +kernel
theorem d_Mo_horse_82 : decode c_Mo_horse 82 = .ok (.iload_n 1, 1) := by decide +kernel
theorem d_Mo_horse_83 : decode c_Mo_horse 83 = .ok (.iaload, 1) := by decide +kernel
theorem d_Mo_horse_84 : decode c_Mo_horse 84 = .ok (.ireturn, 1) := by decide +kernel
theorem d_Mo_horse_85 : decode c_Mo_horse 85 = .ok (.aload_n 0, 1) := by decide +kernel
theorem d_Mo_horse_86 : decode c_Mo_horse 86 = .ok (.getfield 19, 3) := by decide +kernel
theorem d_Mo_horse_89 : decode c_Mo_horse 89 = .ok (.iload_n 1, 1) := by decide +kernel
theorem d_Mo_horse_90 : decode c_Mo_horse 90 = .ok (.iaload, 1) := by decide +kernel
theorem d_Mo_horse_91 : decode c_Mo_horse 91 = .ok (.ireturn, 1) := by decide +kernel
theorem d_Mo_horse_92 : decode c_Mo_horse 92 = .ok (.aload_n 0, 1) := by decide +kernel
theorem d_Mo_horse_93 : decode c_Mo_horse 93 = .ok (.getfield 22, 3) := by decide +kernel
theorem d_Mo_horse_96 : decode c_Mo_horse 96 = .ok (.iload_n 1, 1) := by decide +kernel
theorem d_Mo_horse_97 : decode c_Mo_horse 97 = .ok (.iaload, 1) := by decide +kernel
theorem d_Mo_horse_98 : decode c_Mo_horse 98 = .ok (.ireturn, 1) := by decide +kernel
theorem d_Mo_horse_99 : decode c_Mo_horse 99 = .ok (.aload_n 0, 1) := by decide +kernel
theorem d_Mo_horse_100 : decode c_Mo_horse 100 = .ok (.iload_n 1, 1) := by decide +kernel
theorem d_Mo_horse_101 : decode c_Mo_horse 101 = .ok (.invokevirtual 91, 3) := by decide +kernel
theorem d_Mo_horse_104 : decode c_Mo_horse 104 = .ok (.ireturn, 1) := by decide +kernel
theorem d_Mo_horse_105 : decode c_Mo_horse 105 = .ok (.aload_n 0, 1) := by decide +kernel
theorem d_Mo_horse_106 : decode c_Mo_horse 106 = .ok (.iload_n 1, 1) := by decide +kernel
theorem d_Mo_horse_107 : decode c_Mo_horse 107 = .ok (.invokevirtual 108, 3) := by decide +kernel
theorem d_Mo_horse_110 : decode c_Mo_horse 110 = .ok (.ireturn, 1) := by decide +kernel
theorem d_Mo_horse_111 : decode c_Mo_horse 111 = .ok (.aload_n 0, 1) := by decide +kernel
theorem d_Mo_horse_112 : decode c_Mo_horse 112 = .ok (.iload_n 1, 1) := by decide +kernel
theorem d_Mo_horse_113 : decode c_Mo_horse 113 = .ok (.invokevirtual 111, 3) := by decide +kernel
theorem d_Mo_horse_116 : decode c_Mo_horse 116 = .ok (.ireturn, 1) := by decide +kernel
theorem d_Mo_horse_117 : decode c_Mo_horse 117 = .ok (.iconst (-1), 1) := by decide +kernel
theorem d_Mo_horse_118 : decode c_Mo_horse 118 = .ok (.ireturn, 1) := by decide +kernel
theorem d_Mo_wrongKept_0 : decode c_Mo_wrongKept 0 = .ok (.iload_n 1, 1) := by decide +kernel
theorem d_Mo_wrongKept_1 : decode c_Mo_wrongKept 1 = .ok (.i2l, 1) := by decide +kernel
theorem d_Mo_wrongKept_2 : decode c_Mo_wrongKept 2 = .ok (.lconst 0, 1) := by decide +kernel
theorem d_Mo_wrongKept_3 : decode c_Mo_wrongKept 3 = .ok (.ldc2_w 205, 3) := by decide +kernel
theorem d_Mo_wrongKept_6 : decode c_Mo_wrongKept 6 = .ok (.invokestatic 77, 3) := by decide +kernel
theorem d_Mo_wrongKept_9 : decode c_Mo_wrongKept 9 = .ok (.ifCond .ne 7, 3) := by decide +kernel
theorem d_Mo_wrongKept_12 : decode c_Mo_wrongKept 12 = .ok (.iconst (-1), 1) := by decide +kernel
theorem d_Mo_wrongKept_13 : decode c_Mo_wrongKept 13 = .ok (.goto 33, 3) := by decide +kernel
theorem d_Mo_wrongKept_16 : decode c_Mo_wrongKept 16 = .ok (.aload_n 0, 1) := by decide +kernel
theorem d_Mo_wrongKept_17 : decode c_Mo_wrongKept 17 = .ok (.getfield 25, 3) := by decide +kernel
theorem d_Mo_wrongKept_20 : decode c_Mo_wrongKept 20 = .ok (.iload_n 1, 1) := by decide +kernel
theorem d_Mo_wrongKept_21 : decode c_Mo_wrongKept 21 = .ok (.iaload, 1) := by decide +kernel
theorem d_Mo_wrongKept_22 : decode c_Mo_wrongKept 22 = .ok (.ifCond .ne 8, 3) := by decide +kernel
theorem d_Mo_wrongKept_25 : decode c_Mo_wrongKept 25 = .ok (.bipush (-11), 2) := by decide +kernel
theorem d_Mo_wrongKept_27 : decode c_Mo_wrongKept 27 = .ok (.goto 19, 3) := by decide +kernel
theorem d_Mo_wrongKept_30 : decode c_Mo_wrongKept 30 = .ok (.aload_n 0, 1) := by decide +kernel
theorem d_Mo_wrongKept_31 : decode c_Mo_wrongKept 31 = .ok (.getfield 25, 3) := by decide +kernel
theorem d_Mo_wrongKept_34 : decode c_Mo_wrongKept 34 = .ok (.iload_n 1, 1) := by decide +kernel
theorem d_Mo_wrongKept_35 : decode c_Mo_wrongKept 35 = .ok (.iaload, 1) := by decide +kernel
theorem d_Mo_wrongKept_36 : decode c_Mo_wrongKept 36 = .ok (.iconst 1, 1) := by decide +kernel
theorem d_Mo_wrongKept_37 : decode c_Mo_wrongKept 37 = .ok (.if_icmp .eq 8, 3) := by decide +kernel
theorem d_Mo_wrongKept_40 : decode c_Mo_wrongKept 40 = .ok (.bipush (-12), 2) := by decide +kernel
theorem d_Mo_wrongKept_42 : decode c_Mo_wrongKept 42 = .ok (.goto 4, 3) := by decide +kernel
theorem d_Mo_wrongKept_45 : decode c_Mo_wrongKept 45 = .ok (.iconst 0, 1) := by decide +kernel
theorem d_Mo_wrongKept_46 : decode c_Mo_wrongKept 46 = .ok (.ireturn, 1) := by decide +kernel
theorem d_Mo_comes_0 : decode c_Mo_comes 0 = .ok (.aload_n 0, 1) := by decide +kernel
theorem d_Mo_comes_1 : decode c_Mo_comes 1 = .ok (.iconst 0, 1) := by decide +kernel
theorem d_Mo_comes_2 : decode c_Mo_comes 2 = .ok (.putfield 71, 3) := by decide +kernel
theorem d_Mo_comes_5 : decode c_Mo_comes 5 = .ok (.iload_n 2, 1) := by decide +kernel
theorem d_Mo_comes_6 : decode c_Mo_comes 6 = .ok (.invokestatic 149, 3) := by decide +kernel
theorem d_Mo_comes_9 : decode c_Mo_comes 9 = .ok (.ifCond .eq 18, 3) := by decide +kernel
theorem d_Mo_comes_12 : decode c_Mo_comes 12 = .ok (.iload_n 3, 1) := by decide +kernel
theorem d_Mo_comes_13 : decode c_Mo_comes 13 = .ok (.invokestatic 149, 3) := by decide +kernel
theorem d_Mo_comes_16 : decode c_Mo_comes 16 = .ok (.ifCond .eq 11, 3) := by decide +kernel
theorem d_Mo_comes_19 : decode c_Mo_comes 19 = .ok (.aload_n 0, 1) := by decide +kernel
theorem d_Mo_comes_20 : decode c_Mo_comes 20 = .ok (.iload_n 1, 1) := by decide +kernel
theorem d_Mo_comes_21 : decode c_Mo_comes 21 = .ok (.invokevirtual 207, 3) := by decide +kernel
theorem d_Mo_comes_24 : decode c_Mo_comes 24 = .ok (.goto 4, 3) := by decide +kernel
theorem d_Mo_comes_27 : decode c_Mo_comes 27 = .ok (.iconst (-1), 1) := by decide +kernel
theorem d_Mo_comes_28 : decode c_Mo_comes 28 = .ok (.istore 4, 2) := by decide +kernel
theorem d_Mo_comes_30 : decode c_Mo_comes 30 = .ok (.iload 4, 2) := by decide +kernel
theorem d_Mo_comes_32 : decode c_Mo_comes 32 = .ok (.ifCond .ge 6, 3) := by decide +kernel
theorem d_Mo_comes_35 : decode c_Mo_comes 35 = .ok (.iload 4, 2) := by decide +kernel
theorem d_Mo_comes_37 : decode c_Mo_comes 37 = .ok (.ireturn, 1) := by decide +kernel
theorem d_Mo_comes_38 : decode c_Mo_comes 38 = .ok (.aload_n 0, 1) := by decide +kernel
theorem d_Mo_comes_39 : decode c_Mo_comes 39 = .ok (.aload_n 0, 1) := by decide +kernel
theorem d_Mo_comes_40 : decode c_Mo_comes 40 = .ok (.getfield 28, 3) := by decide +kernel
theorem d_Mo_comes_43 : decode c_Mo_comes 43 = .ok (.iload_n 1, 1) := by decide +kernel
theorem d_Mo_comes_44 : decode c_Mo_comes 44 = .ok (.iaload, 1) := by decide +kernel
theorem d_Mo_comes_45 : decode c_Mo_comes 45 = .ok (.aload_n 0, 1) := by decide +kernel
theorem d_Mo_comes_46 : decode c_Mo_comes 46 = .ok (.getfield 31, 3) := by decide +kernel
theorem d_Mo_comes_49 : decode c_Mo_comes 49 = .ok (.iload_n 1, 1) := by decide +kernel
theorem d_Mo_comes_50 : decode c_Mo_comes 50 = .ok (.iaload, 1) := by decide +kernel
theorem d_Mo_comes_51 : decode c_Mo_comes 51 = .ok (.iload_n 2, 1) := by decide +kernel
theorem d_Mo_comes_52 : decode c_Mo_comes 52 = .ok (.iload_n 3, 1) := by decide +kernel
theorem d_Mo_comes_53 : decode c_Mo_comes 53 = .ok (.invokevirtual 158, 3) := by decide +kernel
theorem d_Mo_comes_56 : decode c_Mo_comes 56 = .ok (.ifCond .eq 12, 3) := by decide +kernel
theorem d_Mo_comes_59 : decode c_Mo_comes 59 = .ok (.aload_n 0, 1) := by decide +kernel
theorem d_Mo_comes_60 : decode c_Mo_comes 60 = .ok (.getfield 81, 3) := by decide +kernel
theorem d_Mo_comes_63 : decode c_Mo_comes 63 = .ok (.iconst 1, 1) := by decide +kernel
theorem d_Mo_comes_64 : decode c_Mo_comes 64 = .ok (.isub, 1) := by decide +kernel
theorem d_Mo_comes_65 : decode c_Mo_comes 65 = .ok (.goto 5, 3) := by decide +kernel
theorem d_Mo_comes_68 : decode c_Mo_comes 68 = .ok (.bipush (-2), 2) := by decide +kernel
theorem d_Mo_comes_70 : decode c_Mo_comes 70 = .ok (.ireturn, 1) := by decide +kernel
theorem d_Mo_rides_0 : decode c_Mo_rides 0 = .ok (.aload_n 0, 1) := by decide +kernel
theorem d_Mo_rides_1 : decode c_Mo_rides 1 = .ok (.iconst 0, 1) := by decide +kernel
theorem d_Mo_rides_2 : decode c_Mo_rides 2 = .ok (.putfield 71, 3) := by decide +kernel
theorem d_Mo_rides_5 : decode c_Mo_rides 5 = .ok (.aload_n 0, 1) := by decide +kernel
theorem d_Mo_rides_6 : decode c_Mo_rides 6 = .ok (.iload_n 1, 1) := by decide +kernel
theorem d_Mo_rides_7 : decode c_Mo_rides 7 = .ok (.invokevirtual 162, 3) := by decide +kernel
theorem d_Mo_rides_10 : decode c_Mo_rides 10 = .ok (.ifCond .eq 10, 3) := by decide +kernel
theorem d_Mo_rides_13 : decode c_Mo_rides 13 = .ok (.iload_n 2, 1) := by decide +kernel
theorem d_Mo_rides_14 : decode c_Mo_rides 14 = .ok (.invokestatic 149, 3) := by decide +kernel
theorem d_Mo_rides_17 : decode c_Mo_rides 17 = .ok (.ifCond .ne 5, 3) := by decide +kernel
theorem d_Mo_rides_20 : decode c_Mo_rides 20 = .ok (.iconst (-1), 1) := by decide +kernel
theorem d_Mo_rides_21 : decode c_Mo_rides 21 = .ok (.ireturn, 1) := by decide +kernel
theorem d_Mo_rides_22 : decode c_Mo_rides 22 = .ok (.aload_n 0, 1) := by decide +kernel
theorem d_Mo_rides_23 : decode c_Mo_rides 23 = .ok (.invokevirtual 177, 3) := by decide +kernel
theorem d_Mo_rides_26 : decode c_Mo_rides 26 = .ok (.aload_n 0, 1) := by decide +kernel
theorem d_Mo_rides_27 : decode c_Mo_rides 27 = .ok (.iload_n 1, 1) := by decide +kernel
theorem d_Mo_rides_28 : decode c_Mo_rides 28 = .ok (.iload_n 2, 1) := by decide +kernel
theorem d_Mo_rides_29 : decode c_Mo_rides 29 = .ok (.invokevirtual 165, 3) := by decide +kernel
theorem d_Mo_rides_32 : decode c_Mo_rides 32 = .ok (.istore_n 3, 1) := by decide +kernel
theorem d_Mo_rides_33 : decode c_Mo_rides 33 = .ok (.aload_n 0, 1) := by decide +kernel
theorem d_Mo_rides_34 : decode c_Mo_rides 34 = .ok (.getfield 95, 3) := by decide +kernel
theorem d_Mo_rides_37 : decode c_Mo_rides 37 = .ok (.sipush 999, 3) := by decide +kernel
theorem d_Mo_rides_40 : decode c_Mo_rides 40 = .ok (.if_icmp .le 10, 3) := by decide +kernel
theorem d_Mo_rides_43 : decode c_Mo_rides 43 = .ok (.aload_n 0, 1) := by decide +kernel
theorem d_Mo_rides_44 : decode c_Mo_rides 44 = .ok (.invokevirtual 183, 3) := by decide +kernel
theorem d_Mo_rides_47 : decode c_Mo_rides 47 = .ok (.bipush (-3), 2) := by decide +kernel
theorem d_Mo_rides_49 : decode c_Mo_rides 49 = .ok (.ireturn, 1) := by decide +kernel
theorem d_Mo_rides_50 : decode c_Mo_rides 50 = .ok (.iload_n 3, 1) := by decide +kernel
theorem d_Mo_rides_51 : decode c_Mo_rides 51 = .ok (.ireturn, 1) := by decide +kernel
theorem d_Mo_taken_0 : decode c_Mo_taken 0 = .ok (.aload_n 0, 1) := by decide +kernel
theorem d_Mo_taken_1 : decode c_Mo_taken 1 = .ok (.iconst 0, 1) := by decide +kernel
theorem d_Mo_taken_2 : decode c_Mo_taken 2 = .ok (.putfield 71, 3) := by decide +kernel
theorem d_Mo_taken_5 : decode c_Mo_taken 5 = .ok (.aload_n 0, 1) := by decide +kernel
theorem d_Mo_taken_6 : decode c_Mo_taken 6 = .ok (.iload_n 1, 1) := by decide +kernel
theorem d_Mo_taken_7 : decode c_Mo_taken 7 = .ok (.invokevirtual 162, 3) := by decide +kernel
theorem d_Mo_taken_10 : decode c_Mo_taken 10 = .ok (.ifCond .eq 10, 3) := by decide +kernel
theorem d_Mo_taken_13 : decode c_Mo_taken 13 = .ok (.iload_n 2, 1) := by decide +kernel
theorem d_Mo_taken_14 : decode c_Mo_taken 14 = .ok (.invokestatic 149, 3) := by decide +kernel
theorem d_Mo_taken_17 : decode c_Mo_taken 17 = .ok (.ifCond .ne 5, 3) := by decide +kernel
theorem d_Mo_taken_20 : decode c_Mo_taken 20 = .ok (.iconst (-1), 1) := by decide +kernel
theorem d_Mo_taken_21 : decode c_Mo_taken 21 = .ok (.ireturn, 1) := by decide +kernel
theorem d_Mo_taken_22 : decode c_Mo_taken 22 = .ok (.aload_n 0, 1) := by decide +kernel
theorem d_Mo_taken_23 : decode c_Mo_taken 23 = .ok (.getfield 19, 3) := by decide +kernel
theorem d_Mo_taken_26 : decode c_Mo_taken 26 = .ok (.iload_n 1, 1) := by decide +kernel
theorem d_Mo_taken_27 : decode c_Mo_taken 27 = .ok (.iaload, 1) := by decide +kernel
theorem d_Mo_taken_28 : decode c_Mo_taken 28 = .ok (.istore_n 3, 1) := by decide +kernel
theorem d_Mo_taken_29 : decode c_Mo_taken 29 = .ok (.aload_n 0, 1) := by decide +kernel
theorem d_Mo_taken_30 : decode c_Mo_taken 30 = .ok (.getfield 19, 3) := by decide +kernel
theorem d_Mo_taken_33 : decode c_Mo_taken 33 = .ok (.iload_n 1, 1) := by decide +kernel
theorem d_Mo_taken_34 : decode c_Mo_taken 34 = .ok (.iload_n 2, 1) := by decide +kernel
theorem d_Mo_taken_35 : decode c_Mo_taken 35 = .ok (.iastore, 1) := by decide +kernel
theorem d_Mo_taken_36 : decode c_Mo_taken 36 = .ok (.iload_n 3, 1) := by decide +kernel
theorem d_Mo_taken_37 : decode c_Mo_taken 37 = .ok (.ireturn, 1) := by decide +kernel
theorem d_Mo_longs_0 : decode c_Mo_longs 0 = .ok (.aload_n 0, 1) := by decide +kernel
theorem d_Mo_longs_1 : decode c_Mo_longs 1 = .ok (.iconst 0, 1) := by decide +kernel
theorem d_Mo_longs_2 : decode c_Mo_longs 2 = .ok (.putfield 71, 3) := by decide +kernel
theorem d_Mo_longs_5 : decode c_Mo_longs 5 = .ok (.aload_n 0, 1) := by decide +kernel
theorem d_Mo_longs_6 : decode c_Mo_longs 6 = .ok (.iload_n 1, 1) := by decide +kernel
theorem d_Mo_longs_7 : decode c_Mo_longs 7 = .ok (.invokevirtual 162, 3) := by decide +kernel
theorem d_Mo_longs_10 : decode c_Mo_longs 10 = .ok (.ifCond .eq 15, 3) := by decide +kernel
theorem d_Mo_longs_13 : decode c_Mo_longs 13 = .ok (.iload_n 2, 1) := by decide +kernel
theorem d_Mo_longs_14 : decode c_Mo_longs 14 = .ok (.i2l, 1) := by decide +kernel
theorem d_Mo_longs_15 : decode c_Mo_longs 15 = .ok (.lconst 0, 1) := by decide +kernel
theorem d_Mo_longs_16 : decode c_Mo_longs 16 = .ok (.ldc2_w 210, 3) := by decide +kernel
theorem d_Mo_longs_19 : decode c_Mo_longs 19 = .ok (.invokestatic 77, 3) := by decide +kernel
theorem d_Mo_longs_22 : decode c_Mo_longs 22 = .ok (.ifCond .ne 5, 3) := by decide +kernel
theorem d_Mo_longs_25 : decode c_Mo_longs 25 = .ok (.iconst (-1), 1) := by decide +kernel
theorem d_Mo_longs_26 : decode c_Mo_longs 26 = .ok (.ireturn, 1) := by decide +kernel
theorem d_Mo_longs_27 : decode c_Mo_longs 27 = .ok (.aload_n 0, 1) := by decide +kernel
theorem d_Mo_longs_28 : decode c_Mo_longs 28 = .ok (.getfield 22, 3) := by decide +kernel
theorem d_Mo_longs_31 : decode c_Mo_longs 31 = .ok (.iload_n 1, 1) := by decide +kernel
theorem d_Mo_longs_32 : decode c_Mo_longs 32 = .ok (.iaload, 1) := by decide +kernel
theorem d_Mo_longs_33 : decode c_Mo_longs 33 = .ok (.istore_n 3, 1) := by decide +kernel
theorem d_Mo_longs_34 : decode c_Mo_longs 34 = .ok (.aload_n 0, 1) := by decide +kernel
theorem d_Mo_longs_35 : decode c_Mo_longs 35 = .ok (.getfield 22, 3) := by decide +kernel
theorem d_Mo_longs_38 : decode c_Mo_longs 38 = .ok (.iload_n 1, 1) := by decide +kernel
theorem d_Mo_longs_39 : decode c_Mo_longs 39 = .ok (.iload_n 2, 1) := by decide +kernel
theorem d_Mo_longs_40 : decode c_Mo_longs 40 = .ok (.iastore, 1) := by decide +kernel
theorem d_Mo_longs_41 : decode c_Mo_longs 41 = .ok (.iload_n 3, 1) := by decide +kernel
theorem d_Mo_longs_42 : decode c_Mo_longs 42 = .ok (.ireturn, 1) := by decide +kernel
theorem d_Mo_hangs_0 : decode c_Mo_hangs 0 = .ok (.aload_n 0, 1) := by decide +kernel
theorem d_Mo_hangs_1 : decode c_Mo_hangs 1 = .ok (.iconst 0, 1) := by decide +kernel
theorem d_Mo_hangs_2 : decode c_Mo_hangs 2 = .ok (.putfield 71, 3) := by decide +kernel
theorem d_Mo_hangs_5 : decode c_Mo_hangs 5 = .ok (.iload_n 1, 1) := by decide +kernel
theorem d_Mo_hangs_6 : decode c_Mo_hangs 6 = .ok (.invokestatic 149, 3) := by decide +kernel
theorem d_Mo_hangs_9 : decode c_Mo_hangs 9 = .ok (.ifCond .ne 5, 3) := by decide +kernel
theorem d_Mo_hangs_12 : decode c_Mo_hangs 12 = .ok (.iconst (-1), 1) := by decide +kernel
theorem d_Mo_hangs_13 : decode c_Mo_hangs 13 = .ok (.ireturn, 1) := by decide +kernel
theorem d_Mo_hangs_14 : decode c_Mo_hangs 14 = .ok (.aload_n 0, 1) := by decide +kernel
theorem d_Mo_hangs_15 : decode c_Mo_hangs 15 = .ok (.getfield 88, 3) := by decide +kernel
theorem d_Mo_hangs_18 : decode c_Mo_hangs 18 = .ok (.istore_n 2, 1) := by decide +kernel
theorem d_Mo_hangs_19 : decode c_Mo_hangs 19 = .ok (.aload_n 0, 1) := by decide +kernel
theorem d_Mo_hangs_20 : decode c_Mo_hangs 20 = .ok (.iload_n 1, 1) := by decide +kernel
theorem d_Mo_hangs_21 : decode c_Mo_hangs 21 = .ok (.putfield 88, 3) := by decide +kernel
theorem d_Mo_hangs_24 : decode c_Mo_hangs 24 = .ok (.iload_n 2, 1) := by decide +kernel
theorem d_Mo_hangs_25 : decode c_Mo_hangs 25 = .ok (.ireturn, 1) := by decide +kernel
theorem d_Mo_days_0 : decode c_Mo_days 0 = .ok (.aload_n 0, 1) := by decide +kernel
theorem d_Mo_days_1 : decode c_Mo_days 1 = .ok (.iconst 0, 1) := by decide +kernel
theorem d_Mo_days_2 : decode c_Mo_days 2 = .ok (.putfield 71, 3) := by decide +kernel
theorem d_Mo_days_5 : decode c_Mo_days 5 = .ok (.iload_n 1, 1) := by decide +kernel
theorem d_Mo_days_6 : decode c_Mo_days 6 = .ok (.i2l, 1) := by decide +kernel
theorem d_Mo_days_7 : decode c_Mo_days 7 = .ok (.lconst 1, 1) := by decide +kernel
theorem d_Mo_days_8 : decode c_Mo_days 8 = .ok (.ldc2_w 152, 3) := by decide +kernel
theorem d_Mo_days_11 : decode c_Mo_days 11 = .ok (.invokestatic 77, 3) := by decide +kernel
theorem d_Mo_days_14 : decode c_Mo_days 14 = .ok (.ifCond .ne 5, 3) := by decide +kernel
theorem d_Mo_days_17 : decode c_Mo_days 17 = .ok (.iconst (-1), 1) := by decide +kernel
theorem d_Mo_days_18 : decode c_Mo_days 18 = .ok (.ireturn, 1) := by decide +kernel
theorem d_Mo_days_19 : decode c_Mo_days 19 = .ok (.aload_n 0, 1) := by decide +kernel
theorem d_Mo_days_20 : decode c_Mo_days 20 = .ok (.iload_n 1, 1) := by decide +kernel
theorem d_Mo_days_21 : decode c_Mo_days 21 = .ok (.invokevirtual 168, 3) := by decide +kernel
theorem d_Mo_days_24 : decode c_Mo_days 24 = .ok (.ifCond .eq 10, 3) := by decide +kernel
theorem d_Mo_days_27 : decode c_Mo_days 27 = .ok (.aload_n 0, 1) := by decide +kernel
theorem d_Mo_days_28 : decode c_Mo_days 28 = .ok (.invokevirtual 212, 3) := by decide +kernel
theorem d_Mo_days_31 : decode c_Mo_days 31 = .ok (.goto 5, 3) := by decide +kernel
theorem d_Mo_days_34 : decode c_Mo_days 34 = .ok (.bipush (-3), 2) := by decide +kernel
theorem d_Mo_days_36 : decode c_Mo_days 36 = .ok (.ireturn, 1) := by decide +kernel
theorem d_Mo_ownRide_0 : decode c_Mo_ownRide 0 = .ok (.aload_n 0, 1) := by decide +kernel
theorem d_Mo_ownRide_1 : decode c_Mo_ownRide 1 = .ok (.invokevirtual 177, 3) := by decide +kernel
theorem d_Mo_ownRide_4 : decode c_Mo_ownRide 4 = .ok (.aload_n 0, 1) := by decide +kernel
theorem d_Mo_ownRide_5 : decode c_Mo_ownRide 5 = .ok (.iload_n 1, 1) := by decide +kernel
theorem d_Mo_ownRide_6 : decode c_Mo_ownRide 6 = .ok (.iload_n 2, 1) := by decide +kernel
theorem d_Mo_ownRide_7 : decode c_Mo_ownRide 7 = .ok (.invokevirtual 165, 3) := by decide +kernel
theorem d_Mo_ownRide_10 : decode c_Mo_ownRide 10 = .ok (.istore_n 3, 1) := by decide +kernel
theorem d_Mo_ownRide_11 : decode c_Mo_ownRide 11 = .ok (.aload_n 0, 1) := by decide +kernel
theorem d_Mo_ownRide_12 : decode c_Mo_ownRide 12 = .ok (.invokevirtual 183, 3) := by decide +kernel
theorem d_Mo_ownRide_15 : decode c_Mo_ownRide 15 = .ok (.iload_n 3, 1) := by decide +kernel
theorem d_Mo_ownRide_16 : decode c_Mo_ownRide 16 = .ok (.ireturn, 1) := by decide +kernel
theorem d_Mo_howLong_0 : decode c_Mo_howLong 0 = .ok (.aload_n 0, 1) := by decide +kernel
theorem d_Mo_howLong_1 : decode c_Mo_howLong 1 = .ok (.iconst 0, 1) := by decide +kernel
theorem d_Mo_howLong_2 : decode c_Mo_howLong 2 = .ok (.putfield 71, 3) := by decide +kernel
theorem d_Mo_howLong_5 : decode c_Mo_howLong 5 = .ok (.aload_n 0, 1) := by decide +kernel
theorem d_Mo_howLong_6 : decode c_Mo_howLong 6 = .ok (.iload_n 1, 1) := by decide +kernel
theorem d_Mo_howLong_7 : decode c_Mo_howLong 7 = .ok (.invokevirtual 162, 3) := by decide +kernel
theorem d_Mo_howLong_10 : decode c_Mo_howLong 10 = .ok (.ifCond .eq 19, 3) := by decide +kernel
theorem d_Mo_howLong_13 : decode c_Mo_howLong 13 = .ok (.iload_n 2, 1) := by decide +kernel
theorem d_Mo_howLong_14 : decode c_Mo_howLong 14 = .ok (.invokestatic 149, 3) := by decide +kernel
theorem d_Mo_howLong_17 : decode c_Mo_howLong 17 = .ok (.ifCond .eq 12, 3) := by decide +kernel
theorem d_Mo_howLong_20 : decode c_Mo_howLong 20 = .ok (.aload_n 0, 1) := by decide +kernel
theorem d_Mo_howLong_21 : decode c_Mo_howLong 21 = .ok (.iload_n 1, 1) := by decide +kernel
theorem d_Mo_howLong_22 : decode c_Mo_howLong 22 = .ok (.iload_n 2, 1) := by decide +kernel
theorem d_Mo_howLong_23 : decode c_Mo_howLong 23 = .ok (.invokevirtual 215, 3) := by decide +kernel
theorem d_Mo_howLong_26 : decode c_Mo_howLong 26 = .ok (.goto 4, 3) := by decide +kernel
theorem d_Mo_howLong_29 : decode c_Mo_howLong 29 = .ok (.iconst (-1), 1) := by decide +kernel
theorem d_Mo_howLong_30 : decode c_Mo_howLong 30 = .ok (.ireturn, 1) := by decide +kernel
theorem d_Mo_behind_0 : decode c_Mo_behind 0 = .ok (.aload_n 0, 1) := by decide +kernel
theorem d_Mo_behind_1 : decode c_Mo_behind 1 = .ok (.iconst 0, 1) := by decide +kernel
theorem d_Mo_behind_2 : decode c_Mo_behind 2 = .ok (.putfield 71, 3) := by decide +kernel
theorem d_Mo_behind_5 : decode c_Mo_behind 5 = .ok (.aload_n 0, 1) := by decide +kernel
theorem d_Mo_behind_6 : decode c_Mo_behind 6 = .ok (.iload_n 1, 1) := by decide +kernel
theorem d_Mo_behind_7 : decode c_Mo_behind 7 = .ok (.invokevirtual 162, 3) := by decide +kernel
theorem d_Mo_behind_10 : decode c_Mo_behind 10 = .ok (.ifCond .eq 25, 3) := by decide +kernel
theorem d_Mo_behind_13 : decode c_Mo_behind 13 = .ok (.iload_n 2, 1) := by decide +kernel
theorem d_Mo_behind_14 : decode c_Mo_behind 14 = .ok (.i2l, 1) := by decide +kernel
theorem d_Mo_behind_15 : decode c_Mo_behind 15 = .ok (.lconst 0, 1) := by decide +kernel
theorem d_Mo_behind_16 : decode c_Mo_behind 16 = .ok (.ldc2_w 152, 3) := by decide +kernel
theorem d_Mo_behind_19 : decode c_Mo_behind 19 = .ok (.invokestatic 77, 3) := by decide +kernel
theorem d_Mo_behind_22 : decode c_Mo_behind 22 = .ok (.ifCond .eq 13, 3) := by decide +kernel
theorem d_Mo_behind_25 : decode c_Mo_behind 25 = .ok (.iload_n 3, 1) := by decide +kernel
theorem d_Mo_behind_26 : decode c_Mo_behind 26 = .ok (.i2l, 1) := by decide +kernel
theorem d_Mo_behind_27 : decode c_Mo_behind 27 = .ok (.lconst 0, 1) := by decide +kernel
theorem d_Mo_behind_28 : decode c_Mo_behind 28 = .ok (.lconst 1, 1) := by decide +kernel
theorem d_Mo_behind_29 : decode c_Mo_behind 29 = .ok (.invokestatic 77, 3) := by decide +kernel
theorem d_Mo_behind_32 : decode c_Mo_behind 32 = .ok (.ifCond .ne 5, 3) := by decide +kernel
theorem d_Mo_behind_35 : decode c_Mo_behind 35 = .ok (.iconst (-1), 1) := by decide +kernel
theorem d_Mo_behind_36 : decode c_Mo_behind 36 = .ok (.ireturn, 1) := by decide +kernel
theorem d_Mo_behind_37 : decode c_Mo_behind 37 = .ok (.aload_n 0, 1) := by decide +kernel
theorem d_Mo_behind_38 : decode c_Mo_behind 38 = .ok (.invokevirtual 177, 3) := by decide +kernel
theorem d_Mo_behind_41 : decode c_Mo_behind 41 = .ok (.aload_n 0, 1) := by decide +kernel
theorem d_Mo_behind_42 : decode c_Mo_behind 42 = .ok (.iload_n 2, 1) := by decide +kernel
theorem d_Mo_behind_43 : decode c_Mo_behind 43 = .ok (.invokevirtual 154, 3) := by decide +kernel
theorem d_Mo_behind_46 : decode c_Mo_behind 46 = .ok (.iload_n 3, 1) := by decide +kernel
theorem d_Mo_behind_47 : decode c_Mo_behind 47 = .ok (.ifCond .ne 12, 3) := by decide +kernel
theorem d_Mo_behind_50 : decode c_Mo_behind 50 = .ok (.aload_n 0, 1) := by decide +kernel
theorem d_Mo_behind_51 : decode c_Mo_behind 51 = .ok (.getfield 22, 3) := by decide +kernel
theorem d_Mo_behind_54 : decode c_Mo_behind 54 = .ok (.iload_n 1, 1) := by decide +kernel
theorem d_Mo_behind_55 : decode c_Mo_behind 55 = .ok (.iaload, 1) := by decide +kernel
theorem d_Mo_behind_56 : decode c_Mo_behind 56 = .ok (.goto 8, 3) := by decide +kernel
theorem d_Mo_behind_59 : decode c_Mo_behind 59 = .ok (.aload_n 0, 1) := by decide +kernel
theorem d_Mo_behind_60 : decode c_Mo_behind 60 = .ok (.iload_n 1, 1) := by decide +kernel
theorem d_Mo_behind_61 : decode c_Mo_behind 61 = .ok (.invokevirtual 108, 3) := by decide +kernel
theorem d_Mo_behind_64 : decode c_Mo_behind 64 = .ok (.istore 4, 2) := by decide +kernel
theorem d_Mo_behind_66 : decode c_Mo_behind 66 = .ok (.aload_n 0, 1) := by decide +kernel
theorem d_Mo_behind_67 : decode c_Mo_behind 67 = .ok (.invokevirtual 183, 3) := by decide +kernel
theorem d_Mo_behind_70 : decode c_Mo_behind 70 = .ok (.iload 4, 2) := by decide +kernel
theorem d_Mo_behind_72 : decode c_Mo_behind 72 = .ok (.ireturn, 1) := by decide +kernel
theorem d_Mo_takeChain_0 : decode c_Mo_takeChain 0 = .ok (.aload_n 0, 1) := by decide +kernel
theorem d_Mo_takeChain_1 : decode c_Mo_takeChain 1 = .ok (.getfield 218, 3) := by decide +kernel
theorem d_Mo_takeChain_4 : decode c_Mo_takeChain 4 = .ok (.ifCond .lt 11, 3) := by decide +kernel
theorem d_Mo_takeChain_7 : decode c_Mo_takeChain 7 = .ok (.iload_n 1, 1) := by decide +kernel
theorem d_Mo_takeChain_8 : decode c_Mo_takeChain 8 = .ok (.aload_n 0, 1) := by decide +kernel
theorem d_Mo_takeChain_9 : decode c_Mo_takeChain 9 = .ok (.getfield 218, 3) := by decide +kernel
theorem d_Mo_takeChain_12 : decode c_Mo_takeChain 12 = .ok (.if_icmp .ge 13, 3) := by decide +kernel
theorem d_Mo_takeChain_15 : decode c_Mo_takeChain 15 = .ok (.aload_n 0, 1) := by decide +kernel
theorem d_Mo_takeChain_16 : decode c_Mo_takeChain 16 = .ok (.iload_n 1, 1) := by decide +kernel
theorem d_Mo_takeChain_17 : decode c_Mo_takeChain 17 = .ok (.putfield 218, 3) := by decide +kernel
theorem d_Mo_takeChain_20 : decode c_Mo_takeChain 20 = .ok (.aload_n 0, 1) := by decide +kernel
theorem d_Mo_takeChain_21 : decode c_Mo_takeChain 21 = .ok (.iload_n 2, 1) := by decide +kernel
theorem d_Mo_takeChain_22 : decode c_Mo_takeChain 22 = .ok (.putfield 221, 3) := by decide +kernel
theorem d_Mo_takeChain_25 : decode c_Mo_takeChain 25 = .ok (.return_, 1) := by decide +kernel
theorem d_Mo_thirdRides_0 : decode c_Mo_thirdRides 0 = .ok (.iconst 0, 1) := by decide +kernel
theorem d_Mo_thirdRides_1 : decode c_Mo_thirdRides 1 = .ok (.istore 6, 2) := by decide +kernel
theorem d_Mo_thirdRides_3 : decode c_Mo_thirdRides 3 = .ok (.iload 6, 2) := by decide +kernel
theorem d_Mo_thirdRides_5 : decode c_Mo_thirdRides 5 = .ok (.aload_n 0, 1) := by decide +kernel
theorem d_Mo_thirdRides_6 : decode c_Mo_thirdRides 6 = .ok (.getfield 81, 3) := by decide +kernel
theorem d_Mo_thirdRides_9 : decode c_Mo_thirdRides 9 = .ok (.if_icmp .ge 67, 3) := by decide +kernel
theorem d_Mo_thirdRides_12 : decode c_Mo_thirdRides 12 = .ok (.iload 6, 2) := by decide +kernel
theorem d_Mo_thirdRides_14 : decode c_Mo_thirdRides 14 = .ok (.iload 4, 2) := by decide +kernel
theorem d_Mo_thirdRides_16 : decode c_Mo_thirdRides 16 = .ok (.if_icmp .eq 54, 3) := by decide +kernel
theorem d_Mo_thirdRides_19 : decode c_Mo_thirdRides 19 = .ok (.iload 6, 2) := by decide +kernel
theorem d_Mo_thirdRides_21 : decode c_Mo_thirdRides 21 = .ok (.iload 5, 2) := by decide +kernel
theorem d_Mo_thirdRides_23 : decode c_Mo_thirdRides 23 = .ok (.if_icmp .eq 47, 3) := by decide +kernel
theorem d_Mo_thirdRides_26 : decode c_Mo_thirdRides 26 = .ok (.aload_n 0, 1) := by decide +kernel
theorem d_Mo_thirdRides_27 : decode c_Mo_thirdRides 27 = .ok (.getfield 19, 3) := by decide +kernel
theorem d_Mo_thirdRides_30 : decode c_Mo_thirdRides 30 = .ok (.iload 6, 2) := by decide +kernel
theorem d_Mo_thirdRides_32 : decode c_Mo_thirdRides 32 = .ok (.iaload, 1) := by decide +kernel
theorem d_Mo_thirdRides_33 : decode c_Mo_thirdRides 33 = .ok (.iload_n 1, 1) := by decide +kernel
theorem d_Mo_thirdRides_34 : decode c_Mo_thirdRides 34 = .ok (.if_icmp .ne 36, 3) := by decide +kernel
theorem d_Mo_thirdRides_37 : decode c_Mo_thirdRides 37 = .ok (.aload_n 0, 1) := by decide +kernel
theorem d_Mo_thirdRides_38 : decode c_Mo_thirdRides 38 = .ok (.aload_n 0, 1) := by decide +kernel
theorem d_Mo_thirdRides_39 : decode c_Mo_thirdRides 39 = .ok (.getfield 59, 3) := by decide +kernel
theorem d_Mo_thirdRides_42 : decode c_Mo_thirdRides 42 = .ok (.iconst 1, 1) := by decide +kernel
theorem d_Mo_thirdRides_43 : decode c_Mo_thirdRides 43 = .ok (.invokevirtual 198, 3) := by decide +kernel
theorem d_Mo_thirdRides_46 : decode c_Mo_thirdRides 46 = .ok (.aload_n 0, 1) := by decide +kernel
theorem d_Mo_thirdRides_47 : decode c_Mo_thirdRides 47 = .ok (.iload_n 3, 1) := by decide +kernel
theorem d_Mo_thirdRides_48 : decode c_Mo_thirdRides 48 = .ok (.aload_n 0, 1) := by decide +kernel
theorem d_Mo_thirdRides_49 : decode c_Mo_thirdRides 49 = .ok (.iload 6, 2) := by decide +kernel
theorem d_Mo_thirdRides_51 : decode c_Mo_thirdRides 51 = .ok (.iload_n 2, 1) := by decide +kernel
theorem d_Mo_thirdRides_52 : decode c_Mo_thirdRides 52 = .ok (.invokevirtual 165, 3) := by decide +kernel
theorem d_Mo_thirdRides_55 : decode c_Mo_thirdRides 55 = .ok (.iadd, 1) := by decide +kernel
theorem d_Mo_thirdRides_56 : decode c_Mo_thirdRides 56 = .ok (.iload 4, 2) := by decide +kernel
theorem d_Mo_thirdRides_58 : decode c_Mo_thirdRides 58 = .ok (.invokevirtual 224, 3) := by decide +kernel
theorem d_Mo_thirdRides_61 : decode c_Mo_thirdRides 61 = .ok (.aload_n 0, 1) := by decide +kernel
theorem d_Mo_thirdRides_62 : decode c_Mo_thirdRides 62 = .ok (.aload_n 0, 1) := by decide +kernel
theorem d_Mo_thirdRides_63 : decode c_Mo_thirdRides 63 = .ok (.getfield 59, 3) := by decide +kernel
theorem d_Mo_thirdRides_66 : decode c_Mo_thirdRides 66 = .ok (.iconst 0, 1) := by decide +kernel
theorem d_Mo_thirdRides_67 : decode c_Mo_thirdRides 67 = .ok (.invokevirtual 198, 3) := by decide +kernel
theorem d_Mo_thirdRides_70 : decode c_Mo_thirdRides 70 = .ok (.iinc 6 1, 3) := by decide +kernel
theorem d_Mo_thirdRides_73 : decode c_Mo_thirdRides 73 = .ok (.goto (-70), 3) := by decide +kernel
theorem d_Mo_thirdRides_76 : decode c_Mo_thirdRides 76 = .ok (.return_, 1) := by decide +kernel
theorem d_Mo_secondRides_0 : decode c_Mo_secondRides 0 = .ok (.iconst 0, 1) := by decide +kernel
theorem d_Mo_secondRides_1 : decode c_Mo_secondRides 1 = .ok (.istore 5, 2) := by decide +kernel
theorem d_Mo_secondRides_3 : decode c_Mo_secondRides 3 = .ok (.iload 5, 2) := by decide +kernel
theorem d_Mo_secondRides_5 : decode c_Mo_secondRides 5 = .ok (.bipush 21, 2) := by decide +kernel
theorem d_Mo_secondRides_7 : decode c_Mo_secondRides 7 = .ok (.aload_n 0, 1) := by decide +kernel
theorem d_Mo_secondRides_8 : decode c_Mo_secondRides 8 = .ok (.getfield 81, 3) := by decide +kernel
theorem d_Mo_secondRides_11 : decode c_Mo_secondRides 11 = .ok (.imul, 1) := by decide +kernel
theorem d_Mo_secondRides_12 : decode c_Mo_secondRides 12 = .ok (.if_icmp .ge 107, 3) := by decide +kernel
theorem d_Mo_secondRides_15 : decode c_Mo_secondRides 15 = .ok (.iload 5, 2) := by decide +kernel
theorem d_Mo_secondRides_17 : decode c_Mo_secondRides 17 = .ok (.bipush 21, 2) := by decide +kernel
theorem d_Mo_secondRides_19 : decode c_Mo_secondRides 19 = .ok (.idiv, 1) := by decide +kernel
theorem d_Mo_secondRides_20 : decode c_Mo_secondRides 20 = .ok (.istore 6, 2) := by decide +kernel
theorem d_Mo_secondRides_22 : decode c_Mo_secondRides 22 = .ok (.iload 5, 2) := by decide +kernel
theorem d_Mo_secondRides_24 : decode c_Mo_secondRides 24 = .ok (.bipush 21, 2) := by decide +kernel
theorem d_Mo_secondRides_26 : decode c_Mo_secondRides 26 = .ok (.irem, 1) := by decide +kernel
theorem d_Mo_secondRides_27 : decode c_Mo_secondRides 27 = .ok (.istore 7, 2) := by decide +kernel
theorem d_Mo_secondRides_29 : decode c_Mo_secondRides 29 = .ok (.iload 6, 2) := by decide +kernel
theorem d_Mo_secondRides_31 : decode c_Mo_secondRides 31 = .ok (.iload 4, 2) := by decide +kernel
theorem d_Mo_secondRides_33 : decode c_Mo_secondRides 33 = .ok (.if_icmp .eq 80, 3) := by decide +kernel
theorem d_Mo_secondRides_36 : decode c_Mo_secondRides 36 = .ok (.aload_n 0, 1) := by decide +kernel
theorem d_Mo_secondRides_37 : decode c_Mo_secondRides 37 = .ok (.getfield 19, 3) := by decide +kernel
theorem d_Mo_secondRides_40 : decode c_Mo_secondRides 40 = .ok (.iload 6, 2) := by decide +kernel
theorem d_Mo_secondRides_42 : decode c_Mo_secondRides 42 = .ok (.iaload, 1) := by decide +kernel
theorem d_Mo_secondRides_43 : decode c_Mo_secondRides 43 = .ok (.iload_n 1, 1) := by decide +kernel
theorem d_Mo_secondRides_44 : decode c_Mo_secondRides 44 = .ok (.if_icmp .ne 69, 3) := by decide +kernel
theorem d_Mo_secondRides_47 : decode c_Mo_secondRides 47 = .ok (.iload 7, 2) := by decide +kernel
theorem d_Mo_secondRides_49 : decode c_Mo_secondRides 49 = .ok (.iload_n 1, 1) := by decide +kernel
theorem d_Mo_secondRides_50 : decode c_Mo_secondRides 50 = .ok (.if_icmp .eq 63, 3) := by decide +kernel
theorem d_Mo_secondRides_53 : decode c_Mo_secondRides 53 = .ok (.aload_n 0, 1) := by decide +kernel
theorem d_Mo_secondRides_54 : decode c_Mo_secondRides 54 = .ok (.aload_n 0, 1) := by decide +kernel
theorem d_Mo_secondRides_55 : decode c_Mo_secondRides 55 = .ok (.getfield 56, 3) := by decide +kernel
theorem d_Mo_secondRides_58 : decode c_Mo_secondRides 58 = .ok (.iconst 1, 1) := by decide +kernel
theorem d_Mo_secondRides_59 : decode c_Mo_secondRides 59 = .ok (.invokevirtual 198, 3) := by decide +kernel
theorem d_Mo_secondRides_62 : decode c_Mo_secondRides 62 = .ok (.iload_n 3, 1) := by decide +kernel
theorem d_Mo_secondRides_63 : decode c_Mo_secondRides 63 = .ok (.aload_n 0, 1) := by decide +kernel
theorem d_Mo_secondRides_64 : decode c_Mo_secondRides 64 = .ok (.iload 6, 2) := by decide +kernel
theorem d_Mo_secondRides_66 : decode c_Mo_secondRides 66 = .ok (.iload 7, 2) := by decide +kernel
theorem d_Mo_secondRides_68 : decode c_Mo_secondRides 68 = .ok (.invokevirtual 165, 3) := by decide +kernel
theorem d_Mo_secondRides_71 : decode c_Mo_secondRides 71 = .ok (.iadd, 1) := by decide +kernel
theorem d_Mo_secondRides_72 : decode c_Mo_secondRides 72 = .ok (.istore 8, 2) := by decide +kernel
theorem d_Mo_secondRides_74 : decode c_Mo_secondRides 74 = .ok (.iload 7, 2) := by decide +kernel
theorem d_Mo_secondRides_76 : decode c_Mo_secondRides 76 = .ok (.iload_n 2, 1) := by decide +kernel
theorem d_Mo_secondRides_77 : decode c_Mo_secondRides 77 = .ok (.if_icmp .ne 14, 3) := by decide +kernel
theorem d_Mo_secondRides_80 : decode c_Mo_secondRides 80 = .ok (.aload_n 0, 1) := by decide +kernel
theorem d_Mo_secondRides_81 : decode c_Mo_secondRides 81 = .ok (.iload 8, 2) := by decide +kernel
theorem d_Mo_secondRides_83 : decode c_Mo_secondRides 83 = .ok (.iload 4, 2) := by decide +kernel
theorem d_Mo_secondRides_85 : decode c_Mo_secondRides 85 = .ok (.invokevirtual 224, 3) := by decide +kernel
theorem d_Mo_secondRides_88 : decode c_Mo_secondRides 88 = .ok (.goto 16, 3) := by decide +kernel
theorem d_Mo_secondRides_91 : decode c_Mo_secondRides 91 = .ok (.aload_n 0, 1) := by decide +kernel
theorem d_Mo_secondRides_92 : decode c_Mo_secondRides 92 = .ok (.iload 7, 2) := by decide +kernel
theorem d_Mo_secondRides_94 : decode c_Mo_secondRides 94 = .ok (.iload_n 2, 1) := by decide +kernel
theorem d_Mo_secondRides_95 : decode c_Mo_secondRides 95 = .ok (.iload 8, 2) := by decide +kernel
theorem d_Mo_secondRides_97 : decode c_Mo_secondRides 97 = .ok (.iload 4, 2) := by decide +kernel
theorem d_Mo_secondRides_99 : decode c_Mo_secondRides 99 = .ok (.iload 6, 2) := by decide +kernel
theorem d_Mo_secondRides_101 : decode c_Mo_secondRides 101 = .ok (.invokevirtual 227, 3) := by decide +kernel
theorem d_Mo_secondRides_104 : decode c_Mo_secondRides 104 = .ok (.aload_n 0, 1) := by decide +kernel
theorem d_Mo_secondRides_105 : decode c_Mo_secondRides 105 = .ok (.aload_n 0, 1) := by decide +kernel
theorem d_Mo_secondRides_106 : decode c_Mo_secondRides 106 = .ok (.getfield 56, 3) := by decide +kernel
theorem d_Mo_secondRides_109 : decode c_Mo_secondRides 109 = .ok (.iconst 0, 1) := by decide +kernel
theorem d_Mo_secondRides_110 : decode c_Mo_secondRides 110 = .ok (.invokevirtual 198, 3) := by decide +kernel
theorem d_Mo_secondRides_113 : decode c_Mo_secondRides 113 = .ok (.iinc 5 1, 3) := by decide +kernel
theorem d_Mo_secondRides_116 : decode c_Mo_secondRides 116 = .ok (.goto (-113), 3) := by decide +kernel
theorem d_Mo_secondRides_119 : decode c_Mo_secondRides 119 = .ok (.return_, 1) := by decide +kernel
theorem d_Mo_chain_0 : decode c_Mo_chain 0 = .ok (.aload_n 0, 1) := by decide +kernel
theorem d_Mo_chain_1 : decode c_Mo_chain 1 = .ok (.iconst 0, 1) := by decide +kernel
theorem d_Mo_chain_2 : decode c_Mo_chain 2 = .ok (.putfield 71, 3) := by decide +kernel
theorem d_Mo_chain_5 : decode c_Mo_chain 5 = .ok (.iload_n 1, 1) := by decide +kernel
theorem d_Mo_chain_6 : decode c_Mo_chain 6 = .ok (.invokestatic 149, 3) := by decide +kernel
theorem d_Mo_chain_9 : decode c_Mo_chain 9 = .ok (.ifCond .eq 20, 3) := by decide +kernel
theorem d_Mo_chain_12 : decode c_Mo_chain 12 = .ok (.iload_n 2, 1) := by decide +kernel
theorem d_Mo_chain_13 : decode c_Mo_chain 13 = .ok (.invokestatic 149, 3) := by decide +kernel
theorem d_Mo_chain_16 : decode c_Mo_chain 16 = .ok (.ifCond .eq 13, 3) := by decide +kernel
theorem d_Mo_chain_19 : decode c_Mo_chain 19 = .ok (.iload_n 3, 1) := by decide +kernel
theorem d_Mo_chain_20 : decode c_Mo_chain 20 = .ok (.i2l, 1) := by decide +kernel
theorem d_Mo_chain_21 : decode c_Mo_chain 21 = .ok (.lconst 0, 1) := by decide +kernel
theorem d_Mo_chain_22 : decode c_Mo_chain 22 = .ok (.lconst 1, 1) := by decide +kernel
theorem d_Mo_chain_23 : decode c_Mo_chain 23 = .ok (.invokestatic 77, 3) := by decide +kernel
theorem d_Mo_chain_26 : decode c_Mo_chain 26 = .ok (.ifCond .ne 5, 3) := by decide +kernel
theorem d_Mo_chain_29 : decode c_Mo_chain 29 = .ok (.iconst (-1), 1) := by decide +kernel
theorem d_Mo_chain_30 : decode c_Mo_chain 30 = .ok (.ireturn, 1) := by decide +kernel
theorem d_Mo_chain_31 : decode c_Mo_chain 31 = .ok (.iload_n 1, 1) := by decide +kernel
theorem d_Mo_chain_32 : decode c_Mo_chain 32 = .ok (.iload_n 2, 1) := by decide +kernel
theorem d_Mo_chain_33 : decode c_Mo_chain 33 = .ok (.if_icmp .ne 14, 3) := by decide +kernel
theorem d_Mo_chain_36 : decode c_Mo_chain 36 = .ok (.iload_n 3, 1) := by decide +kernel
theorem d_Mo_chain_37 : decode c_Mo_chain 37 = .ok (.ifCond .ne 7, 3) := by decide +kernel
theorem d_Mo_chain_40 : decode c_Mo_chain 40 = .ok (.iconst 0, 1) := by decide +kernel
theorem d_Mo_chain_41 : decode c_Mo_chain 41 = .ok (.goto 5, 3) := by decide +kernel
theorem d_Mo_chain_44 : decode c_Mo_chain 44 = .ok (.bipush (-4), 2) := by decide +kernel
theorem d_Mo_chain_46 : decode c_Mo_chain 46 = .ok (.ireturn, 1) := by decide +kernel
theorem d_Mo_chain_47 : decode c_Mo_chain 47 = .ok (.aload_n 0, 1) := by decide +kernel
theorem d_Mo_chain_48 : decode c_Mo_chain 48 = .ok (.bipush (-4), 2) := by decide +kernel
theorem d_Mo_chain_50 : decode c_Mo_chain 50 = .ok (.putfield 218, 3) := by decide +kernel
theorem d_Mo_chain_53 : decode c_Mo_chain 53 = .ok (.aload_n 0, 1) := by decide +kernel
theorem d_Mo_chain_54 : decode c_Mo_chain 54 = .ok (.bipush (-4), 2) := by decide +kernel
theorem d_Mo_chain_56 : decode c_Mo_chain 56 = .ok (.putfield 221, 3) := by decide +kernel
theorem d_Mo_chain_59 : decode c_Mo_chain 59 = .ok (.iconst 0, 1) := by decide +kernel
theorem d_Mo_chain_60 : decode c_Mo_chain 60 = .ok (.istore 4, 2) := by decide +kernel
theorem d_Mo_chain_62 : decode c_Mo_chain 62 = .ok (.iload 4, 2) := by decide +kernel
theorem d_Mo_chain_64 : decode c_Mo_chain 64 = .ok (.bipush 21, 2) := by decide +kernel
theorem d_Mo_chain_66 : decode c_Mo_chain 66 = .ok (.aload_n 0, 1) := by decide +kernel
theorem d_Mo_chain_67 : decode c_Mo_chain 67 = .ok (.getfield 81, 3) := by decide +kernel
theorem d_Mo_chain_70 : decode c_Mo_chain 70 = .ok (.imul, 1) := by decide +kernel
theorem d_Mo_chain_71 : decode c_Mo_chain 71 = .ok (.if_icmp .ge 86, 3) := by decide +kernel
theorem d_Mo_chain_74 : decode c_Mo_chain 74 = .ok (.iload 4, 2) := by decide +kernel
theorem d_Mo_chain_76 : decode c_Mo_chain 76 = .ok (.bipush 21, 2) := by decide +kernel
theorem d_Mo_chain_78 : decode c_Mo_chain 78 = .ok (.idiv, 1) := by decide +kernel
theorem d_Mo_chain_79 : decode c_Mo_chain 79 = .ok (.istore 5, 2) := by decide +kernel
theorem d_Mo_chain_81 : decode c_Mo_chain 81 = .ok (.iload 4, 2) := by decide +kernel
theorem d_Mo_chain_83 : decode c_Mo_chain 83 = .ok (.bipush 21, 2) := by decide +kernel
theorem d_Mo_chain_85 : decode c_Mo_chain 85 = .ok (.irem, 1) := by decide +kernel
theorem d_Mo_chain_86 : decode c_Mo_chain 86 = .ok (.istore 6, 2) := by decide +kernel
theorem d_Mo_chain_88 : decode c_Mo_chain 88 = .ok (.aload_n 0, 1) := by decide +kernel
theorem d_Mo_chain_89 : decode c_Mo_chain 89 = .ok (.getfield 19, 3) := by decide +kernel
theorem d_Mo_chain_92 : decode c_Mo_chain 92 = .ok (.iload 5, 2) := by decide +kernel
theorem d_Mo_chain_94 : decode c_Mo_chain 94 = .ok (.iaload, 1) := by decide +kernel
theorem d_Mo_chain_95 : decode c_Mo_chain 95 = .ok (.iload_n 1, 1) := by decide +kernel
theorem d_Mo_chain_96 : decode c_Mo_chain 96 = .ok (.if_icmp .ne 55, 3) := by decide +kernel
theorem d_Mo_chain_99 : decode c_Mo_chain 99 = .ok (.iload 6, 2) := by decide +kernel
theorem d_Mo_chain_101 : decode c_Mo_chain 101 = .ok (.iload_n 1, 1) := by decide +kernel
theorem d_Mo_chain_102 : decode c_Mo_chain 102 = .ok (.if_icmp .eq 49, 3) := by decide +kernel
theorem d_Mo_chain_105 : decode c_Mo_chain 105 = .ok (.aload_n 0, 1) := by decide +kernel
theorem d_Mo_chain_106 : decode c_Mo_chain 106 = .ok (.invokevirtual 177, 3) := by decide +kernel
theorem d_Mo_chain_109 : decode c_Mo_chain 109 = .ok (.aload_n 0, 1) := by decide +kernel
theorem d_Mo_chain_110 : decode c_Mo_chain 110 = .ok (.iload 5, 2) := by decide +kernel
theorem d_Mo_chain_112 : decode c_Mo_chain 112 = .ok (.iload 6, 2) := by decide +kernel
theorem d_Mo_chain_114 : decode c_Mo_chain 114 = .ok (.invokevirtual 165, 3) := by decide +kernel
theorem d_Mo_chain_117 : decode c_Mo_chain 117 = .ok (.istore 7, 2) := by decide +kernel
theorem d_Mo_chain_119 : decode c_Mo_chain 119 = .ok (.iload 6, 2) := by decide +kernel
theorem d_Mo_chain_121 : decode c_Mo_chain 121 = .ok (.iload_n 2, 1) := by decide +kernel
theorem d_Mo_chain_122 : decode c_Mo_chain 122 = .ok (.if_icmp .ne 14, 3) := by decide +kernel
theorem d_Mo_chain_125 : decode c_Mo_chain 125 = .ok (.aload_n 0, 1) := by decide +kernel
theorem d_Mo_chain_126 : decode c_Mo_chain 126 = .ok (.iload 7, 2) := by decide +kernel
theorem d_Mo_chain_128 : decode c_Mo_chain 128 = .ok (.iload 5, 2) := by decide +kernel
theorem d_Mo_chain_130 : decode c_Mo_chain 130 = .ok (.invokevirtual 224, 3) := by decide +kernel
theorem d_Mo_chain_133 : decode c_Mo_chain 133 = .ok (.goto 14, 3) := by decide +kernel
theorem d_Mo_chain_136 : decode c_Mo_chain 136 = .ok (.aload_n 0, 1) := by decide +kernel
theorem d_Mo_chain_137 : decode c_Mo_chain 137 = .ok (.iload 6, 2) := by decide +kernel
theorem d_Mo_chain_139 : decode c_Mo_chain 139 = .ok (.iload_n 2, 1) := by decide +kernel
theorem d_Mo_chain_140 : decode c_Mo_chain 140 = .ok (.iload 7, 2) := by decide +kernel
theorem d_Mo_chain_142 : decode c_Mo_chain 142 = .ok (.iload 5, 2) := by decide +kernel
theorem d_Mo_chain_144 : decode c_Mo_chain 144 = .ok (.invokevirtual 231, 3) := by decide +kernel
theorem d_Mo_chain_147 : decode c_Mo_chain 147 = .ok (.aload_n 0, 1) := by decide +kernel
theorem d_Mo_chain_148 : decode c_Mo_chain 148 = .ok (.invokevirtual 183, 3) := by decide +kernel
theorem d_Mo_chain_151 : decode c_Mo_chain 151 = .ok (.iinc 4 1, 3) := by decide +kernel
theorem d_Mo_chain_154 : decode c_Mo_chain 154 = .ok (.goto (-92), 3) := by decide +kernel
theorem d_Mo_chain_157 : decode c_Mo_chain 157 = .ok (.iload_n 3, 1) := by decide +kernel
theorem d_Mo_chain_158 : decode c_Mo_chain 158 = .ok (.ifCond .ne 10, 3) := by decide +kernel
theorem d_Mo_chain_161 : decode c_Mo_chain 161 = .ok (.aload_n 0, 1) := by decide +kernel
theorem d_Mo_chain_162 : decode c_Mo_chain 162 = .ok (.getfield 218, 3) := by decide +kernel
theorem d_Mo_chain_165 : decode c_Mo_chain 165 = .ok (.goto 7, 3) := by decide +kernel
theorem d_Mo_chain_168 : decode c_Mo_chain 168 = .ok (.aload_n 0, 1) := by decide +kernel
theorem d_Mo_chain_169 : decode c_Mo_chain 169 = .ok (.getfield 221, 3) := by decide +kernel
theorem d_Mo_chain_172 : decode c_Mo_chain 172 = .ok (.ireturn, 1) := by decide +kernel
theorem d_Mo_hurry_0 : decode c_Mo_hurry 0 = .ok (.aload_n 0, 1) := by decide +kernel
theorem d_Mo_hurry_1 : decode c_Mo_hurry 1 = .ok (.iconst 0, 1) := by decide +kernel
theorem d_Mo_hurry_2 : decode c_Mo_hurry 2 = .ok (.putfield 71, 3) := by decide +kernel
theorem d_Mo_hurry_5 : decode c_Mo_hurry 5 = .ok (.iload_n 1, 1) := by decide +kernel
theorem d_Mo_hurry_6 : decode c_Mo_hurry 6 = .ok (.invokestatic 149, 3) := by decide +kernel
theorem d_Mo_hurry_9 : decode c_Mo_hurry 9 = .ok (.ifCond .eq 13, 3) := by decide +kernel
theorem d_Mo_hurry_12 : decode c_Mo_hurry 12 = .ok (.iload_n 2, 1) := by decide +kernel
theorem d_Mo_hurry_13 : decode c_Mo_hurry 13 = .ok (.i2l, 1) := by decide +kernel
theorem d_Mo_hurry_14 : decode c_Mo_hurry 14 = .ok (.lconst 0, 1) := by decide +kernel
theorem d_Mo_hurry_15 : decode c_Mo_hurry 15 = .ok (.lconst 1, 1) := by decide +kernel
theorem d_Mo_hurry_16 : decode c_Mo_hurry 16 = .ok (.invokestatic 77, 3) := by decide +kernel
theorem d_Mo_hurry_19 : decode c_Mo_hurry 19 = .ok (.ifCond .ne 5, 3) := by decide +kernel
theorem d_Mo_hurry_22 : decode c_Mo_hurry 22 = .ok (.iconst (-1), 1) := by decide +kernel
theorem d_Mo_hurry_23 : decode c_Mo_hurry 23 = .ok (.ireturn, 1) := by decide +kernel
theorem d_Mo_hurry_24 : decode c_Mo_hurry 24 = .ok (.bipush (-4), 2) := by decide +kernel
theorem d_Mo_hurry_26 : decode c_Mo_hurry 26 = .ok (.istore_n 3, 1) := by decide +kernel
theorem d_Mo_hurry_27 : decode c_Mo_hurry 27 = .ok (.bipush (-4), 2) := by decide +kernel
theorem d_Mo_hurry_29 : decode c_Mo_hurry 29 = .ok (.istore 4, 2) := by decide +kernel
theorem d_Mo_hurry_31 : decode c_Mo_hurry 31 = .ok (.iconst 0, 1) := by decide +kernel
theorem d_Mo_hurry_32 : decode c_Mo_hurry 32 = .ok (.istore 5, 2) := by decide +kernel
theorem d_Mo_hurry_34 : decode c_Mo_hurry 34 = .ok (.iload 5, 2) := by decide +kernel
theorem d_Mo_hurry_36 : decode c_Mo_hurry 36 = .ok (.aload_n 0, 1) := by decide +kernel
theorem d_Mo_hurry_37 : decode c_Mo_hurry 37 = .ok (.getfield 81, 3) := by decide +kernel
theorem d_Mo_hurry_40 : decode c_Mo_hurry 40 = .ok (.if_icmp .ge 58, 3) := by decide +kernel
theorem d_Mo_hurry_43 : decode c_Mo_hurry 43 = .ok (.aload_n 0, 1) := by decide +kernel
theorem d_Mo_hurry_44 : decode c_Mo_hurry 44 = .ok (.iload 5, 2) := by decide +kernel
theorem d_Mo_hurry_46 : decode c_Mo_hurry 46 = .ok (.iload_n 1, 1) := by decide +kernel
theorem d_Mo_hurry_47 : decode c_Mo_hurry 47 = .ok (.invokevirtual 215, 3) := by decide +kernel
theorem d_Mo_hurry_50 : decode c_Mo_hurry 50 = .ok (.istore 6, 2) := by decide +kernel
theorem d_Mo_hurry_52 : decode c_Mo_hurry 52 = .ok (.iload 4, 2) := by decide +kernel
theorem d_Mo_hurry_54 : decode c_Mo_hurry 54 = .ok (.ifCond .lt 10, 3) := by decide +kernel
theorem d_Mo_hurry_57 : decode c_Mo_hurry 57 = .ok (.iload 6, 2) := by decide +kernel
theorem d_Mo_hurry_59 : decode c_Mo_hurry 59 = .ok (.iload 4, 2) := by decide +kernel
theorem d_Mo_hurry_61 : decode c_Mo_hurry 61 = .ok (.if_icmp .ge 8, 3) := by decide +kernel
theorem d_Mo_hurry_64 : decode c_Mo_hurry 64 = .ok (.iload 5, 2) := by decide +kernel
theorem d_Mo_hurry_66 : decode c_Mo_hurry 66 = .ok (.goto 4, 3) := by decide +kernel
theorem d_Mo_hurry_69 : decode c_Mo_hurry 69 = .ok (.iload_n 3, 1) := by decide +kernel
theorem d_Mo_hurry_70 : decode c_Mo_hurry 70 = .ok (.istore_n 3, 1) := by decide +kernel
theorem d_Mo_hurry_71 : decode c_Mo_hurry 71 = .ok (.iload 4, 2) := by decide +kernel
theorem d_Mo_hurry_73 : decode c_Mo_hurry 73 = .ok (.ifCond .lt 10, 3) := by decide +kernel
theorem d_Mo_hurry_76 : decode c_Mo_hurry 76 = .ok (.iload 6, 2) := by decide +kernel
theorem d_Mo_hurry_78 : decode c_Mo_hurry 78 = .ok (.iload 4, 2) := by decide +kernel
theorem d_Mo_hurry_80 : decode c_Mo_hurry 80 = .ok (.if_icmp .ge 8, 3) := by decide +kernel
theorem d_Mo_hurry_83 : decode c_Mo_hurry 83 = .ok (.iload 6, 2) := by decide +kernel
theorem d_Mo_hurry_85 : decode c_Mo_hurry 85 = .ok (.goto 5, 3) := by decide +kernel
theorem d_Mo_hurry_88 : decode c_Mo_hurry 88 = .ok (.iload 4, 2) := by decide +kernel
theorem d_Mo_hurry_90 : decode c_Mo_hurry 90 = .ok (.istore 4, 2) := by decide +kernel
theorem d_Mo_hurry_92 : decode c_Mo_hurry 92 = .ok (.iinc 5 1, 3) := by decide +kernel
theorem d_Mo_hurry_95 : decode c_Mo_hurry 95 = .ok (.goto (-61), 3) := by decide +kernel
theorem d_Mo_hurry_98 : decode c_Mo_hurry 98 = .ok (.iload_n 2, 1) := by decide +kernel
theorem d_Mo_hurry_99 : decode c_Mo_hurry 99 = .ok (.ifCond .ne 7, 3) := by decide +kernel
theorem d_Mo_hurry_102 : decode c_Mo_hurry 102 = .ok (.iload_n 3, 1) := by decide +kernel
theorem d_Mo_hurry_103 : decode c_Mo_hurry 103 = .ok (.goto 5, 3) := by decide +kernel
theorem d_Mo_hurry_106 : decode c_Mo_hurry 106 = .ok (.iload 4, 2) := by decide +kernel
theorem d_Mo_hurry_108 : decode c_Mo_hurry 108 = .ok (.ireturn, 1) := by decide +kernel
theorem d_Mo_fastest_0 : decode c_Mo_fastest 0 = .ok (.aload_n 0, 1) := by decide +kernel
theorem d_Mo_fastest_1 : decode c_Mo_fastest 1 = .ok (.iconst 0, 1) := by decide +kernel
theorem d_Mo_fastest_2 : decode c_Mo_fastest 2 = .ok (.putfield 71, 3) := by decide +kernel
theorem d_Mo_fastest_5 : decode c_Mo_fastest 5 = .ok (.iload_n 1, 1) := by decide +kernel
theorem d_Mo_fastest_6 : decode c_Mo_fastest 6 = .ok (.i2l, 1) := by decide +kernel
theorem d_Mo_fastest_7 : decode c_Mo_fastest 7 = .ok (.lconst 0, 1) := by decide +kernel
theorem d_Mo_fastest_8 : decode c_Mo_fastest 8 = .ok (.ldc2_w 152, 3) := by decide +kernel
theorem d_Mo_fastest_11 : decode c_Mo_fastest 11 = .ok (.invokestatic 77, 3) := by decide +kernel
theorem d_Mo_fastest_14 : decode c_Mo_fastest 14 = .ok (.ifCond .ne 5, 3) := by decide +kernel
theorem d_Mo_fastest_17 : decode c_Mo_fastest 17 = .ok (.iconst (-1), 1) := by decide +kernel
theorem d_Mo_fastest_18 : decode c_Mo_fastest 18 = .ok (.ireturn, 1) := by decide +kernel
theorem d_Mo_fastest_19 : decode c_Mo_fastest 19 = .ok (.aload_n 0, 1) := by decide +kernel
theorem d_Mo_fastest_20 : decode c_Mo_fastest 20 = .ok (.invokevirtual 177, 3) := by decide +kernel
theorem d_Mo_fastest_23 : decode c_Mo_fastest 23 = .ok (.aload_n 0, 1) := by decide +kernel
theorem d_Mo_fastest_24 : decode c_Mo_fastest 24 = .ok (.iload_n 1, 1) := by decide +kernel
theorem d_Mo_fastest_25 : decode c_Mo_fastest 25 = .ok (.invokevirtual 154, 3) := by decide +kernel
theorem d_Mo_fastest_28 : decode c_Mo_fastest 28 = .ok (.bipush (-4), 2) := by decide +kernel
theorem d_Mo_fastest_30 : decode c_Mo_fastest 30 = .ok (.istore_n 2, 1) := by decide +kernel
theorem d_Mo_fastest_31 : decode c_Mo_fastest 31 = .ok (.iconst 0, 1) := by decide +kernel
theorem d_Mo_fastest_32 : decode c_Mo_fastest 32 = .ok (.istore_n 3, 1) := by decide +kernel
theorem d_Mo_fastest_33 : decode c_Mo_fastest 33 = .ok (.iload_n 3, 1) := by decide +kernel
theorem d_Mo_fastest_34 : decode c_Mo_fastest 34 = .ok (.aload_n 0, 1) := by decide +kernel
theorem d_Mo_fastest_35 : decode c_Mo_fastest 35 = .ok (.getfield 81, 3) := by decide +kernel
theorem d_Mo_fastest_38 : decode c_Mo_fastest 38 = .ok (.if_icmp .ge 32, 3) := by decide +kernel
theorem d_Mo_fastest_41 : decode c_Mo_fastest 41 = .ok (.iload_n 2, 1) := by decide +kernel
theorem d_Mo_fastest_42 : decode c_Mo_fastest 42 = .ok (.ifCond .lt 16, 3) := by decide +kernel
theorem d_Mo_fastest_45 : decode c_Mo_fastest 45 = .ok (.aload_n 0, 1) := by decide +kernel
theorem d_Mo_fastest_46 : decode c_Mo_fastest 46 = .ok (.iload_n 3, 1) := by decide +kernel
theorem d_Mo_fastest_47 : decode c_Mo_fastest 47 = .ok (.invokevirtual 108, 3) := by decide +kernel
theorem d_Mo_fastest_50 : decode c_Mo_fastest 50 = .ok (.aload_n 0, 1) := by decide +kernel
theorem d_Mo_fastest_51 : decode c_Mo_fastest 51 = .ok (.iload_n 2, 1) := by decide +kernel
theorem d_Mo_fastest_52 : decode c_Mo_fastest 52 = .ok (.invokevirtual 108, 3) := by decide +kernel
theorem d_Mo_fastest_55 : decode c_Mo_fastest 55 = .ok (.if_icmp .le 7, 3) := by decide +kernel
theorem d_Mo_fastest_58 : decode c_Mo_fastest 58 = .ok (.iload_n 3, 1) := by decide +kernel
theorem d_Mo_fastest_59 : decode c_Mo_fastest 59 = .ok (.goto 4, 3) := by decide +kernel
theorem d_Mo_fastest_62 : decode c_Mo_fastest 62 = .ok (.iload_n 2, 1) := by decide +kernel
theorem d_Mo_fastest_63 : decode c_Mo_fastest 63 = .ok (.istore_n 2, 1) := by decide +kernel
theorem d_Mo_fastest_64 : decode c_Mo_fastest 64 = .ok (.iinc 3 1, 3) := by decide +kernel
theorem d_Mo_fastest_67 : decode c_Mo_fastest 67 = .ok (.goto (-34), 3) := by decide +kernel
theorem d_Mo_fastest_70 : decode c_Mo_fastest 70 = .ok (.aload_n 0, 1) := by decide +kernel
theorem d_Mo_fastest_71 : decode c_Mo_fastest 71 = .ok (.invokevirtual 183, 3) := by decide +kernel
theorem d_Mo_fastest_74 : decode c_Mo_fastest 74 = .ok (.iload_n 2, 1) := by decide +kernel
theorem d_Mo_fastest_75 : decode c_Mo_fastest 75 = .ok (.ireturn, 1) := by decide +kernel
theorem d_Mo_away_0 : decode c_Mo_away 0 = .ok (.aload_n 0, 1) := by decide +kernel
theorem d_Mo_away_1 : decode c_Mo_away 1 = .ok (.iconst 0, 1) := by decide +kernel
theorem d_Mo_away_2 : decode c_Mo_away 2 = .ok (.putfield 71, 3) := by decide +kernel
theorem d_Mo_away_5 : decode c_Mo_away 5 = .ok (.iconst 0, 1) := by decide +kernel
theorem d_Mo_away_6 : decode c_Mo_away 6 = .ok (.istore_n 1, 1) := by decide +kernel
theorem d_Mo_away_7 : decode c_Mo_away 7 = .ok (.iconst 0, 1) := by decide +kernel
theorem d_Mo_away_8 : decode c_Mo_away 8 = .ok (.istore_n 2, 1) := by decide +kernel
theorem d_Mo_away_9 : decode c_Mo_away 9 = .ok (.iload_n 2, 1) := by decide +kernel
theorem d_Mo_away_10 : decode c_Mo_away 10 = .ok (.aload_n 0, 1) := by decide +kernel
theorem d_Mo_away_11 : decode c_Mo_away 11 = .ok (.getfield 81, 3) := by decide +kernel
theorem d_Mo_away_14 : decode c_Mo_away 14 = .ok (.if_icmp .ge 33, 3) := by decide +kernel
theorem d_Mo_away_17 : decode c_Mo_away 17 = .ok (.iload_n 1, 1) := by decide +kernel
theorem d_Mo_away_18 : decode c_Mo_away 18 = .ok (.aload_n 0, 1) := by decide +kernel
theorem d_Mo_away_19 : decode c_Mo_away 19 = .ok (.getfield 19, 3) := by decide +kernel
theorem d_Mo_away_22 : decode c_Mo_away 22 = .ok (.iload_n 2, 1) := by decide +kernel
theorem d_Mo_away_23 : decode c_Mo_away 23 = .ok (.iaload, 1) := by decide +kernel
theorem d_Mo_away_24 : decode c_Mo_away 24 = .ok (.aload_n 0, 1) := by decide +kernel
theorem d_Mo_away_25 : decode c_Mo_away 25 = .ok (.iload_n 2, 1) := by decide +kernel
theorem d_Mo_away_26 : decode c_Mo_away 26 = .ok (.invokevirtual 91, 3) := by decide +kernel
theorem d_Mo_away_29 : decode c_Mo_away 29 = .ok (.if_icmp .eq 9, 3) := by decide +kernel
theorem d_Mo_away_32 : decode c_Mo_away 32 = .ok (.iconst 1, 1) := by decide +kernel
theorem d_Mo_away_33 : decode c_Mo_away 33 = .ok (.iload_n 2, 1) := by decide +kernel
theorem d_Mo_away_34 : decode c_Mo_away 34 = .ok (.ishl, 1) := by decide +kernel
theorem d_Mo_away_35 : decode c_Mo_away 35 = .ok (.goto 4, 3) := by decide +kernel
theorem d_Mo_away_38 : decode c_Mo_away 38 = .ok (.iconst 0, 1) := by decide +kernel
theorem d_Mo_away_39 : decode c_Mo_away 39 = .ok (.ior, 1) := by decide +kernel
theorem d_Mo_away_40 : decode c_Mo_away 40 = .ok (.istore_n 1, 1) := by decide +kernel
theorem d_Mo_away_41 : decode c_Mo_away 41 = .ok (.iinc 2 1, 3) := by decide +kernel
theorem d_Mo_away_44 : decode c_Mo_away 44 = .ok (.goto (-35), 3) := by decide +kernel
theorem d_Mo_away_47 : decode c_Mo_away 47 = .ok (.iload_n 1, 1) := by decide +kernel
theorem d_Mo_away_48 : decode c_Mo_away 48 = .ok (.ireturn, 1) := by decide +kernel
theorem d_Mo_ripe_0 : decode c_Mo_ripe 0 = .ok (.aload_n 0, 1) := by decide +kernel
theorem d_Mo_ripe_1 : decode c_Mo_ripe 1 = .ok (.iconst 0, 1) := by decide +kernel
theorem d_Mo_ripe_2 : decode c_Mo_ripe 2 = .ok (.putfield 71, 3) := by decide +kernel
theorem d_Mo_ripe_5 : decode c_Mo_ripe 5 = .ok (.aload_n 0, 1) := by decide +kernel
theorem d_Mo_ripe_6 : decode c_Mo_ripe 6 = .ok (.iload_n 1, 1) := by decide +kernel
theorem d_Mo_ripe_7 : decode c_Mo_ripe 7 = .ok (.invokevirtual 162, 3) := by decide +kernel
theorem d_Mo_ripe_10 : decode c_Mo_ripe 10 = .ok (.ifCond .eq 15, 3) := by decide +kernel
theorem d_Mo_ripe_13 : decode c_Mo_ripe 13 = .ok (.iload_n 2, 1) := by decide +kernel
theorem d_Mo_ripe_14 : decode c_Mo_ripe 14 = .ok (.i2l, 1) := by decide +kernel
theorem d_Mo_ripe_15 : decode c_Mo_ripe 15 = .ok (.lconst 1, 1) := by decide +kernel
theorem d_Mo_ripe_16 : decode c_Mo_ripe 16 = .ok (.ldc2_w 152, 3) := by decide +kernel
theorem d_Mo_ripe_19 : decode c_Mo_ripe 19 = .ok (.invokestatic 77, 3) := by decide +kernel
theorem d_Mo_ripe_22 : decode c_Mo_ripe 22 = .ok (.ifCond .ne 5, 3) := by decide +kernel
theorem d_Mo_ripe_25 : decode c_Mo_ripe 25 = .ok (.iconst (-1), 1) := by decide +kernel
theorem d_Mo_ripe_26 : decode c_Mo_ripe 26 = .ok (.ireturn, 1) := by decide +kernel
theorem d_Mo_ripe_27 : decode c_Mo_ripe 27 = .ok (.bipush (-4), 2) := by decide +kernel
theorem d_Mo_ripe_29 : decode c_Mo_ripe 29 = .ok (.istore_n 3, 1) := by decide +kernel
theorem d_Mo_ripe_30 : decode c_Mo_ripe 30 = .ok (.aload_n 0, 1) := by decide +kernel
theorem d_Mo_ripe_31 : decode c_Mo_ripe 31 = .ok (.invokevirtual 177, 3) := by decide +kernel
theorem d_Mo_ripe_34 : decode c_Mo_ripe 34 = .ok (.iconst 0, 1) := by decide +kernel
theorem d_Mo_ripe_35 : decode c_Mo_ripe 35 = .ok (.istore 4, 2) := by decide +kernel
theorem d_Mo_ripe_37 : decode c_Mo_ripe 37 = .ok (.iload 4, 2) := by decide +kernel
theorem d_Mo_ripe_39 : decode c_Mo_ripe 39 = .ok (.bipush 60, 2) := by decide +kernel
theorem d_Mo_ripe_41 : decode c_Mo_ripe 41 = .ok (.if_icmp .gt 35, 3) := by decide +kernel
theorem d_Mo_ripe_44 : decode c_Mo_ripe 44 = .ok (.iload_n 3, 1) := by decide +kernel
theorem d_Mo_ripe_45 : decode c_Mo_ripe 45 = .ok (.ifCond .ge 31, 3) := by decide +kernel
theorem d_Mo_ripe_48 : decode c_Mo_ripe 48 = .ok (.aload_n 0, 1) := by decide +kernel
theorem d_Mo_ripe_49 : decode c_Mo_ripe 49 = .ok (.iload_n 1, 1) := by decide +kernel
theorem d_Mo_ripe_50 : decode c_Mo_ripe 50 = .ok (.invokevirtual 108, 3) := by decide +kernel
theorem d_Mo_ripe_53 : decode c_Mo_ripe 53 = .ok (.iload_n 2, 1) := by decide +kernel
theorem d_Mo_ripe_54 : decode c_Mo_ripe 54 = .ok (.if_icmp .lt 8, 3) := by decide +kernel
theorem d_Mo_ripe_57 : decode c_Mo_ripe 57 = .ok (.iload 4, 2) := by decide +kernel
theorem d_Mo_ripe_59 : decode c_Mo_ripe 59 = .ok (.goto 5, 3) := by decide +kernel
theorem d_Mo_ripe_62 : decode c_Mo_ripe 62 = .ok (.bipush (-4), 2) := by decide +kernel
theorem d_Mo_ripe_64 : decode c_Mo_ripe 64 = .ok (.istore_n 3, 1) := by decide +kernel
theorem d_Mo_ripe_65 : decode c_Mo_ripe 65 = .ok (.aload_n 0, 1) := by decide +kernel
theorem d_Mo_ripe_66 : decode c_Mo_ripe 66 = .ok (.iconst 0, 1) := by decide +kernel
theorem d_Mo_ripe_67 : decode c_Mo_ripe 67 = .ok (.invokevirtual 104, 3) := by decide +kernel
theorem d_Mo_ripe_70 : decode c_Mo_ripe 70 = .ok (.iinc 4 1, 3) := by decide +kernel
theorem d_Mo_ripe_73 : decode c_Mo_ripe 73 = .ok (.goto (-36), 3) := by decide +kernel
theorem d_Mo_ripe_76 : decode c_Mo_ripe 76 = .ok (.aload_n 0, 1) := by decide +kernel
theorem d_Mo_ripe_77 : decode c_Mo_ripe 77 = .ok (.invokevirtual 183, 3) := by decide +kernel
theorem d_Mo_ripe_80 : decode c_Mo_ripe 80 = .ok (.iload_n 3, 1) := by decide +kernel
theorem d_Mo_ripe_81 : decode c_Mo_ripe 81 = .ok (.ireturn, 1) := by decide +kernel
theorem d_Mo_leastLonging_0 : decode c_Mo_leastLonging 0 = .ok (.aload_n 0, 1) := by decide +kernel
theorem d_Mo_leastLonging_1 : decode c_Mo_leastLonging 1 = .ok (.iconst 0, 1) := by decide +kernel
theorem d_Mo_leastLonging_2 : decode c_Mo_leastLonging 2 = .ok (.putfield 71, 3) := by decide +kernel
theorem d_Mo_leastLonging_5 : decode c_Mo_leastLonging 5 = .ok (.aload_n 0, 1) := by decide +kernel
theorem d_Mo_leastLonging_6 : decode c_Mo_leastLonging 6 = .ok (.iload_n 1, 1) := by decide +kernel
theorem d_Mo_leastLonging_7 : decode c_Mo_leastLonging 7 = .ok (.invokevirtual 162, 3) := by decide +kernel
theorem d_Mo_leastLonging_10 : decode c_Mo_leastLonging 10 = .ok (.ifCond .eq 22, 3) := by decide +kernel
theorem d_Mo_leastLonging_13 : decode c_Mo_leastLonging 13 = .ok (.iload_n 2, 1) := by decide +kernel
theorem d_Mo_leastLonging_14 : decode c_Mo_leastLonging 14 = .ok (.invokestatic 149, 3) := by decide +kernel
theorem d_Mo_leastLonging_17 : decode c_Mo_leastLonging 17 = .ok (.ifCond .eq 15, 3) := by decide +kernel
theorem d_Mo_leastLonging_20 : decode c_Mo_leastLonging 20 = .ok (.iload_n 3, 1) := by decide +kernel
theorem d_Mo_leastLonging_21 : decode c_Mo_leastLonging 21 = .ok (.i2l, 1) := by decide +kernel
theorem d_Mo_leastLonging_22 : decode c_Mo_leastLonging 22 = .ok (.lconst 0, 1) := by decide +kernel
theorem d_Mo_leastLonging_23 : decode c_Mo_leastLonging 23 = .ok (.ldc2_w 75, 3) := by decide +kernel
theorem d_Mo_leastLonging_26 : decode c_Mo_leastLonging 26 = .ok (.invokestatic 77, 3) := by decide +kernel
theorem d_Mo_leastLonging_29 : decode c_Mo_leastLonging 29 = .ok (.ifCond .ne 5, 3) := by decide +kernel
theorem d_Mo_leastLonging_32 : decode c_Mo_leastLonging 32 = .ok (.iconst (-1), 1) := by decide +kernel
theorem d_Mo_leastLonging_33 : decode c_Mo_leastLonging 33 = .ok (.ireturn, 1) := by decide +kernel
theorem d_Mo_leastLonging_34 : decode c_Mo_leastLonging 34 = .ok (.bipush (-4), 2) := by decide +kernel
theorem d_Mo_leastLonging_36 : decode c_Mo_leastLonging 36 = .ok (.istore 4, 2) := by decide +kernel
theorem d_Mo_leastLonging_38 : decode c_Mo_leastLonging 38 = .ok (.aload_n 0, 1) := by decide +kernel
theorem d_Mo_leastLonging_39 : decode c_Mo_leastLonging 39 = .ok (.invokevirtual 177, 3) := by decide +kernel
theorem d_Mo_leastLonging_42 : decode c_Mo_leastLonging 42 = .ok (.iconst 0, 1) := by decide +kernel
theorem d_Mo_leastLonging_43 : decode c_Mo_leastLonging 43 = .ok (.istore 5, 2) := by decide +kernel
theorem d_Mo_leastLonging_45 : decode c_Mo_leastLonging 45 = .ok (.iload 5, 2) := by decide +kernel
theorem d_Mo_leastLonging_47 : decode c_Mo_leastLonging 47 = .ok (.bipush 99, 2) := by decide +kernel
theorem d_Mo_leastLonging_49 : decode c_Mo_leastLonging 49 = .ok (.if_icmp .gt 45, 3) := by decide +kernel
theorem d_Mo_leastLonging_52 : decode c_Mo_leastLonging 52 = .ok (.iload 4, 2) := by decide +kernel
theorem d_Mo_leastLonging_54 : decode c_Mo_leastLonging 54 = .ok (.ifCond .ge 40, 3) := by decide +kernel
theorem d_Mo_leastLonging_57 : decode c_Mo_leastLonging 57 = .ok (.aload_n 0, 1) := by decide +kernel
theorem d_Mo_leastLonging_58 : decode c_Mo_leastLonging 58 = .ok (.getfield 22, 3) := by decide +kernel
theorem d_Mo_leastLonging_61 : decode c_Mo_leastLonging 61 = .ok (.iload_n 1, 1) := by decide +kernel
theorem d_Mo_leastLonging_62 : decode c_Mo_leastLonging 62 = .ok (.iload 5, 2) := by decide +kernel
theorem d_Mo_leastLonging_64 : decode c_Mo_leastLonging 64 = .ok (.iastore, 1) := by decide +kernel
theorem d_Mo_leastLonging_65 : decode c_Mo_leastLonging 65 = .ok (.aload_n 0, 1) := by decide +kernel
theorem d_Mo_leastLonging_66 : decode c_Mo_leastLonging 66 = .ok (.iload_n 1, 1) := by decide +kernel
theorem d_Mo_leastLonging_67 : decode c_Mo_leastLonging 67 = .ok (.iload_n 2, 1) := by decide +kernel
theorem d_Mo_leastLonging_68 : decode c_Mo_leastLonging 68 = .ok (.invokevirtual 165, 3) := by decide +kernel
theorem d_Mo_leastLonging_71 : decode c_Mo_leastLonging 71 = .ok (.iload_n 3, 1) := by decide +kernel
theorem d_Mo_leastLonging_72 : decode c_Mo_leastLonging 72 = .ok (.if_icmp .gt 8, 3) := by decide +kernel
theorem d_Mo_leastLonging_75 : decode c_Mo_leastLonging 75 = .ok (.iload 5, 2) := by decide +kernel
theorem d_Mo_leastLonging_77 : decode c_Mo_leastLonging 77 = .ok (.goto 5, 3) := by decide +kernel
theorem d_Mo_leastLonging_80 : decode c_Mo_leastLonging 80 = .ok (.bipush (-4), 2) := by decide +kernel
theorem d_Mo_leastLonging_82 : decode c_Mo_leastLonging 82 = .ok (.istore 4, 2) := by decide +kernel
theorem d_Mo_leastLonging_84 : decode c_Mo_leastLonging 84 = .ok (.aload_n 0, 1) := by decide +kernel
theorem d_Mo_leastLonging_85 : decode c_Mo_leastLonging 85 = .ok (.invokevirtual 183, 3) := by decide +kernel
theorem d_Mo_leastLonging_88 : decode c_Mo_leastLonging 88 = .ok (.iinc 5 1, 3) := by decide +kernel
theorem d_Mo_leastLonging_91 : decode c_Mo_leastLonging 91 = .ok (.goto (-46), 3) := by decide +kernel
theorem d_Mo_leastLonging_94 : decode c_Mo_leastLonging 94 = .ok (.iload 4, 2) := by decide +kernel
theorem d_Mo_leastLonging_96 : decode c_Mo_leastLonging 96 = .ok (.ireturn, 1) := by decide +kernel
theorem d_Mo_soonest_0 : decode c_Mo_soonest 0 = .ok (.aload_n 0, 1) := by decide +kernel
theorem d_Mo_soonest_1 : decode c_Mo_soonest 1 = .ok (.iconst 0, 1) := by decide +kernel
theorem d_Mo_soonest_2 : decode c_Mo_soonest 2 = .ok (.putfield 71, 3) := by decide +kernel
theorem d_Mo_soonest_5 : decode c_Mo_soonest 5 = .ok (.aload_n 0, 1) := by decide +kernel
theorem d_Mo_soonest_6 : decode c_Mo_soonest 6 = .ok (.iload_n 1, 1) := by decide +kernel
theorem d_Mo_soonest_7 : decode c_Mo_soonest 7 = .ok (.invokevirtual 162, 3) := by decide +kernel
theorem d_Mo_soonest_10 : decode c_Mo_soonest 10 = .ok (.ifCond .eq 20, 3) := by decide +kernel
theorem d_Mo_soonest_13 : decode c_Mo_soonest 13 = .ok (.iload_n 2, 1) := by decide +kernel
theorem d_Mo_soonest_14 : decode c_Mo_soonest 14 = .ok (.invokestatic 149, 3) := by decide +kernel
theorem d_Mo_soonest_17 : decode c_Mo_soonest 17 = .ok (.ifCond .eq 13, 3) := by decide +kernel
theorem d_Mo_soonest_20 : decode c_Mo_soonest 20 = .ok (.iload_n 3, 1) := by decide +kernel
theorem d_Mo_soonest_21 : decode c_Mo_soonest 21 = .ok (.i2l, 1) := by decide +kernel
theorem d_Mo_soonest_22 : decode c_Mo_soonest 22 = .ok (.lconst 0, 1) := by decide +kernel
theorem d_Mo_soonest_23 : decode c_Mo_soonest 23 = .ok (.lconst 1, 1) := by decide +kernel
theorem d_Mo_soonest_24 : decode c_Mo_soonest 24 = .ok (.invokestatic 77, 3) := by decide +kernel
theorem d_Mo_soonest_27 : decode c_Mo_soonest 27 = .ok (.ifCond .ne 5, 3) := by decide +kernel
theorem d_Mo_soonest_30 : decode c_Mo_soonest 30 = .ok (.iconst (-1), 1) := by decide +kernel
theorem d_Mo_soonest_31 : decode c_Mo_soonest 31 = .ok (.ireturn, 1) := by decide +kernel
theorem d_Mo_soonest_32 : decode c_Mo_soonest 32 = .ok (.iconst 0, 1) := by decide +kernel
theorem d_Mo_soonest_33 : decode c_Mo_soonest 33 = .ok (.istore 4, 2) := by decide +kernel
theorem d_Mo_soonest_35 : decode c_Mo_soonest 35 = .ok (.iconst (-1), 1) := by decide +kernel
theorem d_Mo_soonest_36 : decode c_Mo_soonest 36 = .ok (.istore 5, 2) := by decide +kernel
theorem d_Mo_soonest_38 : decode c_Mo_soonest 38 = .ok (.aload_n 0, 1) := by decide +kernel
theorem d_Mo_soonest_39 : decode c_Mo_soonest 39 = .ok (.invokevirtual 177, 3) := by decide +kernel
theorem d_Mo_soonest_42 : decode c_Mo_soonest 42 = .ok (.iconst 0, 1) := by decide +kernel
theorem d_Mo_soonest_43 : decode c_Mo_soonest 43 = .ok (.istore 6, 2) := by decide +kernel
theorem d_Mo_soonest_45 : decode c_Mo_soonest 45 = .ok (.iload 6, 2) := by decide +kernel
theorem d_Mo_soonest_47 : decode c_Mo_soonest 47 = .ok (.bipush 30, 2) := by decide +kernel
theorem d_Mo_soonest_49 : decode c_Mo_soonest 49 = .ok (.if_icmp .gt 72, 3) := by decide +kernel
theorem d_Mo_soonest_52 : decode c_Mo_soonest 52 = .ok (.aload_n 0, 1) := by decide +kernel
theorem d_Mo_soonest_53 : decode c_Mo_soonest 53 = .ok (.iload 6, 2) := by decide +kernel
theorem d_Mo_soonest_55 : decode c_Mo_soonest 55 = .ok (.invokevirtual 154, 3) := by decide +kernel
theorem d_Mo_soonest_58 : decode c_Mo_soonest 58 = .ok (.iload 6, 2) := by decide +kernel
theorem d_Mo_soonest_60 : decode c_Mo_soonest 60 = .ok (.aload_n 0, 1) := by decide +kernel
theorem d_Mo_soonest_61 : decode c_Mo_soonest 61 = .ok (.iload_n 1, 1) := by decide +kernel
theorem d_Mo_soonest_62 : decode c_Mo_soonest 62 = .ok (.iload_n 2, 1) := by decide +kernel
theorem d_Mo_soonest_63 : decode c_Mo_soonest 63 = .ok (.invokevirtual 165, 3) := by decide +kernel
theorem d_Mo_soonest_66 : decode c_Mo_soonest 66 = .ok (.iadd, 1) := by decide +kernel
theorem d_Mo_soonest_67 : decode c_Mo_soonest 67 = .ok (.istore 7, 2) := by decide +kernel
theorem d_Mo_soonest_69 : decode c_Mo_soonest 69 = .ok (.aload_n 0, 1) := by decide +kernel
theorem d_Mo_soonest_70 : decode c_Mo_soonest 70 = .ok (.invokevirtual 183, 3) := by decide +kernel
theorem d_Mo_soonest_73 : decode c_Mo_soonest 73 = .ok (.iload 5, 2) := by decide +kernel
theorem d_Mo_soonest_75 : decode c_Mo_soonest 75 = .ok (.ifCond .lt 10, 3) := by decide +kernel
theorem d_Mo_soonest_78 : decode c_Mo_soonest 78 = .ok (.iload 7, 2) := by decide +kernel
theorem d_Mo_soonest_80 : decode c_Mo_soonest 80 = .ok (.iload 5, 2) := by decide +kernel
theorem d_Mo_soonest_82 : decode c_Mo_soonest 82 = .ok (.if_icmp .ge 8, 3) := by decide +kernel
theorem d_Mo_soonest_85 : decode c_Mo_soonest 85 = .ok (.iload 6, 2) := by decide +kernel
theorem d_Mo_soonest_87 : decode c_Mo_soonest 87 = .ok (.goto 5, 3) := by decide +kernel
theorem d_Mo_soonest_90 : decode c_Mo_soonest 90 = .ok (.iload 4, 2) := by decide +kernel
theorem d_Mo_soonest_92 : decode c_Mo_soonest 92 = .ok (.istore 4, 2) := by decide +kernel
theorem d_Mo_soonest_94 : decode c_Mo_soonest 94 = .ok (.iload 5, 2) := by decide +kernel
theorem d_Mo_soonest_96 : decode c_Mo_soonest 96 = .ok (.ifCond .lt 10, 3) := by decide +kernel
theorem d_Mo_soonest_99 : decode c_Mo_soonest 99 = .ok (.iload 7, 2) := by decide +kernel
theorem d_Mo_soonest_101 : decode c_Mo_soonest 101 = .ok (.iload 5, 2) := by decide +kernel
theorem d_Mo_soonest_103 : decode c_Mo_soonest 103 = .ok (.if_icmp .ge 8, 3) := by decide +kernel
theorem d_Mo_soonest_106 : decode c_Mo_soonest 106 = .ok (.iload 7, 2) := by decide +kernel
theorem d_Mo_soonest_108 : decode c_Mo_soonest 108 = .ok (.goto 5, 3) := by decide +kernel
theorem d_Mo_soonest_111 : decode c_Mo_soonest 111 = .ok (.iload 5, 2) := by decide +kernel
theorem d_Mo_soonest_113 : decode c_Mo_soonest 113 = .ok (.istore 5, 2) := by decide +kernel
theorem d_Mo_soonest_115 : decode c_Mo_soonest 115 = .ok (.iinc 6 1, 3) := by decide +kernel
theorem d_Mo_soonest_118 : decode c_Mo_soonest 118 = .ok (.goto (-73), 3) := by decide +kernel
theorem d_Mo_soonest_121 : decode c_Mo_soonest 121 = .ok (.iload_n 3, 1) := by decide +kernel
theorem d_Mo_soonest_122 : decode c_Mo_soonest 122 = .ok (.ifCond .ne 8, 3) := by decide +kernel
theorem d_Mo_soonest_125 : decode c_Mo_soonest 125 = .ok (.iload 4, 2) := by decide +kernel
theorem d_Mo_soonest_127 : decode c_Mo_soonest 127 = .ok (.goto 5, 3) := by decide +kernel
theorem d_Mo_soonest_130 : decode c_Mo_soonest 130 = .ok (.iload 5, 2) := by decide +kernel
theorem d_Mo_soonest_132 : decode c_Mo_soonest 132 = .ok (.ireturn, 1) := by decide +kernel
theorem d_Mo_race_0 : decode c_Mo_race 0 = .ok (.aload_n 0, 1) := by decide +kernel
theorem d_Mo_race_1 : decode c_Mo_race 1 = .ok (.iconst 0, 1) := by decide +kernel
theorem d_Mo_race_2 : decode c_Mo_race 2 = .ok (.putfield 71, 3) := by decide +kernel
theorem d_Mo_race_5 : decode c_Mo_race 5 = .ok (.aload_n 0, 1) := by decide +kernel
theorem d_Mo_race_6 : decode c_Mo_race 6 = .ok (.iload_n 1, 1) := by decide +kernel
theorem d_Mo_race_7 : decode c_Mo_race 7 = .ok (.invokevirtual 162, 3) := by decide +kernel
theorem d_Mo_race_10 : decode c_Mo_race 10 = .ok (.ifCond .eq 23, 3) := by decide +kernel
theorem d_Mo_race_13 : decode c_Mo_race 13 = .ok (.aload_n 0, 1) := by decide +kernel
theorem d_Mo_race_14 : decode c_Mo_race 14 = .ok (.iload_n 2, 1) := by decide +kernel
theorem d_Mo_race_15 : decode c_Mo_race 15 = .ok (.invokevirtual 162, 3) := by decide +kernel
theorem d_Mo_race_18 : decode c_Mo_race 18 = .ok (.ifCond .eq 15, 3) := by decide +kernel
theorem d_Mo_race_21 : decode c_Mo_race 21 = .ok (.iload_n 1, 1) := by decide +kernel
theorem d_Mo_race_22 : decode c_Mo_race 22 = .ok (.iload_n 2, 1) := by decide +kernel
theorem d_Mo_race_23 : decode c_Mo_race 23 = .ok (.if_icmp .eq 10, 3) := by decide +kernel
theorem d_Mo_race_26 : decode c_Mo_race 26 = .ok (.iload_n 3, 1) := by decide +kernel
theorem d_Mo_race_27 : decode c_Mo_race 27 = .ok (.invokestatic 149, 3) := by decide +kernel
theorem d_Mo_race_30 : decode c_Mo_race 30 = .ok (.ifCond .ne 5, 3) := by decide +kernel
theorem d_Mo_race_33 : decode c_Mo_race 33 = .ok (.iconst (-1), 1) := by decide +kernel
theorem d_Mo_race_34 : decode c_Mo_race 34 = .ok (.ireturn, 1) := by decide +kernel
theorem d_Mo_race_35 : decode c_Mo_race 35 = .ok (.aload_n 0, 1) := by decide +kernel
theorem d_Mo_race_36 : decode c_Mo_race 36 = .ok (.iload_n 1, 1) := by decide +kernel
theorem d_Mo_race_37 : decode c_Mo_race 37 = .ok (.iload_n 3, 1) := by decide +kernel
theorem d_Mo_race_38 : decode c_Mo_race 38 = .ok (.invokevirtual 215, 3) := by decide +kernel
theorem d_Mo_race_41 : decode c_Mo_race 41 = .ok (.istore 4, 2) := by decide +kernel
theorem d_Mo_race_43 : decode c_Mo_race 43 = .ok (.aload_n 0, 1) := by decide +kernel
theorem d_Mo_race_44 : decode c_Mo_race 44 = .ok (.iload_n 2, 1) := by decide +kernel
theorem d_Mo_race_45 : decode c_Mo_race 45 = .ok (.iload_n 3, 1) := by decide +kernel
theorem d_Mo_race_46 : decode c_Mo_race 46 = .ok (.invokevirtual 215, 3) := by decide +kernel
theorem d_Mo_race_49 : decode c_Mo_race 49 = .ok (.istore 5, 2) := by decide +kernel
theorem d_Mo_race_51 : decode c_Mo_race 51 = .ok (.iload 4, 2) := by decide +kernel
theorem d_Mo_race_53 : decode c_Mo_race 53 = .ok (.iload 5, 2) := by decide +kernel
theorem d_Mo_race_55 : decode c_Mo_race 55 = .ok (.if_icmp .ne 8, 3) := by decide +kernel
theorem d_Mo_race_58 : decode c_Mo_race 58 = .ok (.bipush (-4), 2) := by decide +kernel
theorem d_Mo_race_60 : decode c_Mo_race 60 = .ok (.goto 15, 3) := by decide +kernel
theorem d_Mo_race_63 : decode c_Mo_race 63 = .ok (.iload 4, 2) := by decide +kernel
theorem d_Mo_race_65 : decode c_Mo_race 65 = .ok (.iload 5, 2) := by decide +kernel
theorem d_Mo_race_67 : decode c_Mo_race 67 = .ok (.if_icmp .ge 7, 3) := by decide +kernel
theorem d_Mo_race_70 : decode c_Mo_race 70 = .ok (.iload_n 1, 1) := by decide +kernel
theorem d_Mo_race_71 : decode c_Mo_race 71 = .ok (.goto 4, 3) := by decide +kernel
theorem d_Mo_race_74 : decode c_Mo_race 74 = .ok (.iload_n 2, 1) := by decide +kernel
theorem d_Mo_race_75 : decode c_Mo_race 75 = .ok (.ireturn, 1) := by decide +kernel
theorem d_Mo_walkAhead_0 : decode c_Mo_walkAhead 0 = .ok (.aload_n 0, 1) := by decide +kernel
theorem d_Mo_walkAhead_1 : decode c_Mo_walkAhead 1 = .ok (.iconst 0, 1) := by decide +kernel
theorem d_Mo_walkAhead_2 : decode c_Mo_walkAhead 2 = .ok (.putfield 71, 3) := by decide +kernel
theorem d_Mo_walkAhead_5 : decode c_Mo_walkAhead 5 = .ok (.aload_n 0, 1) := by decide +kernel
theorem d_Mo_walkAhead_6 : decode c_Mo_walkAhead 6 = .ok (.iload_n 1, 1) := by decide +kernel
theorem d_Mo_walkAhead_7 : decode c_Mo_walkAhead 7 = .ok (.invokevirtual 162, 3) := by decide +kernel
theorem d_Mo_walkAhead_10 : decode c_Mo_walkAhead 10 = .ok (.ifCond .eq 33, 3) := by decide +kernel
theorem d_Mo_walkAhead_13 : decode c_Mo_walkAhead 13 = .ok (.iload_n 2, 1) := by decide +kernel
theorem d_Mo_walkAhead_14 : decode c_Mo_walkAhead 14 = .ok (.invokestatic 149, 3) := by decide +kernel
theorem d_Mo_walkAhead_17 : decode c_Mo_walkAhead 17 = .ok (.ifCond .eq 26, 3) := by decide +kernel
theorem d_Mo_walkAhead_20 : decode c_Mo_walkAhead 20 = .ok (.iload_n 3, 1) := by decide +kernel
theorem d_Mo_walkAhead_21 : decode c_Mo_walkAhead 21 = .ok (.i2l, 1) := by decide +kernel
theorem d_Mo_walkAhead_22 : decode c_Mo_walkAhead 22 = .ok (.lconst 0, 1) := by decide +kernel
theorem d_Mo_walkAhead_23 : decode c_Mo_walkAhead 23 = .ok (.ldc2_w 235, 3) := by decide +kernel
theorem d_Mo_walkAhead_26 : decode c_Mo_walkAhead 26 = .ok (.invokestatic 77, 3) := by decide +kernel
theorem d_Mo_walkAhead_29 : decode c_Mo_walkAhead 29 = .ok (.ifCond .eq 14, 3) := by decide +kernel
theorem d_Mo_walkAhead_32 : decode c_Mo_walkAhead 32 = .ok (.iload 4, 2) := by decide +kernel
theorem d_Mo_walkAhead_34 : decode c_Mo_walkAhead 34 = .ok (.i2l, 1) := by decide +kernel
theorem d_Mo_walkAhead_35 : decode c_Mo_walkAhead 35 = .ok (.lconst 0, 1) := by decide +kernel
theorem d_Mo_walkAhead_36 : decode c_Mo_walkAhead 36 = .ok (.lconst 1, 1) := by decide +kernel
theorem d_Mo_walkAhead_37 : decode c_Mo_walkAhead 37 = .ok (.invokestatic 77, 3) := by decide +kernel
theorem d_Mo_walkAhead_40 : decode c_Mo_walkAhead 40 = .ok (.ifCond .ne 5, 3) := by decide +kernel
theorem d_Mo_walkAhead_43 : decode c_Mo_walkAhead 43 = .ok (.iconst (-1), 1) := by decide +kernel
theorem d_Mo_walkAhead_44 : decode c_Mo_walkAhead 44 = .ok (.ireturn, 1) := by decide +kernel
theorem d_Mo_walkAhead_45 : decode c_Mo_walkAhead 45 = .ok (.iconst 0, 1) := by decide +kernel
theorem d_Mo_walkAhead_46 : decode c_Mo_walkAhead 46 = .ok (.istore 5, 2) := by decide +kernel
theorem d_Mo_walkAhead_48 : decode c_Mo_walkAhead 48 = .ok (.iconst (-1), 1) := by decide +kernel
theorem d_Mo_walkAhead_49 : decode c_Mo_walkAhead 49 = .ok (.istore 6, 2) := by decide +kernel
theorem d_Mo_walkAhead_51 : decode c_Mo_walkAhead 51 = .ok (.aload_n 0, 1) := by decide +kernel
theorem d_Mo_walkAhead_52 : decode c_Mo_walkAhead 52 = .ok (.invokevirtual 177, 3) := by decide +kernel
theorem d_Mo_walkAhead_55 : decode c_Mo_walkAhead 55 = .ok (.iconst 0, 1) := by decide +kernel
theorem d_Mo_walkAhead_56 : decode c_Mo_walkAhead 56 = .ok (.istore 7, 2) := by decide +kernel
theorem d_Mo_walkAhead_58 : decode c_Mo_walkAhead 58 = .ok (.iload 7, 2) := by decide +kernel
theorem d_Mo_walkAhead_60 : decode c_Mo_walkAhead 60 = .ok (.bipush 20, 2) := by decide +kernel
theorem d_Mo_walkAhead_62 : decode c_Mo_walkAhead 62 = .ok (.if_icmp .gt 76, 3) := by decide +kernel
theorem d_Mo_walkAhead_65 : decode c_Mo_walkAhead 65 = .ok (.aload_n 0, 1) := by decide +kernel
theorem d_Mo_walkAhead_66 : decode c_Mo_walkAhead 66 = .ok (.getfield 19, 3) := by decide +kernel
theorem d_Mo_walkAhead_69 : decode c_Mo_walkAhead 69 = .ok (.iload_n 1, 1) := by decide +kernel
theorem d_Mo_walkAhead_70 : decode c_Mo_walkAhead 70 = .ok (.iload 7, 2) := by decide +kernel
theorem d_Mo_walkAhead_72 : decode c_Mo_walkAhead 72 = .ok (.iastore, 1) := by decide +kernel
theorem d_Mo_walkAhead_73 : decode c_Mo_walkAhead 73 = .ok (.aload_n 0, 1) := by decide +kernel
theorem d_Mo_walkAhead_74 : decode c_Mo_walkAhead 74 = .ok (.iload_n 3, 1) := by decide +kernel
theorem d_Mo_walkAhead_75 : decode c_Mo_walkAhead 75 = .ok (.invokevirtual 154, 3) := by decide +kernel
theorem d_Mo_walkAhead_78 : decode c_Mo_walkAhead 78 = .ok (.aload_n 0, 1) := by decide +kernel
theorem d_Mo_walkAhead_79 : decode c_Mo_walkAhead 79 = .ok (.iload_n 1, 1) := by decide +kernel
theorem d_Mo_walkAhead_80 : decode c_Mo_walkAhead 80 = .ok (.iload_n 2, 1) := by decide +kernel
theorem d_Mo_walkAhead_81 : decode c_Mo_walkAhead 81 = .ok (.invokevirtual 165, 3) := by decide +kernel
theorem d_Mo_walkAhead_84 : decode c_Mo_walkAhead 84 = .ok (.istore 8, 2) := by decide +kernel
theorem d_Mo_walkAhead_86 : decode c_Mo_walkAhead 86 = .ok (.aload_n 0, 1) := by decide +kernel
theorem d_Mo_walkAhead_87 : decode c_Mo_walkAhead 87 = .ok (.invokevirtual 183, 3) := by decide +kernel
theorem d_Mo_walkAhead_90 : decode c_Mo_walkAhead 90 = .ok (.iload 6, 2) := by decide +kernel
theorem d_Mo_walkAhead_92 : decode c_Mo_walkAhead 92 = .ok (.ifCond .lt 10, 3) := by decide +kernel
theorem d_Mo_walkAhead_95 : decode c_Mo_walkAhead 95 = .ok (.iload 8, 2) := by decide +kernel
theorem d_Mo_walkAhead_97 : decode c_Mo_walkAhead 97 = .ok (.iload 6, 2) := by decide +kernel
theorem d_Mo_walkAhead_99 : decode c_Mo_walkAhead 99 = .ok (.if_icmp .ge 8, 3) := by decide +kernel
theorem d_Mo_walkAhead_102 : decode c_Mo_walkAhead 102 = .ok (.iload 7, 2) := by decide +kernel
theorem d_Mo_walkAhead_104 : decode c_Mo_walkAhead 104 = .ok (.goto 5, 3) := by decide +kernel
theorem d_Mo_walkAhead_107 : decode c_Mo_walkAhead 107 = .ok (.iload 5, 2) := by decide +kernel
theorem d_Mo_walkAhead_109 : decode c_Mo_walkAhead 109 = .ok (.istore 5, 2) := by decide +kernel
theorem d_Mo_walkAhead_111 : decode c_Mo_walkAhead 111 = .ok (.iload 6, 2) := by decide +kernel
theorem d_Mo_walkAhead_113 : decode c_Mo_walkAhead 113 = .ok (.ifCond .lt 10, 3) := by decide +kernel
theorem d_Mo_walkAhead_116 : decode c_Mo_walkAhead 116 = .ok (.iload 8, 2) := by decide +kernel
theorem d_Mo_walkAhead_118 : decode c_Mo_walkAhead 118 = .ok (.iload 6, 2) := by decide +kernel
theorem d_Mo_walkAhead_120 : decode c_Mo_walkAhead 120 = .ok (.if_icmp .ge 8, 3) := by decide +kernel
theorem d_Mo_walkAhead_123 : decode c_Mo_walkAhead 123 = .ok (.iload 8, 2) := by decide +kernel
theorem d_Mo_walkAhead_125 : decode c_Mo_walkAhead 125 = .ok (.goto 5, 3) := by decide +kernel
theorem d_Mo_walkAhead_128 : decode c_Mo_walkAhead 128 = .ok (.iload 6, 2) := by decide +kernel
theorem d_Mo_walkAhead_130 : decode c_Mo_walkAhead 130 = .ok (.istore 6, 2) := by decide +kernel
theorem d_Mo_walkAhead_132 : decode c_Mo_walkAhead 132 = .ok (.iinc 7 1, 3) := by decide +kernel
theorem d_Mo_walkAhead_135 : decode c_Mo_walkAhead 135 = .ok (.goto (-77), 3) := by decide +kernel
theorem d_Mo_walkAhead_138 : decode c_Mo_walkAhead 138 = .ok (.iload 4, 2) := by decide +kernel
theorem d_Mo_walkAhead_140 : decode c_Mo_walkAhead 140 = .ok (.ifCond .ne 8, 3) := by decide +kernel
theorem d_Mo_walkAhead_143 : decode c_Mo_walkAhead 143 = .ok (.iload 5, 2) := by decide +kernel
theorem d_Mo_walkAhead_145 : decode c_Mo_walkAhead 145 = .ok (.goto 5, 3) := by decide +kernel
theorem d_Mo_walkAhead_148 : decode c_Mo_walkAhead 148 = .ok (.iload 6, 2) := by decide +kernel
theorem d_Mo_walkAhead_150 : decode c_Mo_walkAhead 150 = .ok (.ireturn, 1) := by decide +kernel
theorem d_Mo_hang_0 : decode c_Mo_hang 0 = .ok (.aload_n 0, 1) := by decide +kernel
theorem d_Mo_hang_1 : decode c_Mo_hang 1 = .ok (.iconst 0, 1) := by decide +kernel
theorem d_Mo_hang_2 : decode c_Mo_hang 2 = .ok (.putfield 71, 3) := by decide +kernel
theorem d_Mo_hang_5 : decode c_Mo_hang 5 = .ok (.iload_n 1, 1) := by decide +kernel
theorem d_Mo_hang_6 : decode c_Mo_hang 6 = .ok (.i2l, 1) := by decide +kernel
theorem d_Mo_hang_7 : decode c_Mo_hang 7 = .ok (.lconst 0, 1) := by decide +kernel
theorem d_Mo_hang_8 : decode c_Mo_hang 8 = .ok (.ldc2_w 152, 3) := by decide +kernel
theorem d_Mo_hang_11 : decode c_Mo_hang 11 = .ok (.invokestatic 77, 3) := by decide +kernel
theorem d_Mo_hang_14 : decode c_Mo_hang 14 = .ok (.ifCond .eq 13, 3) := by decide +kernel
theorem d_Mo_hang_17 : decode c_Mo_hang 17 = .ok (.iload_n 2, 1) := by decide +kernel
theorem d_Mo_hang_18 : decode c_Mo_hang 18 = .ok (.i2l, 1) := by decide +kernel
theorem d_Mo_hang_19 : decode c_Mo_hang 19 = .ok (.lconst 0, 1) := by decide +kernel
theorem d_Mo_hang_20 : decode c_Mo_hang 20 = .ok (.lconst 1, 1) := by decide +kernel
theorem d_Mo_hang_21 : decode c_Mo_hang 21 = .ok (.invokestatic 77, 3) := by decide +kernel
theorem d_Mo_hang_24 : decode c_Mo_hang 24 = .ok (.ifCond .ne 5, 3) := by decide +kernel
theorem d_Mo_hang_27 : decode c_Mo_hang 27 = .ok (.iconst (-1), 1) := by decide +kernel
theorem d_Mo_hang_28 : decode c_Mo_hang 28 = .ok (.ireturn, 1) := by decide +kernel
theorem d_Mo_hang_29 : decode c_Mo_hang 29 = .ok (.iconst 0, 1) := by decide +kernel
theorem d_Mo_hang_30 : decode c_Mo_hang 30 = .ok (.istore_n 3, 1) := by decide +kernel
theorem d_Mo_hang_31 : decode c_Mo_hang 31 = .ok (.iconst (-1), 1) := by decide +kernel
theorem d_Mo_hang_32 : decode c_Mo_hang 32 = .ok (.istore 4, 2) := by decide +kernel
theorem d_Mo_hang_34 : decode c_Mo_hang 34 = .ok (.aload_n 0, 1) := by decide +kernel
theorem d_Mo_hang_35 : decode c_Mo_hang 35 = .ok (.invokevirtual 177, 3) := by decide +kernel
theorem d_Mo_hang_38 : decode c_Mo_hang 38 = .ok (.iconst 0, 1) := by decide +kernel
theorem d_Mo_hang_39 : decode c_Mo_hang 39 = .ok (.istore 5, 2) := by decide +kernel
theorem d_Mo_hang_41 : decode c_Mo_hang 41 = .ok (.iload 5, 2) := by decide +kernel
theorem d_Mo_hang_43 : decode c_Mo_hang 43 = .ok (.bipush 20, 2) := by decide +kernel
theorem d_Mo_hang_45 : decode c_Mo_hang 45 = .ok (.if_icmp .gt 60, 3) := by decide +kernel
theorem d_Mo_hang_48 : decode c_Mo_hang 48 = .ok (.aload_n 0, 1) := by decide +kernel
theorem d_Mo_hang_49 : decode c_Mo_hang 49 = .ok (.iload 5, 2) := by decide +kernel
theorem d_Mo_hang_51 : decode c_Mo_hang 51 = .ok (.putfield 88, 3) := by decide +kernel
theorem d_Mo_hang_54 : decode c_Mo_hang 54 = .ok (.aload_n 0, 1) := by decide +kernel
theorem d_Mo_hang_55 : decode c_Mo_hang 55 = .ok (.iload_n 1, 1) := by decide +kernel
theorem d_Mo_hang_56 : decode c_Mo_hang 56 = .ok (.invokevirtual 154, 3) := by decide +kernel
theorem d_Mo_hang_59 : decode c_Mo_hang 59 = .ok (.aload_n 0, 1) := by decide +kernel
theorem d_Mo_hang_60 : decode c_Mo_hang 60 = .ok (.invokevirtual 212, 3) := by decide +kernel
theorem d_Mo_hang_63 : decode c_Mo_hang 63 = .ok (.istore 6, 2) := by decide +kernel
theorem d_Mo_hang_65 : decode c_Mo_hang 65 = .ok (.aload_n 0, 1) := by decide +kernel
theorem d_Mo_hang_66 : decode c_Mo_hang 66 = .ok (.invokevirtual 183, 3) := by decide +kernel
theorem d_Mo_hang_69 : decode c_Mo_hang 69 = .ok (.iload 6, 2) := by decide +kernel
theorem d_Mo_hang_71 : decode c_Mo_hang 71 = .ok (.iload 4, 2) := by decide +kernel
theorem d_Mo_hang_73 : decode c_Mo_hang 73 = .ok (.if_icmp .le 8, 3) := by decide +kernel
theorem d_Mo_hang_76 : decode c_Mo_hang 76 = .ok (.iload 5, 2) := by decide +kernel
theorem d_Mo_hang_78 : decode c_Mo_hang 78 = .ok (.goto 4, 3) := by decide +kernel
theorem d_Mo_hang_81 : decode c_Mo_hang 81 = .ok (.iload_n 3, 1) := by decide +kernel
theorem d_Mo_hang_82 : decode c_Mo_hang 82 = .ok (.istore_n 3, 1) := by decide +kernel
theorem d_Mo_hang_83 : decode c_Mo_hang 83 = .ok (.iload 6, 2) := by decide +kernel
theorem d_Mo_hang_85 : decode c_Mo_hang 85 = .ok (.iload 4, 2) := by decide +kernel
theorem d_Mo_hang_87 : decode c_Mo_hang 87 = .ok (.if_icmp .le 8, 3) := by decide +kernel
theorem d_Mo_hang_90 : decode c_Mo_hang 90 = .ok (.iload 6, 2) := by decide +kernel
theorem d_Mo_hang_92 : decode c_Mo_hang 92 = .ok (.goto 5, 3) := by decide +kernel
theorem d_Mo_hang_95 : decode c_Mo_hang 95 = .ok (.iload 4, 2) := by decide +kernel
theorem d_Mo_hang_97 : decode c_Mo_hang 97 = .ok (.istore 4, 2) := by decide +kernel
theorem d_Mo_hang_99 : decode c_Mo_hang 99 = .ok (.iinc 5 1, 3) := by decide +kernel
theorem d_Mo_hang_102 : decode c_Mo_hang 102 = .ok (.goto (-61), 3) := by decide +kernel
theorem d_Mo_hang_105 : decode c_Mo_hang 105 = .ok (.iload_n 2, 1) := by decide +kernel
theorem d_Mo_hang_106 : decode c_Mo_hang 106 = .ok (.ifCond .ne 7, 3) := by decide +kernel
theorem d_Mo_hang_109 : decode c_Mo_hang 109 = .ok (.iload_n 3, 1) := by decide +kernel
theorem d_Mo_hang_110 : decode c_Mo_hang 110 = .ok (.goto 5, 3) := by decide +kernel
theorem d_Mo_hang_113 : decode c_Mo_hang 113 = .ok (.iload 4, 2) := by decide +kernel
theorem d_Mo_hang_115 : decode c_Mo_hang 115 = .ok (.ireturn, 1) := by decide +kernel
theorem d_Mo_meet_0 : decode c_Mo_meet 0 = .ok (.aload_n 0, 1) := by decide +kernel
theorem d_Mo_meet_1 : decode c_Mo_meet 1 = .ok (.iconst 0, 1) := by decide +kernel
theorem d_Mo_meet_2 : decode c_Mo_meet 2 = .ok (.putfield 71, 3) := by decide +kernel
theorem d_Mo_meet_5 : decode c_Mo_meet 5 = .ok (.iload_n 1, 1) := by decide +kernel
theorem d_Mo_meet_6 : decode c_Mo_meet 6 = .ok (.i2l, 1) := by decide +kernel
theorem d_Mo_meet_7 : decode c_Mo_meet 7 = .ok (.lconst 0, 1) := by decide +kernel
theorem d_Mo_meet_8 : decode c_Mo_meet 8 = .ok (.lconst 1, 1) := by decide +kernel
theorem d_Mo_meet_9 : decode c_Mo_meet 9 = .ok (.invokestatic 77, 3) := by decide +kernel
theorem d_Mo_meet_12 : decode c_Mo_meet 12 = .ok (.ifCond .ne 5, 3) := by decide +kernel
theorem d_Mo_meet_15 : decode c_Mo_meet 15 = .ok (.iconst (-1), 1) := by decide +kernel
theorem d_Mo_meet_16 : decode c_Mo_meet 16 = .ok (.ireturn, 1) := by decide +kernel
theorem d_Mo_meet_17 : decode c_Mo_meet 17 = .ok (.iconst 0, 1) := by decide +kernel
theorem d_Mo_meet_18 : decode c_Mo_meet 18 = .ok (.istore_n 2, 1) := by decide +kernel
theorem d_Mo_meet_19 : decode c_Mo_meet 19 = .ok (.iconst (-1), 1) := by decide +kernel
theorem d_Mo_meet_20 : decode c_Mo_meet 20 = .ok (.istore_n 3, 1) := by decide +kernel
theorem d_Mo_meet_21 : decode c_Mo_meet 21 = .ok (.iconst 0, 1) := by decide +kernel
theorem d_Mo_meet_22 : decode c_Mo_meet 22 = .ok (.istore 4, 2) := by decide +kernel
theorem d_Mo_meet_24 : decode c_Mo_meet 24 = .ok (.iload 4, 2) := by decide +kernel
theorem d_Mo_meet_26 : decode c_Mo_meet 26 = .ok (.bipush 20, 2) := by decide +kernel
theorem d_Mo_meet_28 : decode c_Mo_meet 28 = .ok (.if_icmp .gt 77, 3) := by decide +kernel
theorem d_Mo_meet_31 : decode c_Mo_meet 31 = .ok (.iconst 0, 1) := by decide +kernel
theorem d_Mo_meet_32 : decode c_Mo_meet 32 = .ok (.istore 5, 2) := by decide +kernel
theorem d_Mo_meet_34 : decode c_Mo_meet 34 = .ok (.iconst 0, 1) := by decide +kernel
theorem d_Mo_meet_35 : decode c_Mo_meet 35 = .ok (.istore 6, 2) := by decide +kernel
theorem d_Mo_meet_37 : decode c_Mo_meet 37 = .ok (.iload 6, 2) := by decide +kernel
theorem d_Mo_meet_39 : decode c_Mo_meet 39 = .ok (.aload_n 0, 1) := by decide +kernel
theorem d_Mo_meet_40 : decode c_Mo_meet 40 = .ok (.getfield 81, 3) := by decide +kernel
theorem d_Mo_meet_43 : decode c_Mo_meet 43 = .ok (.if_icmp .ge 22, 3) := by decide +kernel
theorem d_Mo_meet_46 : decode c_Mo_meet 46 = .ok (.iload 5, 2) := by decide +kernel
theorem d_Mo_meet_48 : decode c_Mo_meet 48 = .ok (.aload_n 0, 1) := by decide +kernel
theorem d_Mo_meet_49 : decode c_Mo_meet 49 = .ok (.iload 6, 2) := by decide +kernel
theorem d_Mo_meet_51 : decode c_Mo_meet 51 = .ok (.iload 4, 2) := by decide +kernel
theorem d_Mo_meet_53 : decode c_Mo_meet 53 = .ok (.invokevirtual 215, 3) := by decide +kernel
theorem d_Mo_meet_56 : decode c_Mo_meet 56 = .ok (.iadd, 1) := by decide +kernel
theorem d_Mo_meet_57 : decode c_Mo_meet 57 = .ok (.istore 5, 2) := by decide +kernel
theorem d_Mo_meet_59 : decode c_Mo_meet 59 = .ok (.iinc 6 1, 3) := by decide +kernel
theorem d_Mo_meet_62 : decode c_Mo_meet 62 = .ok (.goto (-25), 3) := by decide +kernel
theorem d_Mo_meet_65 : decode c_Mo_meet 65 = .ok (.iload_n 3, 1) := by decide +kernel
theorem d_Mo_meet_66 : decode c_Mo_meet 66 = .ok (.ifCond .lt 9, 3) := by decide +kernel
theorem d_Mo_meet_69 : decode c_Mo_meet 69 = .ok (.iload 5, 2) := by decide +kernel
theorem d_Mo_meet_71 : decode c_Mo_meet 71 = .ok (.iload_n 3, 1) := by decide +kernel
theorem d_Mo_meet_72 : decode c_Mo_meet 72 = .ok (.if_icmp .ge 8, 3) := by decide +kernel
theorem d_Mo_meet_75 : decode c_Mo_meet 75 = .ok (.iload 4, 2) := by decide +kernel
theorem d_Mo_meet_77 : decode c_Mo_meet 77 = .ok (.goto 4, 3) := by decide +kernel
theorem d_Mo_meet_80 : decode c_Mo_meet 80 = .ok (.iload_n 2, 1) := by decide +kernel
theorem d_Mo_meet_81 : decode c_Mo_meet 81 = .ok (.istore_n 2, 1) := by decide +kernel
theorem d_Mo_meet_82 : decode c_Mo_meet 82 = .ok (.iload_n 3, 1) := by decide +kernel
theorem d_Mo_meet_83 : decode c_Mo_meet 83 = .ok (.ifCond .lt 9, 3) := by decide +kernel
theorem d_Mo_meet_86 : decode c_Mo_meet 86 = .ok (.iload 5, 2) := by decide +kernel
theorem d_Mo_meet_88 : decode c_Mo_meet 88 = .ok (.iload_n 3, 1) := by decide +kernel
theorem d_Mo_meet_89 : decode c_Mo_meet 89 = .ok (.if_icmp .ge 8, 3) := by decide +kernel
theorem d_Mo_meet_92 : decode c_Mo_meet 92 = .ok (.iload 5, 2) := by decide +kernel
theorem d_Mo_meet_94 : decode c_Mo_meet 94 = .ok (.goto 4, 3) := by decide +kernel
theorem d_Mo_meet_97 : decode c_Mo_meet 97 = .ok (.iload_n 3, 1) := by decide +kernel
theorem d_Mo_meet_98 : decode c_Mo_meet 98 = .ok (.istore_n 3, 1) := by decide +kernel
theorem d_Mo_meet_99 : decode c_Mo_meet 99 = .ok (.iinc 4 1, 3) := by decide +kernel
theorem d_Mo_meet_102 : decode c_Mo_meet 102 = .ok (.goto (-78), 3) := by decide +kernel
theorem d_Mo_meet_105 : decode c_Mo_meet 105 = .ok (.iload_n 1, 1) := by decide +kernel
theorem d_Mo_meet_106 : decode c_Mo_meet 106 = .ok (.ifCond .ne 7, 3) := by decide +kernel
theorem d_Mo_meet_109 : decode c_Mo_meet 109 = .ok (.iload_n 2, 1) := by decide +kernel
theorem d_Mo_meet_110 : decode c_Mo_meet 110 = .ok (.goto 4, 3) := by decide +kernel
theorem d_Mo_meet_113 : decode c_Mo_meet 113 = .ok (.iload_n 3, 1) := by decide +kernel
theorem d_Mo_meet_114 : decode c_Mo_meet 114 = .ok (.ireturn, 1) := by decide +kernel
theorem d_Mo_spread_0 : decode c_Mo_spread 0 = .ok (.aload_n 0, 1) := by decide +kernel
theorem d_Mo_spread_1 : decode c_Mo_spread 1 = .ok (.iconst 0, 1) := by decide +kernel
theorem d_Mo_spread_2 : decode c_Mo_spread 2 = .ok (.putfield 71, 3) := by decide +kernel
theorem d_Mo_spread_5 : decode c_Mo_spread 5 = .ok (.bipush (-4), 2) := by decide +kernel
theorem d_Mo_spread_7 : decode c_Mo_spread 7 = .ok (.istore_n 1, 1) := by decide +kernel
theorem d_Mo_spread_8 : decode c_Mo_spread 8 = .ok (.iconst (-1), 1) := by decide +kernel
theorem d_Mo_spread_9 : decode c_Mo_spread 9 = .ok (.istore_n 2, 1) := by decide +kernel
theorem d_Mo_spread_10 : decode c_Mo_spread 10 = .ok (.iconst 0, 1) := by decide +kernel
theorem d_Mo_spread_11 : decode c_Mo_spread 11 = .ok (.istore_n 3, 1) := by decide +kernel
theorem d_Mo_spread_12 : decode c_Mo_spread 12 = .ok (.iload_n 3, 1) := by decide +kernel
theorem d_Mo_spread_13 : decode c_Mo_spread 13 = .ok (.aload_n 0, 1) := by decide +kernel
theorem d_Mo_spread_14 : decode c_Mo_spread 14 = .ok (.getfield 81, 3) := by decide +kernel
theorem d_Mo_spread_17 : decode c_Mo_spread 17 = .ok (.if_icmp .ge 78, 3) := by decide +kernel
theorem d_Mo_spread_20 : decode c_Mo_spread 20 = .ok (.iload_n 3, 1) := by decide +kernel
theorem d_Mo_spread_21 : decode c_Mo_spread 21 = .ok (.iconst 1, 1) := by decide +kernel
theorem d_Mo_spread_22 : decode c_Mo_spread 22 = .ok (.iadd, 1) := by decide +kernel
theorem d_Mo_spread_23 : decode c_Mo_spread 23 = .ok (.istore 4, 2) := by decide +kernel
theorem d_Mo_spread_25 : decode c_Mo_spread 25 = .ok (.iload 4, 2) := by decide +kernel
theorem d_Mo_spread_27 : decode c_Mo_spread 27 = .ok (.aload_n 0, 1) := by decide +kernel
theorem d_Mo_spread_28 : decode c_Mo_spread 28 = .ok (.getfield 81, 3) := by decide +kernel
theorem d_Mo_spread_31 : decode c_Mo_spread 31 = .ok (.if_icmp .ge 58, 3) := by decide +kernel
theorem d_Mo_spread_34 : decode c_Mo_spread 34 = .ok (.aload_n 0, 1) := by decide +kernel
theorem d_Mo_spread_35 : decode c_Mo_spread 35 = .ok (.getfield 19, 3) := by decide +kernel
theorem d_Mo_spread_38 : decode c_Mo_spread 38 = .ok (.iload_n 3, 1) := by decide +kernel
theorem d_Mo_spread_39 : decode c_Mo_spread 39 = .ok (.iaload, 1) := by decide +kernel
theorem d_Mo_spread_40 : decode c_Mo_spread 40 = .ok (.aload_n 0, 1) := by decide +kernel
theorem d_Mo_spread_41 : decode c_Mo_spread 41 = .ok (.getfield 19, 3) := by decide +kernel
theorem d_Mo_spread_44 : decode c_Mo_spread 44 = .ok (.iload 4, 2) := by decide +kernel
theorem d_Mo_spread_46 : decode c_Mo_spread 46 = .ok (.iaload, 1) := by decide +kernel
theorem d_Mo_spread_47 : decode c_Mo_spread 47 = .ok (.invokestatic 84, 3) := by decide +kernel
theorem d_Mo_spread_50 : decode c_Mo_spread 50 = .ok (.istore 5, 2) := by decide +kernel
theorem d_Mo_spread_52 : decode c_Mo_spread 52 = .ok (.iload 5, 2) := by decide +kernel
theorem d_Mo_spread_54 : decode c_Mo_spread 54 = .ok (.iload_n 2, 1) := by decide +kernel
theorem d_Mo_spread_55 : decode c_Mo_spread 55 = .ok (.if_icmp .le 13, 3) := by decide +kernel
theorem d_Mo_spread_58 : decode c_Mo_spread 58 = .ok (.bipush 10, 2) := by decide +kernel
theorem d_Mo_spread_60 : decode c_Mo_spread 60 = .ok (.iload_n 3, 1) := by decide +kernel
theorem d_Mo_spread_61 : decode c_Mo_spread 61 = .ok (.imul, 1) := by decide +kernel
theorem d_Mo_spread_62 : decode c_Mo_spread 62 = .ok (.iload 4, 2) := by decide +kernel
theorem d_Mo_spread_64 : decode c_Mo_spread 64 = .ok (.iadd, 1) := by decide +kernel
theorem d_Mo_spread_65 : decode c_Mo_spread 65 = .ok (.goto 4, 3) := by decide +kernel
theorem d_Mo_spread_68 : decode c_Mo_spread 68 = .ok (.iload_n 1, 1) := by decide +kernel
theorem d_Mo_spread_69 : decode c_Mo_spread 69 = .ok (.istore_n 1, 1) := by decide +kernel
theorem d_Mo_spread_70 : decode c_Mo_spread 70 = .ok (.iload 5, 2) := by decide +kernel
theorem d_Mo_spread_72 : decode c_Mo_spread 72 = .ok (.iload_n 2, 1) := by decide +kernel
theorem d_Mo_spread_73 : decode c_Mo_spread 73 = .ok (.if_icmp .le 8, 3) := by decide +kernel
theorem d_Mo_spread_76 : decode c_Mo_spread 76 = .ok (.iload 5, 2) := by decide +kernel
theorem d_Mo_spread_78 : decode c_Mo_spread 78 = .ok (.goto 4, 3) := by decide +kernel
theorem d_Mo_spread_81 : decode c_Mo_spread 81 = .ok (.iload_n 2, 1) := by decide +kernel
theorem d_Mo_spread_82 : decode c_Mo_spread 82 = .ok (.istore_n 2, 1) := by decide +kernel
theorem d_Mo_spread_83 : decode c_Mo_spread 83 = .ok (.iinc 4 1, 3) := by decide +kernel
theorem d_Mo_spread_86 : decode c_Mo_spread 86 = .ok (.goto (-61), 3) := by decide +kernel
theorem d_Mo_spread_89 : decode c_Mo_spread 89 = .ok (.iinc 3 1, 3) := by decide +kernel
theorem d_Mo_spread_92 : decode c_Mo_spread 92 = .ok (.goto (-80), 3) := by decide +kernel
theorem d_Mo_spread_95 : decode c_Mo_spread 95 = .ok (.iload_n 1, 1) := by decide +kernel
theorem d_Mo_spread_96 : decode c_Mo_spread 96 = .ok (.ireturn, 1) := by decide +kernel
theorem d_Mo_feesOf_0 : decode c_Mo_feesOf 0 = .ok (.aload_n 0, 1) := by decide +kernel
theorem d_Mo_feesOf_1 : decode c_Mo_feesOf 1 = .ok (.getfield 7, 3) := by decide +kernel
theorem d_Mo_feesOf_4 : decode c_Mo_feesOf 4 = .ok (.iload_n 1, 1) := by decide +kernel
theorem d_Mo_feesOf_5 : decode c_Mo_feesOf 5 = .ok (.iaload, 1) := by decide +kernel
theorem d_Mo_feesOf_6 : decode c_Mo_feesOf 6 = .ok (.aload_n 0, 1) := by decide +kernel
theorem d_Mo_feesOf_7 : decode c_Mo_feesOf 7 = .ok (.getfield 13, 3) := by decide +kernel
theorem d_Mo_feesOf_10 : decode c_Mo_feesOf 10 = .ok (.iload_n 1, 1) := by decide +kernel
theorem d_Mo_feesOf_11 : decode c_Mo_feesOf 11 = .ok (.iaload, 1) := by decide +kernel
theorem d_Mo_feesOf_12 : decode c_Mo_feesOf 12 = .ok (.invokestatic 237, 3) := by decide +kernel
theorem d_Mo_feesOf_15 : decode c_Mo_feesOf 15 = .ok (.aload_n 0, 1) := by decide +kernel
theorem d_Mo_feesOf_16 : decode c_Mo_feesOf 16 = .ok (.iload_n 1, 1) := by decide +kernel
theorem d_Mo_feesOf_17 : decode c_Mo_feesOf 17 = .ok (.iload_n 2, 1) := by decide +kernel
theorem d_Mo_feesOf_18 : decode c_Mo_feesOf 18 = .ok (.invokevirtual 215, 3) := by decide +kernel
theorem d_Mo_feesOf_21 : decode c_Mo_feesOf 21 = .ok (.imul, 1) := by decide +kernel
theorem d_Mo_feesOf_22 : decode c_Mo_feesOf 22 = .ok (.ireturn, 1) := by decide +kernel
theorem d_Mo_fees_0 : decode c_Mo_fees 0 = .ok (.aload_n 0, 1) := by decide +kernel
theorem d_Mo_fees_1 : decode c_Mo_fees 1 = .ok (.iconst 0, 1) := by decide +kernel
theorem d_Mo_fees_2 : decode c_Mo_fees 2 = .ok (.putfield 71, 3) := by decide +kernel
theorem d_Mo_fees_5 : decode c_Mo_fees 5 = .ok (.iload_n 1, 1) := by decide +kernel
theorem d_Mo_fees_6 : decode c_Mo_fees 6 = .ok (.i2l, 1) := by decide +kernel
theorem d_Mo_fees_7 : decode c_Mo_fees 7 = .ok (.ldc2_w 240, 3) := by decide +kernel
theorem d_Mo_fees_10 : decode c_Mo_fees 10 = .ok (.aload_n 0, 1) := by decide +kernel
theorem d_Mo_fees_11 : decode c_Mo_fees 11 = .ok (.getfield 81, 3) := by decide +kernel
theorem d_Mo_fees_14 : decode c_Mo_fees 14 = .ok (.iconst 1, 1) := by decide +kernel
theorem d_Mo_fees_15 : decode c_Mo_fees 15 = .ok (.isub, 1) := by decide +kernel
theorem d_Mo_fees_16 : decode c_Mo_fees 16 = .ok (.i2l, 1) := by decide +kernel
theorem d_Mo_fees_17 : decode c_Mo_fees 17 = .ok (.invokestatic 77, 3) := by decide +kernel
theorem d_Mo_fees_20 : decode c_Mo_fees 20 = .ok (.ifCond .eq 10, 3) := by decide +kernel
theorem d_Mo_fees_23 : decode c_Mo_fees 23 = .ok (.iload_n 2, 1) := by decide +kernel
theorem d_Mo_fees_24 : decode c_Mo_fees 24 = .ok (.invokestatic 149, 3) := by decide +kernel
theorem d_Mo_fees_27 : decode c_Mo_fees 27 = .ok (.ifCond .ne 5, 3) := by decide +kernel
theorem d_Mo_fees_30 : decode c_Mo_fees 30 = .ok (.iconst (-1), 1) := by decide +kernel
theorem d_Mo_fees_31 : decode c_Mo_fees 31 = .ok (.ireturn, 1) := by decide +kernel
theorem d_Mo_fees_32 : decode c_Mo_fees 32 = .ok (.iload_n 1, 1) := by decide +kernel
theorem d_Mo_fees_33 : decode c_Mo_fees 33 = .ok (.ifCond .lt 10, 3) := by decide +kernel
theorem d_Mo_fees_36 : decode c_Mo_fees 36 = .ok (.aload_n 0, 1) := by decide +kernel
theorem d_Mo_fees_37 : decode c_Mo_fees 37 = .ok (.iload_n 1, 1) := by decide +kernel
theorem d_Mo_fees_38 : decode c_Mo_fees 38 = .ok (.iload_n 2, 1) := by decide +kernel
theorem d_Mo_fees_39 : decode c_Mo_fees 39 = .ok (.invokevirtual 242, 3) := by decide +kernel
theorem d_Mo_fees_42 : decode c_Mo_fees 42 = .ok (.ireturn, 1) := by decide +kernel
theorem d_Mo_fees_43 : decode c_Mo_fees 43 = .ok (.bipush (-4), 2) := by decide +kernel
theorem d_Mo_fees_45 : decode c_Mo_fees 45 = .ok (.istore_n 3, 1) := by decide +kernel
theorem d_Mo_fees_46 : decode c_Mo_fees 46 = .ok (.iconst 0, 1) := by decide +kernel
theorem d_Mo_fees_47 : decode c_Mo_fees 47 = .ok (.istore 4, 2) := by decide +kernel
theorem d_Mo_fees_49 : decode c_Mo_fees 49 = .ok (.iload 4, 2) := by decide +kernel
theorem d_Mo_fees_51 : decode c_Mo_fees 51 = .ok (.aload_n 0, 1) := by decide +kernel
theorem d_Mo_fees_52 : decode c_Mo_fees 52 = .ok (.getfield 81, 3) := by decide +kernel
theorem d_Mo_fees_55 : decode c_Mo_fees 55 = .ok (.if_icmp .ge 36, 3) := by decide +kernel
theorem d_Mo_fees_58 : decode c_Mo_fees 58 = .ok (.iload_n 3, 1) := by decide +kernel
theorem d_Mo_fees_59 : decode c_Mo_fees 59 = .ok (.ifCond .lt 19, 3) := by decide +kernel
theorem d_Mo_fees_62 : decode c_Mo_fees 62 = .ok (.aload_n 0, 1) := by decide +kernel
theorem d_Mo_fees_63 : decode c_Mo_fees 63 = .ok (.iload 4, 2) := by decide +kernel
theorem d_Mo_fees_65 : decode c_Mo_fees 65 = .ok (.iload_n 2, 1) := by decide +kernel
theorem d_Mo_fees_66 : decode c_Mo_fees 66 = .ok (.invokevirtual 242, 3) := by decide +kernel
theorem d_Mo_fees_69 : decode c_Mo_fees 69 = .ok (.aload_n 0, 1) := by decide +kernel
theorem d_Mo_fees_70 : decode c_Mo_fees 70 = .ok (.iload_n 3, 1) := by decide +kernel
theorem d_Mo_fees_71 : decode c_Mo_fees 71 = .ok (.iload_n 2, 1) := by decide +kernel
theorem d_Mo_fees_72 : decode c_Mo_fees 72 = .ok (.invokevirtual 242, 3) := by decide +kernel
theorem d_Mo_fees_75 : decode c_Mo_fees 75 = .ok (.if_icmp .ge 8, 3) := by decide +kernel
theorem d_Mo_fees_78 : decode c_Mo_fees 78 = .ok (.iload 4, 2) := by decide +kernel
theorem d_Mo_fees_80 : decode c_Mo_fees 80 = .ok (.goto 4, 3) := by decide +kernel
theorem d_Mo_fees_83 : decode c_Mo_fees 83 = .ok (.iload_n 3, 1) := by decide +kernel
theorem d_Mo_fees_84 : decode c_Mo_fees 84 = .ok (.istore_n 3, 1) := by decide +kernel
theorem d_Mo_fees_85 : decode c_Mo_fees 85 = .ok (.iinc 4 1, 3) := by decide +kernel
theorem d_Mo_fees_88 : decode c_Mo_fees 88 = .ok (.goto (-39), 3) := by decide +kernel
theorem d_Mo_fees_91 : decode c_Mo_fees 91 = .ok (.iload_n 3, 1) := by decide +kernel
theorem d_Mo_fees_92 : decode c_Mo_fees 92 = .ok (.ireturn, 1) := by decide +kernel
theorem d_Mo_skipped_0 : decode c_Mo_skipped 0 = .ok (.aload_n 0, 1) := by decide +kernel
theorem d_Mo_skipped_1 : decode c_Mo_skipped 1 = .ok (.getfield 34, 3) := by decide +kernel
theorem d_Mo_skipped_4 : decode c_Mo_skipped 4 = .ok (.iload_n 1, 1) := by decide +kernel
theorem d_Mo_skipped_5 : decode c_Mo_skipped 5 = .ok (.iaload, 1) := by decide +kernel
theorem d_Mo_skipped_6 : decode c_Mo_skipped 6 = .ok (.ifCond .ne 9, 3) := by decide +kernel
theorem d_Mo_skipped_9 : decode c_Mo_skipped 9 = .ok (.ldc2_w 245, 3) := by decide +kernel
theorem d_Mo_skipped_12 : decode c_Mo_skipped 12 = .ok (.goto 22, 3) := by decide +kernel
theorem d_Mo_skipped_15 : decode c_Mo_skipped 15 = .ok (.aload_n 0, 1) := by decide +kernel
theorem d_Mo_skipped_16 : decode c_Mo_skipped 16 = .ok (.getfield 34, 3) := by decide +kernel
theorem d_Mo_skipped_19 : decode c_Mo_skipped 19 = .ok (.iload_n 1, 1) := by decide +kernel
theorem d_Mo_skipped_20 : decode c_Mo_skipped 20 = .ok (.iaload, 1) := by decide +kernel
theorem d_Mo_skipped_21 : decode c_Mo_skipped 21 = .ok (.iconst 1, 1) := by decide +kernel
theorem d_Mo_skipped_22 : decode c_Mo_skipped 22 = .ok (.if_icmp .ne 9, 3) := by decide +kernel
theorem d_Mo_skipped_25 : decode c_Mo_skipped 25 = .ok (.ldc2_w 247, 3) := by decide +kernel
theorem d_Mo_skipped_28 : decode c_Mo_skipped 28 = .ok (.goto 6, 3) := by decide +kernel
theorem d_Mo_skipped_31 : decode c_Mo_skipped 31 = .ok (.ldc2_w 249, 3) := by decide +kernel
theorem d_Mo_skipped_34 : decode c_Mo_skipped 34 = .ok (.lreturn, 1) := by decide +kernel
theorem d_Mo_isRow_0 : decode c_Mo_isRow 0 = .ok (.iconst 1, 1) := by decide +kernel
theorem d_Mo_isRow_1 : decode c_Mo_isRow 1 = .ok (.istore 4, 2) := by decide +kernel
theorem d_Mo_isRow_3 : decode c_Mo_isRow 3 = .ok (.iconst 0, 1) := by decide +kernel
theorem d_Mo_isRow_4 : decode c_Mo_isRow 4 = .ok (.istore 5, 2) := by decide +kernel
theorem d_Mo_isRow_6 : decode c_Mo_isRow 6 = .ok (.iload 5, 2) := by decide +kernel
theorem d_Mo_isRow_8 : decode c_Mo_isRow 8 = .ok (.aload_n 0, 1) := by decide +kernel
theorem d_Mo_isRow_9 : decode c_Mo_isRow 9 = .ok (.getfield 37, 3) := by decide +kernel
theorem d_Mo_isRow_12 : decode c_Mo_isRow 12 = .ok (.iload_n 1, 1) := by decide +kernel
theorem d_Mo_isRow_13 : decode c_Mo_isRow 13 = .ok (.iaload, 1) := by decide +kernel
theorem d_Mo_isRow_14 : decode c_Mo_isRow 14 = .ok (.if_icmp .ge 75, 3) := by decide +kernel
theorem d_Mo_isRow_17 : decode c_Mo_isRow 17 = .ok (.iload 4, 2) := by decide +kernel
theorem d_Mo_isRow_19 : decode c_Mo_isRow 19 = .ok (.ifCond .eq 70, 3) := by decide +kernel
theorem d_Mo_isRow_22 : decode c_Mo_isRow 22 = .ok (.aload_n 0, 1) := by decide +kernel
theorem d_Mo_isRow_23 : decode c_Mo_isRow 23 = .ok (.getfield 40, 3) := by decide +kernel
theorem d_Mo_isRow_26 : decode c_Mo_isRow 26 = .ok (.bipush 100, 2) := by decide +kernel
theorem d_Mo_isRow_28 : decode c_Mo_isRow 28 = .ok (.iload_n 1, 1) := by decide +kernel
theorem d_Mo_isRow_29 : decode c_Mo_isRow 29 = .ok (.imul, 1) := by decide +kernel
theorem d_Mo_isRow_30 : decode c_Mo_isRow 30 = .ok (.iload 5, 2) := by decide +kernel
theorem d_Mo_isRow_32 : decode c_Mo_isRow 32 = .ok (.iadd, 1) := by decide +kernel
theorem d_Mo_isRow_33 : decode c_Mo_isRow 33 = .ok (.laload, 1) := by decide +kernel
theorem d_Mo_isRow_34 : decode c_Mo_isRow 34 = .ok (.lstore 6, 2) := by decide +kernel
theorem d_Mo_isRow_36 : decode c_Mo_isRow 36 = .ok (.lload 6, 2) := by decide +kernel
theorem d_Mo_isRow_38 : decode c_Mo_isRow 38 = .ok (.aload_n 0, 1) := by decide +kernel
theorem d_Mo_isRow_39 : decode c_Mo_isRow 39 = .ok (.iload_n 1, 1) := by decide +kernel
theorem d_Mo_isRow_40 : decode c_Mo_isRow 40 = .ok (.invokevirtual 251, 3) := by decide +kernel
theorem d_Mo_isRow_43 : decode c_Mo_isRow 43 = .ok (.lcmp, 1) := by decide +kernel
theorem d_Mo_isRow_44 : decode c_Mo_isRow 44 = .ok (.ifCond .eq 16, 3) := by decide +kernel
theorem d_Mo_isRow_47 : decode c_Mo_isRow 47 = .ok (.lload 6, 2) := by decide +kernel
theorem d_Mo_isRow_49 : decode c_Mo_isRow 49 = .ok (.aload_n 0, 1) := by decide +kernel
theorem d_Mo_isRow_50 : decode c_Mo_isRow 50 = .ok (.getfield 19, 3) := by decide +kernel
theorem d_Mo_isRow_53 : decode c_Mo_isRow 53 = .ok (.iload_n 2, 1) := by decide +kernel
theorem d_Mo_isRow_54 : decode c_Mo_isRow 54 = .ok (.iaload, 1) := by decide +kernel
theorem d_Mo_isRow_55 : decode c_Mo_isRow 55 = .ok (.i2l, 1) := by decide +kernel
theorem d_Mo_isRow_56 : decode c_Mo_isRow 56 = .ok (.lcmp, 1) := by decide +kernel
theorem d_Mo_isRow_57 : decode c_Mo_isRow 57 = .ok (.ifCond .ne 7, 3) := by decide +kernel
theorem d_Mo_isRow_60 : decode c_Mo_isRow 60 = .ok (.iconst 1, 1) := by decide +kernel
theorem d_Mo_isRow_61 : decode c_Mo_isRow 61 = .ok (.goto 4, 3) := by decide +kernel
theorem d_Mo_isRow_64 : decode c_Mo_isRow 64 = .ok (.iconst 0, 1) := by decide +kernel
theorem d_Mo_isRow_65 : decode c_Mo_isRow 65 = .ok (.istore 4, 2) := by decide +kernel
theorem d_Mo_isRow_67 : decode c_Mo_isRow 67 = .ok (.aload_n 0, 1) := by decide +kernel
theorem d_Mo_isRow_68 : decode c_Mo_isRow 68 = .ok (.getfield 19, 3) := by decide +kernel
theorem d_Mo_isRow_71 : decode c_Mo_isRow 71 = .ok (.iload_n 2, 1) := by decide +kernel
theorem d_Mo_isRow_72 : decode c_Mo_isRow 72 = .ok (.iaload, 1) := by decide +kernel
theorem d_Mo_isRow_73 : decode c_Mo_isRow 73 = .ok (.iload_n 3, 1) := by decide +kernel
theorem d_Mo_isRow_74 : decode c_Mo_isRow 74 = .ok (.if_icmp .eq 9, 3) := by decide +kernel
theorem d_Mo_isRow_77 : decode c_Mo_isRow 77 = .ok (.aload_n 0, 1) := by decide +kernel
theorem d_Mo_isRow_78 : decode c_Mo_isRow 78 = .ok (.iload_n 2, 1) := by decide +kernel
theorem d_Mo_isRow_79 : decode c_Mo_isRow 79 = .ok (.iload_n 3, 1) := by decide +kernel
theorem d_Mo_isRow_80 : decode c_Mo_isRow 80 = .ok (.invokevirtual 114, 3) := by decide +kernel
theorem d_Mo_isRow_83 : decode c_Mo_isRow 83 = .ok (.iinc 5 1, 3) := by decide +kernel
theorem d_Mo_isRow_86 : decode c_Mo_isRow 86 = .ok (.goto (-80), 3) := by decide +kernel
theorem d_Mo_isRow_89 : decode c_Mo_isRow 89 = .ok (.aload_n 0, 1) := by decide +kernel
theorem d_Mo_isRow_90 : decode c_Mo_isRow 90 = .ok (.invokevirtual 183, 3) := by decide +kernel
theorem d_Mo_isRow_93 : decode c_Mo_isRow 93 = .ok (.iload 4, 2) := by decide +kernel
theorem d_Mo_isRow_95 : decode c_Mo_isRow 95 = .ok (.ireturn, 1) := by decide +kernel
theorem d_Mo_homes_0 : decode c_Mo_homes 0 = .ok (.aload_n 0, 1) := by decide +kernel
theorem d_Mo_homes_1 : decode c_Mo_homes 1 = .ok (.iconst 0, 1) := by decide +kernel
theorem d_Mo_homes_2 : decode c_Mo_homes 2 = .ok (.putfield 71, 3) := by decide +kernel
theorem d_Mo_homes_5 : decode c_Mo_homes 5 = .ok (.aload_n 0, 1) := by decide +kernel
theorem d_Mo_homes_6 : decode c_Mo_homes 6 = .ok (.iload_n 2, 1) := by decide +kernel
theorem d_Mo_homes_7 : decode c_Mo_homes 7 = .ok (.invokevirtual 162, 3) := by decide +kernel
theorem d_Mo_homes_10 : decode c_Mo_homes 10 = .ok (.ifCond .eq 29, 3) := by decide +kernel
theorem d_Mo_homes_13 : decode c_Mo_homes 13 = .ok (.iload_n 3, 1) := by decide +kernel
theorem d_Mo_homes_14 : decode c_Mo_homes 14 = .ok (.invokestatic 149, 3) := by decide +kernel
theorem d_Mo_homes_17 : decode c_Mo_homes 17 = .ok (.ifCond .eq 22, 3) := by decide +kernel
theorem d_Mo_homes_20 : decode c_Mo_homes 20 = .ok (.iload 4, 2) := by decide +kernel
theorem d_Mo_homes_22 : decode c_Mo_homes 22 = .ok (.i2l, 1) := by decide +kernel
theorem d_Mo_homes_23 : decode c_Mo_homes 23 = .ok (.lconst 0, 1) := by decide +kernel
theorem d_Mo_homes_24 : decode c_Mo_homes 24 = .ok (.lconst 1, 1) := by decide +kernel
theorem d_Mo_homes_25 : decode c_Mo_homes 25 = .ok (.invokestatic 77, 3) := by decide +kernel
theorem d_Mo_homes_28 : decode c_Mo_homes 28 = .ok (.ifCond .eq 11, 3) := by decide +kernel
theorem d_Mo_homes_31 : decode c_Mo_homes 31 = .ok (.aload_n 0, 1) := by decide +kernel
theorem d_Mo_homes_32 : decode c_Mo_homes 32 = .ok (.iload_n 1, 1) := by decide +kernel
theorem d_Mo_homes_33 : decode c_Mo_homes 33 = .ok (.invokevirtual 171, 3) := by decide +kernel
theorem d_Mo_homes_36 : decode c_Mo_homes 36 = .ok (.goto 4, 3) := by decide +kernel
theorem d_Mo_homes_39 : decode c_Mo_homes 39 = .ok (.iconst (-1), 1) := by decide +kernel
theorem d_Mo_homes_40 : decode c_Mo_homes 40 = .ok (.istore 5, 2) := by decide +kernel
theorem d_Mo_homes_42 : decode c_Mo_homes 42 = .ok (.iload 5, 2) := by decide +kernel
theorem d_Mo_homes_44 : decode c_Mo_homes 44 = .ok (.ifCond .ge 6, 3) := by decide +kernel
theorem d_Mo_homes_47 : decode c_Mo_homes 47 = .ok (.iload 5, 2) := by decide +kernel
theorem d_Mo_homes_49 : decode c_Mo_homes 49 = .ok (.ireturn, 1) := by decide +kernel
theorem d_Mo_homes_50 : decode c_Mo_homes 50 = .ok (.iconst 0, 1) := by decide +kernel
theorem d_Mo_homes_51 : decode c_Mo_homes 51 = .ok (.istore 6, 2) := by decide +kernel
theorem d_Mo_homes_53 : decode c_Mo_homes 53 = .ok (.iconst 0, 1) := by decide +kernel
theorem d_Mo_homes_54 : decode c_Mo_homes 54 = .ok (.istore 7, 2) := by decide +kernel
theorem d_Mo_homes_56 : decode c_Mo_homes 56 = .ok (.aload_n 0, 1) := by decide +kernel
theorem d_Mo_homes_57 : decode c_Mo_homes 57 = .ok (.invokevirtual 177, 3) := by decide +kernel
theorem d_Mo_homes_60 : decode c_Mo_homes 60 = .ok (.iconst 0, 1) := by decide +kernel
theorem d_Mo_homes_61 : decode c_Mo_homes 61 = .ok (.istore 8, 2) := by decide +kernel
theorem d_Mo_homes_63 : decode c_Mo_homes 63 = .ok (.iload 8, 2) := by decide +kernel
theorem d_Mo_homes_65 : decode c_Mo_homes 65 = .ok (.bipush 20, 2) := by decide +kernel
theorem d_Mo_homes_67 : decode c_Mo_homes 67 = .ok (.if_icmp .gt 59, 3) := by decide +kernel
theorem d_Mo_homes_70 : decode c_Mo_homes 70 = .ok (.aload_n 0, 1) := by decide +kernel
theorem d_Mo_homes_71 : decode c_Mo_homes 71 = .ok (.getfield 16, 3) := by decide +kernel
theorem d_Mo_homes_74 : decode c_Mo_homes 74 = .ok (.iload_n 2, 1) := by decide +kernel
theorem d_Mo_homes_75 : decode c_Mo_homes 75 = .ok (.iload 8, 2) := by decide +kernel
theorem d_Mo_homes_77 : decode c_Mo_homes 77 = .ok (.iastore, 1) := by decide +kernel
theorem d_Mo_homes_78 : decode c_Mo_homes 78 = .ok (.aload_n 0, 1) := by decide +kernel
theorem d_Mo_homes_79 : decode c_Mo_homes 79 = .ok (.iload_n 1, 1) := by decide +kernel
theorem d_Mo_homes_80 : decode c_Mo_homes 80 = .ok (.iload_n 2, 1) := by decide +kernel
theorem d_Mo_homes_81 : decode c_Mo_homes 81 = .ok (.iload_n 3, 1) := by decide +kernel
theorem d_Mo_homes_82 : decode c_Mo_homes 82 = .ok (.invokevirtual 255, 3) := by decide +kernel
theorem d_Mo_homes_85 : decode c_Mo_homes 85 = .ok (.istore 9, 2) := by decide +kernel
theorem d_Mo_homes_87 : decode c_Mo_homes 87 = .ok (.iload 6, 2) := by decide +kernel
theorem d_Mo_homes_89 : decode c_Mo_homes 89 = .ok (.iload 9, 2) := by decide +kernel
theorem d_Mo_homes_91 : decode c_Mo_homes 91 = .ok (.ifCond .eq 10, 3) := by decide +kernel
theorem d_Mo_homes_94 : decode c_Mo_homes 94 = .ok (.iconst 1, 1) := by decide +kernel
theorem d_Mo_homes_95 : decode c_Mo_homes 95 = .ok (.iload 8, 2) := by decide +kernel
theorem d_Mo_homes_97 : decode c_Mo_homes 97 = .ok (.ishl, 1) := by decide +kernel
theorem d_Mo_homes_98 : decode c_Mo_homes 98 = .ok (.goto 4, 3) := by decide +kernel
theorem d_Mo_homes_101 : decode c_Mo_homes 101 = .ok (.iconst 0, 1) := by decide +kernel
theorem d_Mo_homes_102 : decode c_Mo_homes 102 = .ok (.ior, 1) := by decide +kernel
theorem d_Mo_homes_103 : decode c_Mo_homes 103 = .ok (.istore 6, 2) := by decide +kernel
theorem d_Mo_homes_105 : decode c_Mo_homes 105 = .ok (.iload 7, 2) := by decide +kernel
theorem d_Mo_homes_107 : decode c_Mo_homes 107 = .ok (.iload 9, 2) := by decide +kernel
theorem d_Mo_homes_109 : decode c_Mo_homes 109 = .ok (.ifCond .eq 7, 3) := by decide +kernel
theorem d_Mo_homes_112 : decode c_Mo_homes 112 = .ok (.iconst 1, 1) := by decide +kernel
theorem d_Mo_homes_113 : decode c_Mo_homes 113 = .ok (.goto 4, 3) := by decide +kernel
theorem d_Mo_homes_116 : decode c_Mo_homes 116 = .ok (.iconst 0, 1) := by decide +kernel
theorem d_Mo_homes_117 : decode c_Mo_homes 117 = .ok (.iadd, 1) := by decide +kernel
theorem d_Mo_homes_118 : decode c_Mo_homes 118 = .ok (.istore 7, 2) := by decide +kernel
theorem d_Mo_homes_120 : decode c_Mo_homes 120 = .ok (.iinc 8 1, 3) := by decide +kernel
theorem d_Mo_homes_123 : decode c_Mo_homes 123 = .ok (.goto (-60), 3) := by decide +kernel
theorem d_Mo_homes_126 : decode c_Mo_homes 126 = .ok (.iload 4, 2) := by decide +kernel
theorem d_Mo_homes_128 : decode c_Mo_homes 128 = .ok (.ifCond .ne 8, 3) := by decide +kernel
theorem d_Mo_homes_131 : decode c_Mo_homes 131 = .ok (.iload 6, 2) := by decide +kernel
theorem d_Mo_homes_133 : decode c_Mo_homes 133 = .ok (.goto 5, 3) := by decide +kernel
theorem d_Mo_homes_136 : decode c_Mo_homes 136 = .ok (.iload 7, 2) := by decide +kernel
theorem d_Mo_homes_138 : decode c_Mo_homes 138 = .ok (.ireturn, 1) := by decide +kernel
theorem d_Mo_whatIs_0 : decode c_Mo_whatIs 0 = .ok (.aload_n 0, 1) := by decide +kernel
theorem d_Mo_whatIs_1 : decode c_Mo_whatIs 1 = .ok (.iconst 0, 1) := by decide +kernel
theorem d_Mo_whatIs_2 : decode c_Mo_whatIs 2 = .ok (.putfield 71, 3) := by decide +kernel
theorem d_Mo_whatIs_5 : decode c_Mo_whatIs 5 = .ok (.aload_n 0, 1) := by decide +kernel
theorem d_Mo_whatIs_6 : decode c_Mo_whatIs 6 = .ok (.iload_n 2, 1) := by decide +kernel
theorem d_Mo_whatIs_7 : decode c_Mo_whatIs 7 = .ok (.invokevirtual 162, 3) := by decide +kernel
theorem d_Mo_whatIs_10 : decode c_Mo_whatIs 10 = .ok (.ifCond .eq 29, 3) := by decide +kernel
theorem d_Mo_whatIs_13 : decode c_Mo_whatIs 13 = .ok (.iload_n 3, 1) := by decide +kernel
theorem d_Mo_whatIs_14 : decode c_Mo_whatIs 14 = .ok (.invokestatic 149, 3) := by decide +kernel
theorem d_Mo_whatIs_17 : decode c_Mo_whatIs 17 = .ok (.ifCond .eq 22, 3) := by decide +kernel
theorem d_Mo_whatIs_20 : decode c_Mo_whatIs 20 = .ok (.iload 4, 2) := by decide +kernel
theorem d_Mo_whatIs_22 : decode c_Mo_whatIs 22 = .ok (.i2l, 1) := by decide +kernel
theorem d_Mo_whatIs_23 : decode c_Mo_whatIs 23 = .ok (.lconst 0, 1) := by decide +kernel
theorem d_Mo_whatIs_24 : decode c_Mo_whatIs 24 = .ok (.lconst 1, 1) := by decide +kernel
theorem d_Mo_whatIs_25 : decode c_Mo_whatIs 25 = .ok (.invokestatic 77, 3) := by decide +kernel
theorem d_Mo_whatIs_28 : decode c_Mo_whatIs 28 = .ok (.ifCond .eq 11, 3) := by decide +kernel
theorem d_Mo_whatIs_31 : decode c_Mo_whatIs 31 = .ok (.aload_n 0, 1) := by decide +kernel
theorem d_Mo_whatIs_32 : decode c_Mo_whatIs 32 = .ok (.iload_n 1, 1) := by decide +kernel
theorem d_Mo_whatIs_33 : decode c_Mo_whatIs 33 = .ok (.invokevirtual 171, 3) := by decide +kernel
theorem d_Mo_whatIs_36 : decode c_Mo_whatIs 36 = .ok (.goto 4, 3) := by decide +kernel
theorem d_Mo_whatIs_39 : decode c_Mo_whatIs 39 = .ok (.iconst (-1), 1) := by decide +kernel
theorem d_Mo_whatIs_40 : decode c_Mo_whatIs 40 = .ok (.istore 5, 2) := by decide +kernel
theorem d_Mo_whatIs_42 : decode c_Mo_whatIs 42 = .ok (.iload 5, 2) := by decide +kernel
theorem d_Mo_whatIs_44 : decode c_Mo_whatIs 44 = .ok (.ifCond .ge 6, 3) := by decide +kernel
theorem d_Mo_whatIs_47 : decode c_Mo_whatIs 47 = .ok (.iload 5, 2) := by decide +kernel
theorem d_Mo_whatIs_49 : decode c_Mo_whatIs 49 = .ok (.ireturn, 1) := by decide +kernel
theorem d_Mo_whatIs_50 : decode c_Mo_whatIs 50 = .ok (.iconst 0, 1) := by decide +kernel
theorem d_Mo_whatIs_51 : decode c_Mo_whatIs 51 = .ok (.istore 6, 2) := by decide +kernel
theorem d_Mo_whatIs_53 : decode c_Mo_whatIs 53 = .ok (.aload_n 0, 1) := by decide +kernel
theorem d_Mo_whatIs_54 : decode c_Mo_whatIs 54 = .ok (.invokevirtual 177, 3) := by decide +kernel
theorem d_Mo_whatIs_57 : decode c_Mo_whatIs 57 = .ok (.iconst 0, 1) := by decide +kernel
theorem d_Mo_whatIs_58 : decode c_Mo_whatIs 58 = .ok (.istore 7, 2) := by decide +kernel
theorem d_Mo_whatIs_60 : decode c_Mo_whatIs 60 = .ok (.iload 7, 2) := by decide +kernel
theorem d_Mo_whatIs_62 : decode c_Mo_whatIs 62 = .ok (.iload 4, 2) := by decide +kernel
theorem d_Mo_whatIs_64 : decode c_Mo_whatIs 64 = .ok (.ifCond .ne 8, 3) := by decide +kernel
theorem d_Mo_whatIs_67 : decode c_Mo_whatIs 67 = .ok (.bipush 8, 2) := by decide +kernel
theorem d_Mo_whatIs_69 : decode c_Mo_whatIs 69 = .ok (.goto 5, 3) := by decide +kernel
theorem d_Mo_whatIs_72 : decode c_Mo_whatIs 72 = .ok (.bipush 10, 2) := by decide +kernel
theorem d_Mo_whatIs_74 : decode c_Mo_whatIs 74 = .ok (.if_icmp .ge 77, 3) := by decide +kernel
theorem d_Mo_whatIs_77 : decode c_Mo_whatIs 77 = .ok (.aload_n 0, 1) := by decide +kernel
theorem d_Mo_whatIs_78 : decode c_Mo_whatIs 78 = .ok (.getfield 7, 3) := by decide +kernel
theorem d_Mo_whatIs_81 : decode c_Mo_whatIs 81 = .ok (.iload_n 2, 1) := by decide +kernel
theorem d_Mo_whatIs_82 : decode c_Mo_whatIs 82 = .ok (.iload 4, 2) := by decide +kernel
theorem d_Mo_whatIs_84 : decode c_Mo_whatIs 84 = .ok (.ifCond .ne 8, 3) := by decide +kernel
theorem d_Mo_whatIs_87 : decode c_Mo_whatIs 87 = .ok (.iload 7, 2) := by decide +kernel
theorem d_Mo_whatIs_89 : decode c_Mo_whatIs 89 = .ok (.goto 9, 3) := by decide +kernel
theorem d_Mo_whatIs_92 : decode c_Mo_whatIs 92 = .ok (.aload_n 0, 1) := by decide +kernel
theorem d_Mo_whatIs_93 : decode c_Mo_whatIs 93 = .ok (.getfield 7, 3) := by decide +kernel
theorem d_Mo_whatIs_96 : decode c_Mo_whatIs 96 = .ok (.iload_n 2, 1) := by decide +kernel
theorem d_Mo_whatIs_97 : decode c_Mo_whatIs 97 = .ok (.iaload, 1) := by decide +kernel
theorem d_Mo_whatIs_98 : decode c_Mo_whatIs 98 = .ok (.iastore, 1) := by decide +kernel
theorem d_Mo_whatIs_99 : decode c_Mo_whatIs 99 = .ok (.aload_n 0, 1) := by decide +kernel
theorem d_Mo_whatIs_100 : decode c_Mo_whatIs 100 = .ok (.getfield 13, 3) := by decide +kernel
theorem d_Mo_whatIs_103 : decode c_Mo_whatIs 103 = .ok (.iload_n 2, 1) := by decide +kernel
theorem d_Mo_whatIs_104 : decode c_Mo_whatIs 104 = .ok (.iload 4, 2) := by decide +kernel
theorem d_Mo_whatIs_106 : decode c_Mo_whatIs 106 = .ok (.iconst 1, 1) := by decide +kernel
theorem d_Mo_whatIs_107 : decode c_Mo_whatIs 107 = .ok (.if_icmp .ne 8, 3) := by decide +kernel
theorem d_Mo_whatIs_110 : decode c_Mo_whatIs 110 = .ok (.iload 7, 2) := by decide +kernel
theorem d_Mo_whatIs_112 : decode c_Mo_whatIs 112 = .ok (.goto 9, 3) := by decide +kernel
theorem d_Mo_whatIs_115 : decode c_Mo_whatIs 115 = .ok (.aload_n 0, 1) := by decide +kernel
theorem d_Mo_whatIs_116 : decode c_Mo_whatIs 116 = .ok (.getfield 13, 3) := by decide +kernel
theorem d_Mo_whatIs_119 : decode c_Mo_whatIs 119 = .ok (.iload_n 2, 1) := by decide +kernel
theorem d_Mo_whatIs_120 : decode c_Mo_whatIs 120 = .ok (.iaload, 1) := by decide +kernel
theorem d_Mo_whatIs_121 : decode c_Mo_whatIs 121 = .ok (.iastore, 1) := by decide +kernel
theorem d_Mo_whatIs_122 : decode c_Mo_whatIs 122 = .ok (.iload 6, 2) := by decide +kernel
theorem d_Mo_whatIs_124 : decode c_Mo_whatIs 124 = .ok (.aload_n 0, 1) := by decide +kernel
theorem d_Mo_whatIs_125 : decode c_Mo_whatIs 125 = .ok (.iload_n 1, 1) := by decide +kernel
theorem d_Mo_whatIs_126 : decode c_Mo_whatIs 126 = .ok (.iload_n 2, 1) := by decide +kernel
theorem d_Mo_whatIs_127 : decode c_Mo_whatIs 127 = .ok (.iload_n 3, 1) := by decide +kernel
theorem d_Mo_whatIs_128 : decode c_Mo_whatIs 128 = .ok (.invokevirtual 255, 3) := by decide +kernel
theorem d_Mo_whatIs_131 : decode c_Mo_whatIs 131 = .ok (.ifCond .eq 10, 3) := by decide +kernel
theorem d_Mo_whatIs_134 : decode c_Mo_whatIs 134 = .ok (.iconst 1, 1) := by decide +kernel
theorem d_Mo_whatIs_135 : decode c_Mo_whatIs 135 = .ok (.iload 7, 2) := by decide +kernel
theorem d_Mo_whatIs_137 : decode c_Mo_whatIs 137 = .ok (.ishl, 1) := by decide +kernel
theorem d_Mo_whatIs_138 : decode c_Mo_whatIs 138 = .ok (.goto 4, 3) := by decide +kernel
theorem d_Mo_whatIs_141 : decode c_Mo_whatIs 141 = .ok (.iconst 0, 1) := by decide +kernel
theorem d_Mo_whatIs_142 : decode c_Mo_whatIs 142 = .ok (.ior, 1) := by decide +kernel
theorem d_Mo_whatIs_143 : decode c_Mo_whatIs 143 = .ok (.istore 6, 2) := by decide +kernel
theorem d_Mo_whatIs_145 : decode c_Mo_whatIs 145 = .ok (.iinc 7 1, 3) := by decide +kernel
theorem d_Mo_whatIs_148 : decode c_Mo_whatIs 148 = .ok (.goto (-88), 3) := by decide +kernel
theorem d_Mo_whatIs_151 : decode c_Mo_whatIs 151 = .ok (.iload 6, 2) := by decide +kernel
theorem d_Mo_whatIs_153 : decode c_Mo_whatIs 153 = .ok (.ireturn, 1) := by decide +kernel
theorem d_Mo_waitedRide_0 : decode c_Mo_waitedRide 0 = .ok (.aload_n 0, 1) := by decide +kernel
theorem d_Mo_waitedRide_1 : decode c_Mo_waitedRide 1 = .ok (.invokevirtual 177, 3) := by decide +kernel
theorem d_Mo_waitedRide_4 : decode c_Mo_waitedRide 4 = .ok (.aload_n 0, 1) := by decide +kernel
theorem d_Mo_waitedRide_5 : decode c_Mo_waitedRide 5 = .ok (.iconst 5, 1) := by decide +kernel
theorem d_Mo_waitedRide_6 : decode c_Mo_waitedRide 6 = .ok (.iload_n 3, 1) := by decide +kernel
theorem d_Mo_waitedRide_7 : decode c_Mo_waitedRide 7 = .ok (.imul, 1) := by decide +kernel
theorem d_Mo_waitedRide_8 : decode c_Mo_waitedRide 8 = .ok (.invokevirtual 154, 3) := by decide +kernel
theorem d_Mo_waitedRide_11 : decode c_Mo_waitedRide 11 = .ok (.iconst 5, 1) := by decide +kernel
theorem d_Mo_waitedRide_12 : decode c_Mo_waitedRide 12 = .ok (.iload_n 3, 1) := by decide +kernel
theorem d_Mo_waitedRide_13 : decode c_Mo_waitedRide 13 = .ok (.imul, 1) := by decide +kernel
theorem d_Mo_waitedRide_14 : decode c_Mo_waitedRide 14 = .ok (.aload_n 0, 1) := by decide +kernel
theorem d_Mo_waitedRide_15 : decode c_Mo_waitedRide 15 = .ok (.iload_n 1, 1) := by decide +kernel
theorem d_Mo_waitedRide_16 : decode c_Mo_waitedRide 16 = .ok (.iload_n 2, 1) := by decide +kernel
theorem d_Mo_waitedRide_17 : decode c_Mo_waitedRide 17 = .ok (.invokevirtual 165, 3) := by decide +kernel
theorem d_Mo_waitedRide_20 : decode c_Mo_waitedRide 20 = .ok (.iadd, 1) := by decide +kernel
theorem d_Mo_waitedRide_21 : decode c_Mo_waitedRide 21 = .ok (.istore 4, 2) := by decide +kernel
theorem d_Mo_waitedRide_23 : decode c_Mo_waitedRide 23 = .ok (.aload_n 0, 1) := by decide +kernel
theorem d_Mo_waitedRide_24 : decode c_Mo_waitedRide 24 = .ok (.invokevirtual 183, 3) := by decide +kernel
theorem d_Mo_waitedRide_27 : decode c_Mo_waitedRide 27 = .ok (.iload 4, 2) := by decide +kernel
theorem d_Mo_waitedRide_29 : decode c_Mo_waitedRide 29 = .ok (.ireturn, 1) := by decide +kernel
theorem d_Mo_two_0 : decode c_Mo_two 0 = .ok (.aload_n 0, 1) := by decide +kernel
theorem d_Mo_two_1 : decode c_Mo_two 1 = .ok (.iconst 0, 1) := by decide +kernel
theorem d_Mo_two_2 : decode c_Mo_two 2 = .ok (.putfield 71, 3) := by decide +kernel
theorem d_Mo_two_5 : decode c_Mo_two 5 = .ok (.aload_n 0, 1) := by decide +kernel
theorem d_Mo_two_6 : decode c_Mo_two 6 = .ok (.iload_n 1, 1) := by decide +kernel
theorem d_Mo_two_7 : decode c_Mo_two 7 = .ok (.invokevirtual 162, 3) := by decide +kernel
theorem d_Mo_two_10 : decode c_Mo_two 10 = .ok (.ifCond .eq 23, 3) := by decide +kernel
theorem d_Mo_two_13 : decode c_Mo_two 13 = .ok (.aload_n 0, 1) := by decide +kernel
theorem d_Mo_two_14 : decode c_Mo_two 14 = .ok (.iload_n 2, 1) := by decide +kernel
theorem d_Mo_two_15 : decode c_Mo_two 15 = .ok (.invokevirtual 162, 3) := by decide +kernel
theorem d_Mo_two_18 : decode c_Mo_two 18 = .ok (.ifCond .eq 15, 3) := by decide +kernel
theorem d_Mo_two_21 : decode c_Mo_two 21 = .ok (.iload_n 1, 1) := by decide +kernel
theorem d_Mo_two_22 : decode c_Mo_two 22 = .ok (.iload_n 2, 1) := by decide +kernel
theorem d_Mo_two_23 : decode c_Mo_two 23 = .ok (.if_icmp .eq 10, 3) := by decide +kernel
theorem d_Mo_two_26 : decode c_Mo_two 26 = .ok (.iload_n 3, 1) := by decide +kernel
theorem d_Mo_two_27 : decode c_Mo_two 27 = .ok (.invokestatic 149, 3) := by decide +kernel
theorem d_Mo_two_30 : decode c_Mo_two 30 = .ok (.ifCond .ne 5, 3) := by decide +kernel
theorem d_Mo_two_33 : decode c_Mo_two 33 = .ok (.iconst (-1), 1) := by decide +kernel
theorem d_Mo_two_34 : decode c_Mo_two 34 = .ok (.ireturn, 1) := by decide +kernel
theorem d_Mo_two_35 : decode c_Mo_two 35 = .ok (.iconst 0, 1) := by decide +kernel
theorem d_Mo_two_36 : decode c_Mo_two 36 = .ok (.istore 4, 2) := by decide +kernel
theorem d_Mo_two_38 : decode c_Mo_two 38 = .ok (.iload 4, 2) := by decide +kernel
theorem d_Mo_two_40 : decode c_Mo_two 40 = .ok (.iconst 2, 1) := by decide +kernel
theorem d_Mo_two_41 : decode c_Mo_two 41 = .ok (.if_icmp .ge 41, 3) := by decide +kernel
theorem d_Mo_two_44 : decode c_Mo_two 44 = .ok (.aload_n 0, 1) := by decide +kernel
theorem d_Mo_two_45 : decode c_Mo_two 45 = .ok (.getfield 65, 3) := by decide +kernel
theorem d_Mo_two_48 : decode c_Mo_two 48 = .ok (.iload 4, 2) := by decide +kernel
theorem d_Mo_two_50 : decode c_Mo_two 50 = .ok (.aload_n 0, 1) := by decide +kernel
theorem d_Mo_two_51 : decode c_Mo_two 51 = .ok (.iload_n 1, 1) := by decide +kernel
theorem d_Mo_two_52 : decode c_Mo_two 52 = .ok (.iload_n 3, 1) := by decide +kernel
theorem d_Mo_two_53 : decode c_Mo_two 53 = .ok (.iload 4, 2) := by decide +kernel
theorem d_Mo_two_55 : decode c_Mo_two 55 = .ok (.invokevirtual 259, 3) := by decide +kernel
theorem d_Mo_two_58 : decode c_Mo_two 58 = .ok (.iastore, 1) := by decide +kernel
theorem d_Mo_two_59 : decode c_Mo_two 59 = .ok (.aload_n 0, 1) := by decide +kernel
theorem d_Mo_two_60 : decode c_Mo_two 60 = .ok (.getfield 65, 3) := by decide +kernel
theorem d_Mo_two_63 : decode c_Mo_two 63 = .ok (.iconst 2, 1) := by decide +kernel
theorem d_Mo_two_64 : decode c_Mo_two 64 = .ok (.iload 4, 2) := by decide +kernel
theorem d_Mo_two_66 : decode c_Mo_two 66 = .ok (.iadd, 1) := by decide +kernel
theorem d_Mo_two_67 : decode c_Mo_two 67 = .ok (.aload_n 0, 1) := by decide +kernel
theorem d_Mo_two_68 : decode c_Mo_two 68 = .ok (.iload_n 2, 1) := by decide +kernel
theorem d_Mo_two_69 : decode c_Mo_two 69 = .ok (.iload_n 3, 1) := by decide +kernel
theorem d_Mo_two_70 : decode c_Mo_two 70 = .ok (.iload 4, 2) := by decide +kernel
theorem d_Mo_two_72 : decode c_Mo_two 72 = .ok (.invokevirtual 259, 3) := by decide +kernel
theorem d_Mo_two_75 : decode c_Mo_two 75 = .ok (.iastore, 1) := by decide +kernel
theorem d_Mo_two_76 : decode c_Mo_two 76 = .ok (.iinc 4 1, 3) := by decide +kernel
theorem d_Mo_two_79 : decode c_Mo_two 79 = .ok (.goto (-41), 3) := by decide +kernel
theorem d_Mo_two_82 : decode c_Mo_two 82 = .ok (.iconst 0, 1) := by decide +kernel
theorem d_Mo_two_83 : decode c_Mo_two 83 = .ok (.istore 4, 2) := by decide +kernel
theorem d_Mo_two_85 : decode c_Mo_two 85 = .ok (.iload 4, 2) := by decide +kernel
theorem d_Mo_two_87 : decode c_Mo_two 87 = .ok (.iconst 4, 1) := by decide +kernel
theorem d_Mo_two_88 : decode c_Mo_two 88 = .ok (.if_icmp .ge 76, 3) := by decide +kernel
theorem d_Mo_two_91 : decode c_Mo_two 91 = .ok (.iload 4, 2) := by decide +kernel
theorem d_Mo_two_93 : decode c_Mo_two 93 = .ok (.iconst 2, 1) := by decide +kernel
theorem d_Mo_two_94 : decode c_Mo_two 94 = .ok (.idiv, 1) := by decide +kernel
theorem d_Mo_two_95 : decode c_Mo_two 95 = .ok (.istore 5, 2) := by decide +kernel
theorem d_Mo_two_97 : decode c_Mo_two 97 = .ok (.iload 4, 2) := by decide +kernel
theorem d_Mo_two_99 : decode c_Mo_two 99 = .ok (.iconst 2, 1) := by decide +kernel
theorem d_Mo_two_100 : decode c_Mo_two 100 = .ok (.irem, 1) := by decide +kernel
theorem d_Mo_two_101 : decode c_Mo_two 101 = .ok (.istore 6, 2) := by decide +kernel
theorem d_Mo_two_103 : decode c_Mo_two 103 = .ok (.aload_n 0, 1) := by decide +kernel
theorem d_Mo_two_104 : decode c_Mo_two 104 = .ok (.iconst 0, 1) := by decide +kernel
theorem d_Mo_two_105 : decode c_Mo_two 105 = .ok (.iload 5, 2) := by decide +kernel
theorem d_Mo_two_107 : decode c_Mo_two 107 = .ok (.iload 6, 2) := by decide +kernel
theorem d_Mo_two_109 : decode c_Mo_two 109 = .ok (.invokevirtual 263, 3) := by decide +kernel
theorem d_Mo_two_112 : decode c_Mo_two 112 = .ok (.aload_n 0, 1) := by decide +kernel
theorem d_Mo_two_113 : decode c_Mo_two 113 = .ok (.iconst 0, 1) := by decide +kernel
theorem d_Mo_two_114 : decode c_Mo_two 114 = .ok (.iconst 1, 1) := by decide +kernel
theorem d_Mo_two_115 : decode c_Mo_two 115 = .ok (.iload 5, 2) := by decide +kernel
theorem d_Mo_two_117 : decode c_Mo_two 117 = .ok (.isub, 1) := by decide +kernel
theorem d_Mo_two_118 : decode c_Mo_two 118 = .ok (.iload 6, 2) := by decide +kernel
theorem d_Mo_two_120 : decode c_Mo_two 120 = .ok (.invokevirtual 263, 3) := by decide +kernel
theorem d_Mo_two_123 : decode c_Mo_two 123 = .ok (.if_icmp .lt 35, 3) := by decide +kernel
theorem d_Mo_two_126 : decode c_Mo_two 126 = .ok (.aload_n 0, 1) := by decide +kernel
theorem d_Mo_two_127 : decode c_Mo_two 127 = .ok (.iconst 2, 1) := by decide +kernel
theorem d_Mo_two_128 : decode c_Mo_two 128 = .ok (.iload 6, 2) := by decide +kernel
theorem d_Mo_two_130 : decode c_Mo_two 130 = .ok (.iload 5, 2) := by decide +kernel
theorem d_Mo_two_132 : decode c_Mo_two 132 = .ok (.invokevirtual 263, 3) := by decide +kernel
theorem d_Mo_two_135 : decode c_Mo_two 135 = .ok (.aload_n 0, 1) := by decide +kernel
theorem d_Mo_two_136 : decode c_Mo_two 136 = .ok (.iconst 2, 1) := by decide +kernel
theorem d_Mo_two_137 : decode c_Mo_two 137 = .ok (.iconst 1, 1) := by decide +kernel
theorem d_Mo_two_138 : decode c_Mo_two 138 = .ok (.iload 6, 2) := by decide +kernel
theorem d_Mo_two_140 : decode c_Mo_two 140 = .ok (.isub, 1) := by decide +kernel
theorem d_Mo_two_141 : decode c_Mo_two 141 = .ok (.iload 5, 2) := by decide +kernel
theorem d_Mo_two_143 : decode c_Mo_two 143 = .ok (.invokevirtual 263, 3) := by decide +kernel
theorem d_Mo_two_146 : decode c_Mo_two 146 = .ok (.if_icmp .lt 12, 3) := by decide +kernel
theorem d_Mo_two_149 : decode c_Mo_two 149 = .ok (.bipush 10, 2) := by decide +kernel
theorem d_Mo_two_151 : decode c_Mo_two 151 = .ok (.iload 5, 2) := by decide +kernel
theorem d_Mo_two_153 : decode c_Mo_two 153 = .ok (.imul, 1) := by decide +kernel
theorem d_Mo_two_154 : decode c_Mo_two 154 = .ok (.iload 6, 2) := by decide +kernel
theorem d_Mo_two_156 : decode c_Mo_two 156 = .ok (.iadd, 1) := by decide +kernel
theorem d_Mo_two_157 : decode c_Mo_two 157 = .ok (.ireturn, 1) := by decide +kernel
theorem d_Mo_two_158 : decode c_Mo_two 158 = .ok (.iinc 4 1, 3) := by decide +kernel
theorem d_Mo_two_161 : decode c_Mo_two 161 = .ok (.goto (-76), 3) := by decide +kernel
theorem d_Mo_two_164 : decode c_Mo_two 164 = .ok (.bipush (-4), 2) := by decide +kernel
theorem d_Mo_two_166 : decode c_Mo_two 166 = .ok (.ireturn, 1) := by decide +kernel
theorem d_Mo_hasBy_0 : decode c_Mo_hasBy 0 = .ok (.aload_n 0, 1) := by decide +kernel
theorem d_Mo_hasBy_1 : decode c_Mo_hasBy 1 = .ok (.getfield 65, 3) := by decide +kernel
theorem d_Mo_hasBy_4 : decode c_Mo_hasBy 4 = .ok (.iload_n 1, 1) := by decide +kernel
theorem d_Mo_hasBy_5 : decode c_Mo_hasBy 5 = .ok (.iload_n 2, 1) := by decide +kernel
theorem d_Mo_hasBy_6 : decode c_Mo_hasBy 6 = .ok (.iadd, 1) := by decide +kernel
theorem d_Mo_hasBy_7 : decode c_Mo_hasBy 7 = .ok (.iaload, 1) := by decide +kernel
theorem d_Mo_hasBy_8 : decode c_Mo_hasBy 8 = .ok (.aload_n 0, 1) := by decide +kernel
theorem d_Mo_hasBy_9 : decode c_Mo_hasBy 9 = .ok (.getfield 65, 3) := by decide +kernel
theorem d_Mo_hasBy_12 : decode c_Mo_hasBy 12 = .ok (.iconst 2, 1) := by decide +kernel
theorem d_Mo_hasBy_13 : decode c_Mo_hasBy 13 = .ok (.iload_n 1, 1) := by decide +kernel
theorem d_Mo_hasBy_14 : decode c_Mo_hasBy 14 = .ok (.isub, 1) := by decide +kernel
theorem d_Mo_hasBy_15 : decode c_Mo_hasBy 15 = .ok (.iload_n 3, 1) := by decide +kernel
theorem d_Mo_hasBy_16 : decode c_Mo_hasBy 16 = .ok (.iadd, 1) := by decide +kernel
theorem d_Mo_hasBy_17 : decode c_Mo_hasBy 17 = .ok (.iaload, 1) := by decide +kernel
theorem d_Mo_hasBy_18 : decode c_Mo_hasBy 18 = .ok (.if_icmp .ge 7, 3) := by decide +kernel
theorem d_Mo_hasBy_21 : decode c_Mo_hasBy 21 = .ok (.iconst 3, 1) := by decide +kernel
theorem d_Mo_hasBy_22 : decode c_Mo_hasBy 22 = .ok (.goto 4, 3) := by decide +kernel
theorem d_Mo_hasBy_25 : decode c_Mo_hasBy 25 = .ok (.iconst 0, 1) := by decide +kernel
theorem d_Mo_hasBy_26 : decode c_Mo_hasBy 26 = .ok (.iload_n 2, 1) := by decide +kernel
theorem d_Mo_hasBy_27 : decode c_Mo_hasBy 27 = .ok (.iadd, 1) := by decide +kernel
theorem d_Mo_hasBy_28 : decode c_Mo_hasBy 28 = .ok (.ireturn, 1) := by decide +kernel
theorem d_Mo_divisor_0 : decode c_Mo_divisor 0 = .ok (.lload_n 0, 1) := by decide +kernel
theorem d_Mo_divisor_1 : decode c_Mo_divisor 1 = .ok (.lstore 4, 2) := by decide +kernel
theorem d_Mo_divisor_3 : decode c_Mo_divisor 3 = .ok (.lload_n 2, 1) := by decide +kernel
theorem d_Mo_divisor_4 : decode c_Mo_divisor 4 = .ok (.lstore 6, 2) := by decide +kernel
theorem d_Mo_divisor_6 : decode c_Mo_divisor 6 = .ok (.lload 6, 2) := by decide +kernel
theorem d_Mo_divisor_8 : decode c_Mo_divisor 8 = .ok (.lconst 0, 1) := by decide +kernel
theorem d_Mo_divisor_9 : decode c_Mo_divisor 9 = .ok (.lcmp, 1) := by decide +kernel
theorem d_Mo_divisor_10 : decode c_Mo_divisor 10 = .ok (.ifCond .eq 21, 3) := by decide +kernel
theorem d_Mo_divisor_13 : decode c_Mo_divisor 13 = .ok (.lload 4, 2) := by decide +kernel
theorem d_Mo_divisor_15 : decode c_Mo_divisor 15 = .ok (.lload 6, 2) := by decide +kernel
theorem d_Mo_divisor_17 : decode c_Mo_divisor 17 = .ok (.lrem, 1) := by decide +kernel
theorem d_Mo_divisor_18 : decode c_Mo_divisor 18 = .ok (.lstore 8, 2) := by decide +kernel
theorem d_Mo_divisor_20 : decode c_Mo_divisor 20 = .ok (.lload 6, 2) := by decide +kernel
theorem d_Mo_divisor_22 : decode c_Mo_divisor 22 = .ok (.lstore 4, 2) := by decide +kernel
theorem d_Mo_divisor_24 : decode c_Mo_divisor 24 = .ok (.lload 8, 2) := by decide +kernel
theorem d_Mo_divisor_26 : decode c_Mo_divisor 26 = .ok (.lstore 6, 2) := by decide +kernel
theorem d_Mo_divisor_28 : decode c_Mo_divisor 28 = .ok (.goto (-22), 3) := by decide +kernel
theorem d_Mo_divisor_31 : decode c_Mo_divisor 31 = .ok (.lload 4, 2) := by decide +kernel
theorem d_Mo_divisor_33 : decode c_Mo_divisor 33 = .ok (.lreturn, 1) := by decide +kernel
theorem d_Mo_partOf_0 : decode c_Mo_partOf 0 = .ok (.lload_n 0, 1) := by decide +kernel
theorem d_Mo_partOf_1 : decode c_Mo_partOf 1 = .ok (.lconst 0, 1) := by decide +kernel
theorem d_Mo_partOf_2 : decode c_Mo_partOf 2 = .ok (.lcmp, 1) := by decide +kernel
theorem d_Mo_partOf_3 : decode c_Mo_partOf 3 = .ok (.ifCond .ne 7, 3) := by decide +kernel
theorem d_Mo_partOf_6 : decode c_Mo_partOf 6 = .ok (.iload 4, 2) := by decide +kernel
theorem d_Mo_partOf_8 : decode c_Mo_partOf 8 = .ok (.i2l, 1) := by decide +kernel
theorem d_Mo_partOf_9 : decode c_Mo_partOf 9 = .ok (.lreturn, 1) := by decide +kernel
theorem d_Mo_partOf_10 : decode c_Mo_partOf 10 = .ok (.lload_n 0, 1) := by decide +kernel
theorem d_Mo_partOf_11 : decode c_Mo_partOf 11 = .ok (.lload_n 2, 1) := by decide +kernel
theorem d_Mo_partOf_12 : decode c_Mo_partOf 12 = .ok (.invokestatic 266, 3) := by decide +kernel
theorem d_Mo_partOf_15 : decode c_Mo_partOf 15 = .ok (.lstore 5, 2) := by decide +kernel
theorem d_Mo_partOf_17 : decode c_Mo_partOf 17 = .ok (.iload 4, 2) := by decide +kernel
theorem d_Mo_partOf_19 : decode c_Mo_partOf 19 = .ok (.ifCond .ne 10, 3) := by decide +kernel
theorem d_Mo_partOf_22 : decode c_Mo_partOf 22 = .ok (.lload_n 0, 1) := by decide +kernel
theorem d_Mo_partOf_23 : decode c_Mo_partOf 23 = .ok (.lload 5, 2) := by decide +kernel
theorem d_Mo_partOf_25 : decode c_Mo_partOf 25 = .ok (.ldiv, 1) := by decide +kernel
theorem d_Mo_partOf_26 : decode c_Mo_partOf 26 = .ok (.goto 7, 3) := by decide +kernel
theorem d_Mo_partOf_29 : decode c_Mo_partOf 29 = .ok (.lload_n 2, 1) := by decide +kernel
theorem d_Mo_partOf_30 : decode c_Mo_partOf 30 = .ok (.lload 5, 2) := by decide +kernel
theorem d_Mo_partOf_32 : decode c_Mo_partOf 32 = .ok (.ldiv, 1) := by decide +kernel
theorem d_Mo_partOf_33 : decode c_Mo_partOf 33 = .ok (.lreturn, 1) := by decide +kernel
theorem d_Mo_storm_0 : decode c_Mo_storm 0 = .ok (.aload_n 0, 1) := by decide +kernel
theorem d_Mo_storm_1 : decode c_Mo_storm 1 = .ok (.iconst 0, 1) := by decide +kernel
theorem d_Mo_storm_2 : decode c_Mo_storm 2 = .ok (.putfield 71, 3) := by decide +kernel
theorem d_Mo_storm_5 : decode c_Mo_storm 5 = .ok (.aload_n 0, 1) := by decide +kernel
theorem d_Mo_storm_6 : decode c_Mo_storm 6 = .ok (.iload_n 1, 1) := by decide +kernel
theorem d_Mo_storm_7 : decode c_Mo_storm 7 = .ok (.invokevirtual 162, 3) := by decide +kernel
theorem d_Mo_storm_10 : decode c_Mo_storm 10 = .ok (.ifCond .eq 53, 3) := by decide +kernel
theorem d_Mo_storm_13 : decode c_Mo_storm 13 = .ok (.iload_n 2, 1) := by decide +kernel
theorem d_Mo_storm_14 : decode c_Mo_storm 14 = .ok (.i2l, 1) := by decide +kernel
theorem d_Mo_storm_15 : decode c_Mo_storm 15 = .ok (.lconst 1, 1) := by decide +kernel
theorem d_Mo_storm_16 : decode c_Mo_storm 16 = .ok (.ldc2_w 152, 3) := by decide +kernel
theorem d_Mo_storm_19 : decode c_Mo_storm 19 = .ok (.invokestatic 77, 3) := by decide +kernel
theorem d_Mo_storm_22 : decode c_Mo_storm 22 = .ok (.ifCond .eq 41, 3) := by decide +kernel
theorem d_Mo_storm_25 : decode c_Mo_storm 25 = .ok (.iload_n 3, 1) := by decide +kernel
theorem d_Mo_storm_26 : decode c_Mo_storm 26 = .ok (.i2l, 1) := by decide +kernel
theorem d_Mo_storm_27 : decode c_Mo_storm 27 = .ok (.lconst 0, 1) := by decide +kernel
theorem d_Mo_storm_28 : decode c_Mo_storm 28 = .ok (.ldc2_w 205, 3) := by decide +kernel
theorem d_Mo_storm_31 : decode c_Mo_storm 31 = .ok (.invokestatic 77, 3) := by decide +kernel
theorem d_Mo_storm_34 : decode c_Mo_storm 34 = .ok (.ifCond .eq 29, 3) := by decide +kernel
theorem d_Mo_storm_37 : decode c_Mo_storm 37 = .ok (.iload 4, 2) := by decide +kernel
theorem d_Mo_storm_39 : decode c_Mo_storm 39 = .ok (.i2l, 1) := by decide +kernel
theorem d_Mo_storm_40 : decode c_Mo_storm 40 = .ok (.ldc2_w 270, 3) := by decide +kernel
theorem d_Mo_storm_43 : decode c_Mo_storm 43 = .ok (.ldc2_w 75, 3) := by decide +kernel
theorem d_Mo_storm_46 : decode c_Mo_storm 46 = .ok (.invokestatic 77, 3) := by decide +kernel
theorem d_Mo_storm_49 : decode c_Mo_storm 49 = .ok (.ifCond .eq 14, 3) := by decide +kernel
theorem d_Mo_storm_52 : decode c_Mo_storm 52 = .ok (.iload 5, 2) := by decide +kernel
theorem d_Mo_storm_54 : decode c_Mo_storm 54 = .ok (.i2l, 1) := by decide +kernel
theorem d_Mo_storm_55 : decode c_Mo_storm 55 = .ok (.lconst 0, 1) := by decide +kernel
theorem d_Mo_storm_56 : decode c_Mo_storm 56 = .ok (.lconst 1, 1) := by decide +kernel
theorem d_Mo_storm_57 : decode c_Mo_storm 57 = .ok (.invokestatic 77, 3) := by decide +kernel
theorem d_Mo_storm_60 : decode c_Mo_storm 60 = .ok (.ifCond .ne 7, 3) := by decide +kernel
theorem d_Mo_storm_63 : decode c_Mo_storm 63 = .ok (.ldc2_w 272, 3) := by decide +kernel
theorem d_Mo_storm_66 : decode c_Mo_storm 66 = .ok (.lreturn, 1) := by decide +kernel
theorem d_Mo_storm_67 : decode c_Mo_storm 67 = .ok (.lconst 0, 1) := by decide +kernel
theorem d_Mo_storm_68 : decode c_Mo_storm 68 = .ok (.lstore 6, 2) := by decide +kernel
theorem d_Mo_storm_70 : decode c_Mo_storm 70 = .ok (.lconst 1, 1) := by decide +kernel
theorem d_Mo_storm_71 : decode c_Mo_storm 71 = .ok (.lstore 8, 2) := by decide +kernel
theorem d_Mo_storm_73 : decode c_Mo_storm 73 = .ok (.iconst 0, 1) := by decide +kernel
theorem d_Mo_storm_74 : decode c_Mo_storm 74 = .ok (.istore 10, 2) := by decide +kernel
theorem d_Mo_storm_76 : decode c_Mo_storm 76 = .ok (.iload 10, 2) := by decide +kernel
theorem d_Mo_storm_78 : decode c_Mo_storm 78 = .ok (.iload_n 3, 1) := by decide +kernel
theorem d_Mo_storm_79 : decode c_Mo_storm 79 = .ok (.if_icmp .ge 17, 3) := by decide +kernel
theorem d_Mo_storm_82 : decode c_Mo_storm 82 = .ok (.lload 8, 2) := by decide +kernel
theorem d_Mo_storm_84 : decode c_Mo_storm 84 = .ok (.iload 4, 2) := by decide +kernel
theorem d_Mo_storm_86 : decode c_Mo_storm 86 = .ok (.i2l, 1) := by decide +kernel
theorem d_Mo_storm_87 : decode c_Mo_storm 87 = .ok (.lmul, 1) := by decide +kernel
theorem d_Mo_storm_88 : decode c_Mo_storm 88 = .ok (.lstore 8, 2) := by decide +kernel
theorem d_Mo_storm_90 : decode c_Mo_storm 90 = .ok (.iinc 10 1, 3) := by decide +kernel
theorem d_Mo_storm_93 : decode c_Mo_storm 93 = .ok (.goto (-17), 3) := by decide +kernel
theorem d_Mo_storm_96 : decode c_Mo_storm 96 = .ok (.aload_n 0, 1) := by decide +kernel
theorem d_Mo_storm_97 : decode c_Mo_storm 97 = .ok (.invokevirtual 177, 3) := by decide +kernel
theorem d_Mo_storm_100 : decode c_Mo_storm 100 = .ok (.iconst 0, 1) := by decide +kernel
theorem d_Mo_storm_101 : decode c_Mo_storm 101 = .ok (.istore 10, 2) := by decide +kernel
theorem d_Mo_storm_103 : decode c_Mo_storm 103 = .ok (.iload 10, 2) := by decide +kernel
theorem d_Mo_storm_105 : decode c_Mo_storm 105 = .ok (.iconst 1, 1) := by decide +kernel
theorem d_Mo_storm_106 : decode c_Mo_storm 106 = .ok (.iload_n 3, 1) := by decide +kernel
theorem d_Mo_storm_107 : decode c_Mo_storm 107 = .ok (.ishl, 1) := by decide +kernel
theorem d_Mo_storm_108 : decode c_Mo_storm 108 = .ok (.if_icmp .ge 86, 3) := by decide +kernel
theorem d_Mo_storm_111 : decode c_Mo_storm 111 = .ok (.lconst 1, 1) := by decide +kernel
theorem d_Mo_storm_112 : decode c_Mo_storm 112 = .ok (.lstore 11, 2) := by decide +kernel
theorem d_Mo_storm_114 : decode c_Mo_storm 114 = .ok (.iconst 0, 1) := by decide +kernel
theorem d_Mo_storm_115 : decode c_Mo_storm 115 = .ok (.istore 13, 2) := by decide +kernel
theorem d_Mo_storm_117 : decode c_Mo_storm 117 = .ok (.iload 13, 2) := by decide +kernel
theorem d_Mo_storm_119 : decode c_Mo_storm 119 = .ok (.iload_n 3, 1) := by decide +kernel
theorem d_Mo_storm_120 : decode c_Mo_storm 120 = .ok (.if_icmp .ge 44, 3) := by decide +kernel
theorem d_Mo_storm_123 : decode c_Mo_storm 123 = .ok (.lload 11, 2) := by decide +kernel
theorem d_Mo_storm_125 : decode c_Mo_storm 125 = .ok (.iload 10, 2) := by decide +kernel
theorem d_Mo_storm_127 : decode c_Mo_storm 127 = .ok (.iload 13, 2) := by decide +kernel
theorem d_Mo_storm_129 : decode c_Mo_storm 129 = .ok (.invokestatic 274, 3) := by decide +kernel
theorem d_Mo_storm_132 : decode c_Mo_storm 132 = .ok (.ifCond .eq 7, 3) := by decide +kernel
theorem d_Mo_storm_135 : decode c_Mo_storm 135 = .ok (.lconst 1, 1) := by decide +kernel
theorem d_Mo_storm_136 : decode c_Mo_storm 136 = .ok (.goto 8, 3) := by decide +kernel
theorem d_Mo_storm_139 : decode c_Mo_storm 139 = .ok (.iload 4, 2) := by decide +kernel
theorem d_Mo_storm_141 : decode c_Mo_storm 141 = .ok (.iconst 1, 1) := by decide +kernel
theorem d_Mo_storm_142 : decode c_Mo_storm 142 = .ok (.isub, 1) := by decide +kernel
theorem d_Mo_storm_143 : decode c_Mo_storm 143 = .ok (.i2l, 1) := by decide +kernel
theorem d_Mo_storm_144 : decode c_Mo_storm 144 = .ok (.lmul, 1) := by decide +kernel
theorem d_Mo_storm_145 : decode c_Mo_storm 145 = .ok (.lstore 11, 2) := by decide +kernel
theorem d_Mo_storm_147 : decode c_Mo_storm 147 = .ok (.aload_n 0, 1) := by decide +kernel
theorem d_Mo_storm_148 : decode c_Mo_storm 148 = .ok (.iload 10, 2) := by decide +kernel
theorem d_Mo_storm_150 : decode c_Mo_storm 150 = .ok (.iload 13, 2) := by decide +kernel
theorem d_Mo_storm_152 : decode c_Mo_storm 152 = .ok (.invokestatic 274, 3) := by decide +kernel
theorem d_Mo_storm_155 : decode c_Mo_storm 155 = .ok (.invokevirtual 104, 3) := by decide +kernel
theorem d_Mo_storm_158 : decode c_Mo_storm 158 = .ok (.iinc 13 1, 3) := by decide +kernel
theorem d_Mo_storm_161 : decode c_Mo_storm 161 = .ok (.goto (-44), 3) := by decide +kernel
theorem d_Mo_storm_164 : decode c_Mo_storm 164 = .ok (.lload 6, 2) := by decide +kernel
theorem d_Mo_storm_166 : decode c_Mo_storm 166 = .ok (.aload_n 0, 1) := by decide +kernel
theorem d_Mo_storm_167 : decode c_Mo_storm 167 = .ok (.iload_n 1, 1) := by decide +kernel
theorem d_Mo_storm_168 : decode c_Mo_storm 168 = .ok (.invokevirtual 108, 3) := by decide +kernel
theorem d_Mo_storm_171 : decode c_Mo_storm 171 = .ok (.iload_n 2, 1) := by decide +kernel
theorem d_Mo_storm_172 : decode c_Mo_storm 172 = .ok (.if_icmp .lt 8, 3) := by decide +kernel
theorem d_Mo_storm_175 : decode c_Mo_storm 175 = .ok (.lload 11, 2) := by decide +kernel
theorem d_Mo_storm_177 : decode c_Mo_storm 177 = .ok (.goto 4, 3) := by decide +kernel
theorem d_Mo_storm_180 : decode c_Mo_storm 180 = .ok (.lconst 0, 1) := by decide +kernel
theorem d_Mo_storm_181 : decode c_Mo_storm 181 = .ok (.ladd, 1) := by decide +kernel
theorem d_Mo_storm_182 : decode c_Mo_storm 182 = .ok (.lstore 6, 2) := by decide +kernel
theorem d_Mo_storm_184 : decode c_Mo_storm 184 = .ok (.aload_n 0, 1) := by decide +kernel
theorem d_Mo_storm_185 : decode c_Mo_storm 185 = .ok (.invokevirtual 183, 3) := by decide +kernel
theorem d_Mo_storm_188 : decode c_Mo_storm 188 = .ok (.iinc 10 1, 3) := by decide +kernel
theorem d_Mo_storm_191 : decode c_Mo_storm 191 = .ok (.goto (-88), 3) := by decide +kernel
theorem d_Mo_storm_194 : decode c_Mo_storm 194 = .ok (.lload 6, 2) := by decide +kernel
theorem d_Mo_storm_196 : decode c_Mo_storm 196 = .ok (.lload 8, 2) := by decide +kernel
theorem d_Mo_storm_198 : decode c_Mo_storm 198 = .ok (.iload 5, 2) := by decide +kernel
theorem d_Mo_storm_200 : decode c_Mo_storm 200 = .ok (.invokestatic 278, 3) := by decide +kernel
theorem d_Mo_storm_203 : decode c_Mo_storm 203 = .ok (.lreturn, 1) := by decide +kernel
theorem d_Mo_mean_0 : decode c_Mo_mean 0 = .ok (.aload_n 0, 1) := by decide +kernel
theorem d_Mo_mean_1 : decode c_Mo_mean 1 = .ok (.iconst 0, 1) := by decide +kernel
theorem d_Mo_mean_2 : decode c_Mo_mean 2 = .ok (.putfield 71, 3) := by decide +kernel
theorem d_Mo_mean_5 : decode c_Mo_mean 5 = .ok (.iload_n 1, 1) := by decide +kernel
theorem d_Mo_mean_6 : decode c_Mo_mean 6 = .ok (.i2l, 1) := by decide +kernel
theorem d_Mo_mean_7 : decode c_Mo_mean 7 = .ok (.lconst 0, 1) := by decide +kernel
theorem d_Mo_mean_8 : decode c_Mo_mean 8 = .ok (.lconst 1, 1) := by decide +kernel
theorem d_Mo_mean_9 : decode c_Mo_mean 9 = .ok (.invokestatic 77, 3) := by decide +kernel
theorem d_Mo_mean_12 : decode c_Mo_mean 12 = .ok (.ifCond .eq 20, 3) := by decide +kernel
theorem d_Mo_mean_15 : decode c_Mo_mean 15 = .ok (.aload_n 0, 1) := by decide +kernel
theorem d_Mo_mean_16 : decode c_Mo_mean 16 = .ok (.invokevirtual 212, 3) := by decide +kernel
theorem d_Mo_mean_19 : decode c_Mo_mean 19 = .ok (.i2l, 1) := by decide +kernel
theorem d_Mo_mean_20 : decode c_Mo_mean 20 = .ok (.aload_n 0, 1) := by decide +kernel
theorem d_Mo_mean_21 : decode c_Mo_mean 21 = .ok (.getfield 81, 3) := by decide +kernel
theorem d_Mo_mean_24 : decode c_Mo_mean 24 = .ok (.i2l, 1) := by decide +kernel
theorem d_Mo_mean_25 : decode c_Mo_mean 25 = .ok (.iload_n 1, 1) := by decide +kernel
theorem d_Mo_mean_26 : decode c_Mo_mean 26 = .ok (.invokestatic 278, 3) := by decide +kernel
theorem d_Mo_mean_29 : decode c_Mo_mean 29 = .ok (.goto 6, 3) := by decide +kernel
theorem d_Mo_mean_32 : decode c_Mo_mean 32 = .ok (.ldc2_w 272, 3) := by decide +kernel
theorem d_Mo_mean_35 : decode c_Mo_mean 35 = .ok (.lreturn, 1) := by decide +kernel
theorem d_Mo_forged_0 : decode c_Mo_forged 0 = .ok (.aload_n 0, 1) := by decide +kernel
theorem d_Mo_forged_1 : decode c_Mo_forged 1 = .ok (.iconst 0, 1) := by decide +kernel
theorem d_Mo_forged_2 : decode c_Mo_forged 2 = .ok (.putfield 71, 3) := by decide +kernel
theorem d_Mo_forged_5 : decode c_Mo_forged 5 = .ok (.aload_n 0, 1) := by decide +kernel
theorem d_Mo_forged_6 : decode c_Mo_forged 6 = .ok (.iload_n 1, 1) := by decide +kernel
theorem d_Mo_forged_7 : decode c_Mo_forged 7 = .ok (.invokevirtual 171, 3) := by decide +kernel
theorem d_Mo_forged_10 : decode c_Mo_forged 10 = .ok (.istore_n 2, 1) := by decide +kernel
theorem d_Mo_forged_11 : decode c_Mo_forged 11 = .ok (.iload_n 2, 1) := by decide +kernel
theorem d_Mo_forged_12 : decode c_Mo_forged 12 = .ok (.ifCond .ne 20, 3) := by decide +kernel
theorem d_Mo_forged_15 : decode c_Mo_forged 15 = .ok (.aload_n 0, 1) := by decide +kernel
theorem d_Mo_forged_16 : decode c_Mo_forged 16 = .ok (.getfield 37, 3) := by decide +kernel
theorem d_Mo_forged_19 : decode c_Mo_forged 19 = .ok (.iload_n 1, 1) := by decide +kernel
theorem d_Mo_forged_20 : decode c_Mo_forged 20 = .ok (.iaload, 1) := by decide +kernel
theorem d_Mo_forged_21 : decode c_Mo_forged 21 = .ok (.iconst 2, 1) := by decide +kernel
theorem d_Mo_forged_22 : decode c_Mo_forged 22 = .ok (.irem, 1) := by decide +kernel
theorem d_Mo_forged_23 : decode c_Mo_forged 23 = .ok (.iconst 1, 1) := by decide +kernel
theorem d_Mo_forged_24 : decode c_Mo_forged 24 = .ok (.if_icmp .ne 8, 3) := by decide +kernel
theorem d_Mo_forged_27 : decode c_Mo_forged 27 = .ok (.bipush (-13), 2) := by decide +kernel
theorem d_Mo_forged_29 : decode c_Mo_forged 29 = .ok (.goto 4, 3) := by decide +kernel
theorem d_Mo_forged_32 : decode c_Mo_forged 32 = .ok (.iload_n 2, 1) := by decide +kernel
theorem d_Mo_forged_33 : decode c_Mo_forged 33 = .ok (.istore_n 2, 1) := by decide +kernel
theorem d_Mo_forged_34 : decode c_Mo_forged 34 = .ok (.iload_n 2, 1) := by decide +kernel
theorem d_Mo_forged_35 : decode c_Mo_forged 35 = .ok (.ifCond .ge 5, 3) := by decide +kernel
theorem d_Mo_forged_38 : decode c_Mo_forged 38 = .ok (.iload_n 2, 1) := by decide +kernel
theorem d_Mo_forged_39 : decode c_Mo_forged 39 = .ok (.ireturn, 1) := by decide +kernel
theorem d_Mo_forged_40 : decode c_Mo_forged 40 = .ok (.bipush (-4), 2) := by decide +kernel
theorem d_Mo_forged_42 : decode c_Mo_forged 42 = .ok (.istore_n 3, 1) := by decide +kernel
theorem d_Mo_forged_43 : decode c_Mo_forged 43 = .ok (.iconst (-1), 1) := by decide +kernel
theorem d_Mo_forged_44 : decode c_Mo_forged 44 = .ok (.istore 4, 2) := by decide +kernel
theorem d_Mo_forged_46 : decode c_Mo_forged 46 = .ok (.aload_n 0, 1) := by decide +kernel
theorem d_Mo_forged_47 : decode c_Mo_forged 47 = .ok (.invokevirtual 177, 3) := by decide +kernel
theorem d_Mo_forged_50 : decode c_Mo_forged 50 = .ok (.iconst 0, 1) := by decide +kernel
theorem d_Mo_forged_51 : decode c_Mo_forged 51 = .ok (.istore 5, 2) := by decide +kernel
theorem d_Mo_forged_53 : decode c_Mo_forged 53 = .ok (.iload 5, 2) := by decide +kernel
theorem d_Mo_forged_55 : decode c_Mo_forged 55 = .ok (.aload_n 0, 1) := by decide +kernel
theorem d_Mo_forged_56 : decode c_Mo_forged 56 = .ok (.getfield 37, 3) := by decide +kernel
theorem d_Mo_forged_59 : decode c_Mo_forged 59 = .ok (.iload_n 1, 1) := by decide +kernel
theorem d_Mo_forged_60 : decode c_Mo_forged 60 = .ok (.iaload, 1) := by decide +kernel
theorem d_Mo_forged_61 : decode c_Mo_forged 61 = .ok (.iconst 2, 1) := by decide +kernel
theorem d_Mo_forged_62 : decode c_Mo_forged 62 = .ok (.idiv, 1) := by decide +kernel
theorem d_Mo_forged_63 : decode c_Mo_forged 63 = .ok (.if_icmp .ge 146, 3) := by decide +kernel
theorem d_Mo_forged_66 : decode c_Mo_forged 66 = .ok (.iload_n 3, 1) := by decide +kernel
theorem d_Mo_forged_67 : decode c_Mo_forged 67 = .ok (.ifCond .ge 142, 3) := by decide +kernel
theorem d_Mo_forged_70 : decode c_Mo_forged 70 = .ok (.aload_n 0, 1) := by decide +kernel
theorem d_Mo_forged_71 : decode c_Mo_forged 71 = .ok (.getfield 40, 3) := by decide +kernel
theorem d_Mo_forged_74 : decode c_Mo_forged 74 = .ok (.bipush 100, 2) := by decide +kernel
theorem d_Mo_forged_76 : decode c_Mo_forged 76 = .ok (.iload_n 1, 1) := by decide +kernel
theorem d_Mo_forged_77 : decode c_Mo_forged 77 = .ok (.imul, 1) := by decide +kernel
theorem d_Mo_forged_78 : decode c_Mo_forged 78 = .ok (.iconst 2, 1) := by decide +kernel
theorem d_Mo_forged_79 : decode c_Mo_forged 79 = .ok (.iload 5, 2) := by decide +kernel
theorem d_Mo_forged_81 : decode c_Mo_forged 81 = .ok (.imul, 1) := by decide +kernel
theorem d_Mo_forged_82 : decode c_Mo_forged 82 = .ok (.iadd, 1) := by decide +kernel
theorem d_Mo_forged_83 : decode c_Mo_forged 83 = .ok (.laload, 1) := by decide +kernel
theorem d_Mo_forged_84 : decode c_Mo_forged 84 = .ok (.lstore 6, 2) := by decide +kernel
theorem d_Mo_forged_86 : decode c_Mo_forged 86 = .ok (.aload_n 0, 1) := by decide +kernel
theorem d_Mo_forged_87 : decode c_Mo_forged 87 = .ok (.getfield 40, 3) := by decide +kernel
theorem d_Mo_forged_90 : decode c_Mo_forged 90 = .ok (.bipush 100, 2) := by decide +kernel
theorem d_Mo_forged_92 : decode c_Mo_forged 92 = .ok (.iload_n 1, 1) := by decide +kernel
theorem d_Mo_forged_93 : decode c_Mo_forged 93 = .ok (.imul, 1) := by decide +kernel
theorem d_Mo_forged_94 : decode c_Mo_forged 94 = .ok (.iconst 2, 1) := by decide +kernel
theorem d_Mo_forged_95 : decode c_Mo_forged 95 = .ok (.iload 5, 2) := by decide +kernel
theorem d_Mo_forged_97 : decode c_Mo_forged 97 = .ok (.imul, 1) := by decide +kernel
theorem d_Mo_forged_98 : decode c_Mo_forged 98 = .ok (.iadd, 1) := by decide +kernel
theorem d_Mo_forged_99 : decode c_Mo_forged 99 = .ok (.iconst 1, 1) := by decide +kernel
theorem d_Mo_forged_100 : decode c_Mo_forged 100 = .ok (.iadd, 1) := by decide +kernel
theorem d_Mo_forged_101 : decode c_Mo_forged 101 = .ok (.laload, 1) := by decide +kernel
theorem d_Mo_forged_102 : decode c_Mo_forged 102 = .ok (.lstore 8, 2) := by decide +kernel
theorem d_Mo_forged_104 : decode c_Mo_forged 104 = .ok (.lload 6, 2) := by decide +kernel
theorem d_Mo_forged_106 : decode c_Mo_forged 106 = .ok (.lconst 0, 1) := by decide +kernel
theorem d_Mo_forged_107 : decode c_Mo_forged 107 = .ok (.aload_n 0, 1) := by decide +kernel
theorem d_Mo_forged_108 : decode c_Mo_forged 108 = .ok (.getfield 81, 3) := by decide +kernel
theorem d_Mo_forged_111 : decode c_Mo_forged 111 = .ok (.iconst 1, 1) := by decide +kernel
theorem d_Mo_forged_112 : decode c_Mo_forged 112 = .ok (.isub, 1) := by decide +kernel
theorem d_Mo_forged_113 : decode c_Mo_forged 113 = .ok (.i2l, 1) := by decide +kernel
theorem d_Mo_forged_114 : decode c_Mo_forged 114 = .ok (.invokestatic 77, 3) := by decide +kernel
theorem d_Mo_forged_117 : decode c_Mo_forged 117 = .ok (.ifCond .eq 19, 3) := by decide +kernel
theorem d_Mo_forged_120 : decode c_Mo_forged 120 = .ok (.lload 8, 2) := by decide +kernel
theorem d_Mo_forged_122 : decode c_Mo_forged 122 = .ok (.lconst 0, 1) := by decide +kernel
theorem d_Mo_forged_123 : decode c_Mo_forged 123 = .ok (.ldc2_w 75, 3) := by decide +kernel
theorem d_Mo_forged_126 : decode c_Mo_forged 126 = .ok (.invokestatic 77, 3) := by decide +kernel
theorem d_Mo_forged_129 : decode c_Mo_forged 129 = .ok (.ifCond .eq 7, 3) := by decide +kernel
theorem d_Mo_forged_132 : decode c_Mo_forged 132 = .ok (.iconst 1, 1) := by decide +kernel
theorem d_Mo_forged_133 : decode c_Mo_forged 133 = .ok (.goto 4, 3) := by decide +kernel
theorem d_Mo_forged_136 : decode c_Mo_forged 136 = .ok (.iconst 0, 1) := by decide +kernel
theorem d_Mo_forged_137 : decode c_Mo_forged 137 = .ok (.istore 10, 2) := by decide +kernel
theorem d_Mo_forged_139 : decode c_Mo_forged 139 = .ok (.iload 10, 2) := by decide +kernel
theorem d_Mo_forged_141 : decode c_Mo_forged 141 = .ok (.ifCond .eq 25, 3) := by decide +kernel
theorem d_Mo_forged_144 : decode c_Mo_forged 144 = .ok (.iload 5, 2) := by decide +kernel
theorem d_Mo_forged_146 : decode c_Mo_forged 146 = .ok (.ifCond .eq 16, 3) := by decide +kernel
theorem d_Mo_forged_149 : decode c_Mo_forged 149 = .ok (.aload_n 0, 1) := by decide +kernel
theorem d_Mo_forged_150 : decode c_Mo_forged 150 = .ok (.getfield 19, 3) := by decide +kernel
theorem d_Mo_forged_153 : decode c_Mo_forged 153 = .ok (.lload 6, 2) := by decide +kernel
theorem d_Mo_forged_155 : decode c_Mo_forged 155 = .ok (.l2i, 1) := by decide +kernel
theorem d_Mo_forged_156 : decode c_Mo_forged 156 = .ok (.iaload, 1) := by decide +kernel
theorem d_Mo_forged_157 : decode c_Mo_forged 157 = .ok (.iload 4, 2) := by decide +kernel
theorem d_Mo_forged_159 : decode c_Mo_forged 159 = .ok (.if_icmp .ne 7, 3) := by decide +kernel
theorem d_Mo_forged_162 : decode c_Mo_forged 162 = .ok (.iconst 1, 1) := by decide +kernel
theorem d_Mo_forged_163 : decode c_Mo_forged 163 = .ok (.goto 4, 3) := by decide +kernel
theorem d_Mo_forged_166 : decode c_Mo_forged 166 = .ok (.iconst 0, 1) := by decide +kernel
theorem d_Mo_forged_167 : decode c_Mo_forged 167 = .ok (.istore 10, 2) := by decide +kernel
theorem d_Mo_forged_169 : decode c_Mo_forged 169 = .ok (.iload 10, 2) := by decide +kernel
theorem d_Mo_forged_171 : decode c_Mo_forged 171 = .ok (.ifCond .eq 8, 3) := by decide +kernel
theorem d_Mo_forged_174 : decode c_Mo_forged 174 = .ok (.bipush (-4), 2) := by decide +kernel
theorem d_Mo_forged_176 : decode c_Mo_forged 176 = .ok (.goto 5, 3) := by decide +kernel
theorem d_Mo_forged_179 : decode c_Mo_forged 179 = .ok (.iload 5, 2) := by decide +kernel
theorem d_Mo_forged_181 : decode c_Mo_forged 181 = .ok (.istore_n 3, 1) := by decide +kernel
theorem d_Mo_forged_182 : decode c_Mo_forged 182 = .ok (.iload 10, 2) := by decide +kernel
theorem d_Mo_forged_184 : decode c_Mo_forged 184 = .ok (.ifCond .eq 19, 3) := by decide +kernel
theorem d_Mo_forged_187 : decode c_Mo_forged 187 = .ok (.aload_n 0, 1) := by decide +kernel
theorem d_Mo_forged_188 : decode c_Mo_forged 188 = .ok (.lload 6, 2) := by decide +kernel
theorem d_Mo_forged_190 : decode c_Mo_forged 190 = .ok (.l2i, 1) := by decide +kernel
theorem d_Mo_forged_191 : decode c_Mo_forged 191 = .ok (.lload 8, 2) := by decide +kernel
theorem d_Mo_forged_193 : decode c_Mo_forged 193 = .ok (.l2i, 1) := by decide +kernel
theorem d_Mo_forged_194 : decode c_Mo_forged 194 = .ok (.invokevirtual 165, 3) := by decide +kernel
theorem d_Mo_forged_197 : decode c_Mo_forged 197 = .ok (.pop, 1) := by decide +kernel
theorem d_Mo_forged_198 : decode c_Mo_forged 198 = .ok (.lload 8, 2) := by decide +kernel
theorem d_Mo_forged_200 : decode c_Mo_forged 200 = .ok (.l2i, 1) := by decide +kernel
theorem d_Mo_forged_201 : decode c_Mo_forged 201 = .ok (.istore 4, 2) := by decide +kernel
theorem d_Mo_forged_203 : decode c_Mo_forged 203 = .ok (.iinc 5 1, 3) := by decide +kernel
theorem d_Mo_forged_206 : decode c_Mo_forged 206 = .ok (.goto (-153), 3) := by decide +kernel
theorem d_Mo_forged_209 : decode c_Mo_forged 209 = .ok (.aload_n 0, 1) := by decide +kernel
theorem d_Mo_forged_210 : decode c_Mo_forged 210 = .ok (.invokevirtual 183, 3) := by decide +kernel
theorem d_Mo_forged_213 : decode c_Mo_forged 213 = .ok (.iload_n 3, 1) := by decide +kernel
theorem d_Mo_forged_214 : decode c_Mo_forged 214 = .ok (.ireturn, 1) := by decide +kernel
theorem d_Mo_judge_0 : decode c_Mo_judge 0 = .ok (.aload_n 0, 1) := by decide +kernel
theorem d_Mo_judge_1 : decode c_Mo_judge 1 = .ok (.iconst 0, 1) := by decide +kernel
theorem d_Mo_judge_2 : decode c_Mo_judge 2 = .ok (.putfield 71, 3) := by decide +kernel
theorem d_Mo_judge_5 : decode c_Mo_judge 5 = .ok (.aload_n 0, 1) := by decide +kernel
theorem d_Mo_judge_6 : decode c_Mo_judge 6 = .ok (.iload_n 1, 1) := by decide +kernel
theorem d_Mo_judge_7 : decode c_Mo_judge 7 = .ok (.invokevirtual 171, 3) := by decide +kernel
theorem d_Mo_judge_10 : decode c_Mo_judge 10 = .ok (.istore_n 2, 1) := by decide +kernel
theorem d_Mo_judge_11 : decode c_Mo_judge 11 = .ok (.iload_n 2, 1) := by decide +kernel
theorem d_Mo_judge_12 : decode c_Mo_judge 12 = .ok (.ifCond .ge 5, 3) := by decide +kernel
theorem d_Mo_judge_15 : decode c_Mo_judge 15 = .ok (.iload_n 2, 1) := by decide +kernel
theorem d_Mo_judge_16 : decode c_Mo_judge 16 = .ok (.ireturn, 1) := by decide +kernel
theorem d_Mo_judge_17 : decode c_Mo_judge 17 = .ok (.bipush (-4), 2) := by decide +kernel
theorem d_Mo_judge_19 : decode c_Mo_judge 19 = .ok (.istore_n 3, 1) := by decide +kernel
theorem d_Mo_judge_20 : decode c_Mo_judge 20 = .ok (.aload_n 0, 1) := by decide +kernel
theorem d_Mo_judge_21 : decode c_Mo_judge 21 = .ok (.invokevirtual 177, 3) := by decide +kernel
theorem d_Mo_judge_24 : decode c_Mo_judge 24 = .ok (.iconst 0, 1) := by decide +kernel
theorem d_Mo_judge_25 : decode c_Mo_judge 25 = .ok (.istore 4, 2) := by decide +kernel
theorem d_Mo_judge_27 : decode c_Mo_judge 27 = .ok (.iload 4, 2) := by decide +kernel
theorem d_Mo_judge_29 : decode c_Mo_judge 29 = .ok (.aload_n 0, 1) := by decide +kernel
theorem d_Mo_judge_30 : decode c_Mo_judge 30 = .ok (.getfield 37, 3) := by decide +kernel
theorem d_Mo_judge_33 : decode c_Mo_judge 33 = .ok (.iload_n 1, 1) := by decide +kernel
theorem d_Mo_judge_34 : decode c_Mo_judge 34 = .ok (.iaload, 1) := by decide +kernel
theorem d_Mo_judge_35 : decode c_Mo_judge 35 = .ok (.if_icmp .ge 62, 3) := by decide +kernel
theorem d_Mo_judge_38 : decode c_Mo_judge 38 = .ok (.iload_n 3, 1) := by decide +kernel
theorem d_Mo_judge_39 : decode c_Mo_judge 39 = .ok (.ifCond .ge 58, 3) := by decide +kernel
theorem d_Mo_judge_42 : decode c_Mo_judge 42 = .ok (.aload_n 0, 1) := by decide +kernel
theorem d_Mo_judge_43 : decode c_Mo_judge 43 = .ok (.getfield 40, 3) := by decide +kernel
theorem d_Mo_judge_46 : decode c_Mo_judge 46 = .ok (.bipush 100, 2) := by decide +kernel
theorem d_Mo_judge_48 : decode c_Mo_judge 48 = .ok (.iload_n 1, 1) := by decide +kernel
theorem d_Mo_judge_49 : decode c_Mo_judge 49 = .ok (.imul, 1) := by decide +kernel
theorem d_Mo_judge_50 : decode c_Mo_judge 50 = .ok (.iload 4, 2) := by decide +kernel
theorem d_Mo_judge_52 : decode c_Mo_judge 52 = .ok (.iadd, 1) := by decide +kernel
theorem d_Mo_judge_53 : decode c_Mo_judge 53 = .ok (.laload, 1) := by decide +kernel
theorem d_Mo_judge_54 : decode c_Mo_judge 54 = .ok (.lstore 5, 2) := by decide +kernel
theorem d_Mo_judge_56 : decode c_Mo_judge 56 = .ok (.lload 5, 2) := by decide +kernel
theorem d_Mo_judge_58 : decode c_Mo_judge 58 = .ok (.aload_n 0, 1) := by decide +kernel
theorem d_Mo_judge_59 : decode c_Mo_judge 59 = .ok (.iload_n 1, 1) := by decide +kernel
theorem d_Mo_judge_60 : decode c_Mo_judge 60 = .ok (.invokevirtual 251, 3) := by decide +kernel
theorem d_Mo_judge_63 : decode c_Mo_judge 63 = .ok (.lcmp, 1) := by decide +kernel
theorem d_Mo_judge_64 : decode c_Mo_judge 64 = .ok (.ifCond .eq 14, 3) := by decide +kernel
theorem d_Mo_judge_67 : decode c_Mo_judge 67 = .ok (.lload 5, 2) := by decide +kernel
theorem d_Mo_judge_69 : decode c_Mo_judge 69 = .ok (.aload_n 0, 1) := by decide +kernel
theorem d_Mo_judge_70 : decode c_Mo_judge 70 = .ok (.invokevirtual 212, 3) := by decide +kernel
theorem d_Mo_judge_73 : decode c_Mo_judge 73 = .ok (.i2l, 1) := by decide +kernel
theorem d_Mo_judge_74 : decode c_Mo_judge 74 = .ok (.lcmp, 1) := by decide +kernel
theorem d_Mo_judge_75 : decode c_Mo_judge 75 = .ok (.ifCond .ne 8, 3) := by decide +kernel
theorem d_Mo_judge_78 : decode c_Mo_judge 78 = .ok (.bipush (-4), 2) := by decide +kernel
theorem d_Mo_judge_80 : decode c_Mo_judge 80 = .ok (.goto 5, 3) := by decide +kernel
theorem d_Mo_judge_83 : decode c_Mo_judge 83 = .ok (.iload 4, 2) := by decide +kernel
theorem d_Mo_judge_85 : decode c_Mo_judge 85 = .ok (.istore_n 3, 1) := by decide +kernel
theorem d_Mo_judge_86 : decode c_Mo_judge 86 = .ok (.aload_n 0, 1) := by decide +kernel
theorem d_Mo_judge_87 : decode c_Mo_judge 87 = .ok (.iconst 0, 1) := by decide +kernel
theorem d_Mo_judge_88 : decode c_Mo_judge 88 = .ok (.invokevirtual 104, 3) := by decide +kernel
theorem d_Mo_judge_91 : decode c_Mo_judge 91 = .ok (.iinc 4 1, 3) := by decide +kernel
theorem d_Mo_judge_94 : decode c_Mo_judge 94 = .ok (.goto (-67), 3) := by decide +kernel
theorem d_Mo_judge_97 : decode c_Mo_judge 97 = .ok (.aload_n 0, 1) := by decide +kernel
theorem d_Mo_judge_98 : decode c_Mo_judge 98 = .ok (.invokevirtual 183, 3) := by decide +kernel
theorem d_Mo_judge_101 : decode c_Mo_judge 101 = .ok (.iload_n 3, 1) := by decide +kernel
theorem d_Mo_judge_102 : decode c_Mo_judge 102 = .ok (.ireturn, 1) := by decide +kernel
theorem d_Mo_drawBelow_0 : decode c_Mo_drawBelow 0 = .ok (.aload_n 0, 1) := by decide +kernel
theorem d_Mo_drawBelow_1 : decode c_Mo_drawBelow 1 = .ok (.aload_n 0, 1) := by decide +kernel
theorem d_Mo_drawBelow_2 : decode c_Mo_drawBelow 2 = .ok (.getfield 282, 3) := by decide +kernel
theorem d_Mo_drawBelow_5 : decode c_Mo_drawBelow 5 = .ok (.ldc_w 285, 3) := by decide +kernel
theorem d_Mo_drawBelow_8 : decode c_Mo_drawBelow 8 = .ok (.imul, 1) := by decide +kernel
theorem d_Mo_drawBelow_9 : decode c_Mo_drawBelow 9 = .ok (.sipush 12345, 3) := by decide +kernel
theorem d_Mo_drawBelow_12 : decode c_Mo_drawBelow 12 = .ok (.iadd, 1) := by decide +kernel
theorem d_Mo_drawBelow_13 : decode c_Mo_drawBelow 13 = .ok (.putfield 282, 3) := by decide +kernel
theorem d_Mo_drawBelow_16 : decode c_Mo_drawBelow 16 = .ok (.aload_n 0, 1) := by decide +kernel
theorem d_Mo_drawBelow_17 : decode c_Mo_drawBelow 17 = .ok (.getfield 282, 3) := by decide +kernel
theorem d_Mo_drawBelow_20 : decode c_Mo_drawBelow 20 = .ok (.ldc_w 286, 3) := by decide +kernel
theorem d_Mo_drawBelow_23 : decode c_Mo_drawBelow 23 = .ok (.iand, 1) := by decide +kernel
theorem d_Mo_drawBelow_24 : decode c_Mo_drawBelow 24 = .ok (.ldc_w 287, 3) := by decide +kernel
theorem d_Mo_drawBelow_27 : decode c_Mo_drawBelow 27 = .ok (.idiv, 1) := by decide +kernel
theorem d_Mo_drawBelow_28 : decode c_Mo_drawBelow 28 = .ok (.iload_n 1, 1) := by decide +kernel
theorem d_Mo_drawBelow_29 : decode c_Mo_drawBelow 29 = .ok (.irem, 1) := by decide +kernel
theorem d_Mo_drawBelow_30 : decode c_Mo_drawBelow 30 = .ok (.ireturn, 1) := by decide +kernel
theorem d_Mo_lands_0 : decode c_Mo_lands 0 = .ok (.aload_n 0, 1) := by decide +kernel
theorem d_Mo_lands_1 : decode c_Mo_lands 1 = .ok (.iconst 0, 1) := by decide +kernel
theorem d_Mo_lands_2 : decode c_Mo_lands 2 = .ok (.putfield 71, 3) := by decide +kernel
theorem d_Mo_lands_5 : decode c_Mo_lands 5 = .ok (.iload_n 1, 1) := by decide +kernel
theorem d_Mo_lands_6 : decode c_Mo_lands 6 = .ok (.i2l, 1) := by decide +kernel
theorem d_Mo_lands_7 : decode c_Mo_lands 7 = .ok (.lconst 1, 1) := by decide +kernel
theorem d_Mo_lands_8 : decode c_Mo_lands 8 = .ok (.ldc2_w 75, 3) := by decide +kernel
theorem d_Mo_lands_11 : decode c_Mo_lands 11 = .ok (.invokestatic 77, 3) := by decide +kernel
theorem d_Mo_lands_14 : decode c_Mo_lands 14 = .ok (.ifCond .eq 13, 3) := by decide +kernel
theorem d_Mo_lands_17 : decode c_Mo_lands 17 = .ok (.iload_n 3, 1) := by decide +kernel
theorem d_Mo_lands_18 : decode c_Mo_lands 18 = .ok (.i2l, 1) := by decide +kernel
theorem d_Mo_lands_19 : decode c_Mo_lands 19 = .ok (.lconst 0, 1) := by decide +kernel
theorem d_Mo_lands_20 : decode c_Mo_lands 20 = .ok (.lconst 1, 1) := by decide +kernel
theorem d_Mo_lands_21 : decode c_Mo_lands 21 = .ok (.invokestatic 77, 3) := by decide +kernel
theorem d_Mo_lands_24 : decode c_Mo_lands 24 = .ok (.ifCond .ne 5, 3) := by decide +kernel
theorem d_Mo_lands_27 : decode c_Mo_lands 27 = .ok (.iconst (-1), 1) := by decide +kernel
theorem d_Mo_lands_28 : decode c_Mo_lands 28 = .ok (.ireturn, 1) := by decide +kernel
theorem d_Mo_lands_29 : decode c_Mo_lands 29 = .ok (.aload_n 0, 1) := by decide +kernel
theorem d_Mo_lands_30 : decode c_Mo_lands 30 = .ok (.iload_n 2, 1) := by decide +kernel
theorem d_Mo_lands_31 : decode c_Mo_lands 31 = .ok (.putfield 282, 3) := by decide +kernel
theorem d_Mo_lands_34 : decode c_Mo_lands 34 = .ok (.iconst 0, 1) := by decide +kernel
theorem d_Mo_lands_35 : decode c_Mo_lands 35 = .ok (.istore 4, 2) := by decide +kernel
theorem d_Mo_lands_37 : decode c_Mo_lands 37 = .ok (.aload_n 0, 1) := by decide +kernel
theorem d_Mo_lands_38 : decode c_Mo_lands 38 = .ok (.invokevirtual 177, 3) := by decide +kernel
theorem d_Mo_lands_41 : decode c_Mo_lands 41 = .ok (.iconst 0, 1) := by decide +kernel
theorem d_Mo_lands_42 : decode c_Mo_lands 42 = .ok (.istore 5, 2) := by decide +kernel
theorem d_Mo_lands_44 : decode c_Mo_lands 44 = .ok (.iload 5, 2) := by decide +kernel
theorem d_Mo_lands_46 : decode c_Mo_lands 46 = .ok (.iload_n 1, 1) := by decide +kernel
theorem d_Mo_lands_47 : decode c_Mo_lands 47 = .ok (.if_icmp .ge 70, 3) := by decide +kernel
theorem d_Mo_lands_50 : decode c_Mo_lands 50 = .ok (.iconst 0, 1) := by decide +kernel
theorem d_Mo_lands_51 : decode c_Mo_lands 51 = .ok (.istore 6, 2) := by decide +kernel
theorem d_Mo_lands_53 : decode c_Mo_lands 53 = .ok (.iload 6, 2) := by decide +kernel
theorem d_Mo_lands_55 : decode c_Mo_lands 55 = .ok (.aload_n 0, 1) := by decide +kernel
theorem d_Mo_lands_56 : decode c_Mo_lands 56 = .ok (.getfield 81, 3) := by decide +kernel
theorem d_Mo_lands_59 : decode c_Mo_lands 59 = .ok (.if_icmp .ge 22, 3) := by decide +kernel
theorem d_Mo_lands_62 : decode c_Mo_lands 62 = .ok (.aload_n 0, 1) := by decide +kernel
theorem d_Mo_lands_63 : decode c_Mo_lands 63 = .ok (.getfield 19, 3) := by decide +kernel
theorem d_Mo_lands_66 : decode c_Mo_lands 66 = .ok (.iload 6, 2) := by decide +kernel
theorem d_Mo_lands_68 : decode c_Mo_lands 68 = .ok (.aload_n 0, 1) := by decide +kernel
theorem d_Mo_lands_69 : decode c_Mo_lands 69 = .ok (.bipush 21, 2) := by decide +kernel
theorem d_Mo_lands_71 : decode c_Mo_lands 71 = .ok (.invokevirtual 288, 3) := by decide +kernel
theorem d_Mo_lands_74 : decode c_Mo_lands 74 = .ok (.iastore, 1) := by decide +kernel
theorem d_Mo_lands_75 : decode c_Mo_lands 75 = .ok (.iinc 6 1, 3) := by decide +kernel
theorem d_Mo_lands_78 : decode c_Mo_lands 78 = .ok (.goto (-25), 3) := by decide +kernel
theorem d_Mo_lands_81 : decode c_Mo_lands 81 = .ok (.aload_n 0, 1) := by decide +kernel
theorem d_Mo_lands_82 : decode c_Mo_lands 82 = .ok (.bipush 10, 2) := by decide +kernel
theorem d_Mo_lands_84 : decode c_Mo_lands 84 = .ok (.invokevirtual 154, 3) := by decide +kernel
theorem d_Mo_lands_87 : decode c_Mo_lands 87 = .ok (.iload 4, 2) := by decide +kernel
theorem d_Mo_lands_89 : decode c_Mo_lands 89 = .ok (.iload_n 3, 1) := by decide +kernel
theorem d_Mo_lands_90 : decode c_Mo_lands 90 = .ok (.ifCond .ne 10, 3) := by decide +kernel
theorem d_Mo_lands_93 : decode c_Mo_lands 93 = .ok (.aload_n 0, 1) := by decide +kernel
theorem d_Mo_lands_94 : decode c_Mo_lands 94 = .ok (.invokevirtual 212, 3) := by decide +kernel
theorem d_Mo_lands_97 : decode c_Mo_lands 97 = .ok (.goto 7, 3) := by decide +kernel
theorem d_Mo_lands_100 : decode c_Mo_lands 100 = .ok (.aload_n 0, 1) := by decide +kernel
theorem d_Mo_lands_101 : decode c_Mo_lands 101 = .ok (.invokevirtual 291, 3) := by decide +kernel
theorem d_Mo_lands_104 : decode c_Mo_lands 104 = .ok (.iadd, 1) := by decide +kernel
theorem d_Mo_lands_105 : decode c_Mo_lands 105 = .ok (.istore 4, 2) := by decide +kernel
theorem d_Mo_lands_107 : decode c_Mo_lands 107 = .ok (.aload_n 0, 1) := by decide +kernel
theorem d_Mo_lands_108 : decode c_Mo_lands 108 = .ok (.invokevirtual 183, 3) := by decide +kernel
theorem d_Mo_lands_111 : decode c_Mo_lands 111 = .ok (.iinc 5 1, 3) := by decide +kernel
theorem d_Mo_lands_114 : decode c_Mo_lands 114 = .ok (.goto (-70), 3) := by decide +kernel
theorem d_Mo_lands_117 : decode c_Mo_lands 117 = .ok (.iload 4, 2) := by decide +kernel
theorem d_Mo_lands_119 : decode c_Mo_lands 119 = .ok (.ireturn, 1) := by decide +kernel
theorem d_Mo_count_0 : decode c_Mo_count 0 = .ok (.aload_n 0, 1) := by decide +kernel
theorem d_Mo_count_1 : decode c_Mo_count 1 = .ok (.iconst 0, 1) := by decide +kernel
theorem d_Mo_count_2 : decode c_Mo_count 2 = .ok (.putfield 71, 3) := by decide +kernel
theorem d_Mo_count_5 : decode c_Mo_count 5 = .ok (.iconst 0, 1) := by decide +kernel
theorem d_Mo_count_6 : decode c_Mo_count 6 = .ok (.istore_n 2, 1) := by decide +kernel
theorem d_Mo_count_7 : decode c_Mo_count 7 = .ok (.iload_n 1, 1) := by decide +kernel
theorem d_Mo_count_8 : decode c_Mo_count 8 = .ok (.tableswitch 91 0 5 #[40, 45, 50, 55, 60, 65], 40) := by decide +kernel
theorem d_Mo_count_48 : decode c_Mo_count 48 = .ok (.aload_n 0, 1) := by decide +kernel
theorem d_Mo_count_49 : decode c_Mo_count 49 = .ok (.getfield 81, 3) := by decide +kernel
theorem d_Mo_count_52 : decode c_Mo_count 52 = .ok (.ireturn, 1) := by decide +kernel
theorem d_Mo_count_53 : decode c_Mo_count 53 = .ok (.aload_n 0, 1) := by decide +kernel
theorem d_Mo_count_54 : decode c_Mo_count 54 = .ok (.getfield 88, 3) := by decide +kernel
theorem d_Mo_count_57 : decode c_Mo_count 57 = .ok (.ireturn, 1) := by decide +kernel
theorem d_Mo_count_58 : decode c_Mo_count 58 = .ok (.aload_n 0, 1) := by decide +kernel
theorem d_Mo_count_59 : decode c_Mo_count 59 = .ok (.getfield 95, 3) := by decide +kernel
theorem d_Mo_count_62 : decode c_Mo_count 62 = .ok (.ireturn, 1) := by decide +kernel
theorem d_Mo_count_63 : decode c_Mo_count 63 = .ok (.aload_n 0, 1) := by decide +kernel
theorem d_Mo_count_64 : decode c_Mo_count 64 = .ok (.invokevirtual 212, 3) := by decide +kernel
theorem d_Mo_count_67 : decode c_Mo_count 67 = .ok (.ireturn, 1) := by decide +kernel
theorem d_Mo_count_68 : decode c_Mo_count 68 = .ok (.aload_n 0, 1) := by decide +kernel
theorem d_Mo_count_69 : decode c_Mo_count 69 = .ok (.invokevirtual 291, 3) := by decide +kernel
theorem d_Mo_count_72 : decode c_Mo_count 72 = .ok (.ireturn, 1) := by decide +kernel
theorem d_Mo_count_73 : decode c_Mo_count 73 = .ok (.iconst 0, 1) := by decide +kernel
theorem d_Mo_count_74 : decode c_Mo_count 74 = .ok (.istore_n 3, 1) := by decide +kernel
theorem d_Mo_count_75 : decode c_Mo_count 75 = .ok (.iload_n 3, 1) := by decide +kernel
theorem d_Mo_count_76 : decode c_Mo_count 76 = .ok (.aload_n 0, 1) := by decide +kernel
theorem d_Mo_count_77 : decode c_Mo_count 77 = .ok (.getfield 81, 3) := by decide +kernel
theorem d_Mo_count_80 : decode c_Mo_count 80 = .ok (.if_icmp .ge 17, 3) := by decide +kernel
theorem d_Mo_count_83 : decode c_Mo_count 83 = .ok (.iload_n 2, 1) := by decide +kernel
theorem d_Mo_count_84 : decode c_Mo_count 84 = .ok (.aload_n 0, 1) := by decide +kernel
theorem d_Mo_count_85 : decode c_Mo_count 85 = .ok (.iload_n 3, 1) := by decide +kernel
theorem d_Mo_count_86 : decode c_Mo_count 86 = .ok (.invokevirtual 108, 3) := by decide +kernel
theorem d_Mo_count_89 : decode c_Mo_count 89 = .ok (.iadd, 1) := by decide +kernel
theorem d_Mo_count_90 : decode c_Mo_count 90 = .ok (.istore_n 2, 1) := by decide +kernel
theorem d_Mo_count_91 : decode c_Mo_count 91 = .ok (.iinc 3 1, 3) := by decide +kernel
theorem d_Mo_count_94 : decode c_Mo_count 94 = .ok (.goto (-19), 3) := by decide +kernel
theorem d_Mo_count_97 : decode c_Mo_count 97 = .ok (.iload_n 2, 1) := by decide +kernel
theorem d_Mo_count_98 : decode c_Mo_count 98 = .ok (.ireturn, 1) := by decide +kernel
theorem d_Mo_count_99 : decode c_Mo_count 99 = .ok (.iconst (-1), 1) := by decide +kernel
theorem d_Mo_count_100 : decode c_Mo_count 100 = .ok (.ireturn, 1) := by decide +kernel
theorem d_Mo_keep_0 : decode c_Mo_keep 0 = .ok (.aload_n 0, 1) := by decide +kernel
theorem d_Mo_keep_1 : decode c_Mo_keep 1 = .ok (.iconst 0, 1) := by decide +kernel
theorem d_Mo_keep_2 : decode c_Mo_keep 2 = .ok (.putfield 71, 3) := by decide +kernel
theorem d_Mo_keep_5 : decode c_Mo_keep 5 = .ok (.iload_n 1, 1) := by decide +kernel
theorem d_Mo_keep_6 : decode c_Mo_keep 6 = .ok (.i2l, 1) := by decide +kernel
theorem d_Mo_keep_7 : decode c_Mo_keep 7 = .ok (.lconst 0, 1) := by decide +kernel
theorem d_Mo_keep_8 : decode c_Mo_keep 8 = .ok (.ldc2_w 205, 3) := by decide +kernel
theorem d_Mo_keep_11 : decode c_Mo_keep 11 = .ok (.invokestatic 77, 3) := by decide +kernel
theorem d_Mo_keep_14 : decode c_Mo_keep 14 = .ok (.ifCond .eq 43, 3) := by decide +kernel
theorem d_Mo_keep_17 : decode c_Mo_keep 17 = .ok (.iload_n 2, 1) := by decide +kernel
theorem d_Mo_keep_18 : decode c_Mo_keep 18 = .ok (.i2l, 1) := by decide +kernel
theorem d_Mo_keep_19 : decode c_Mo_keep 19 = .ok (.lconst 0, 1) := by decide +kernel
theorem d_Mo_keep_20 : decode c_Mo_keep 20 = .ok (.lconst 1, 1) := by decide +kernel
theorem d_Mo_keep_21 : decode c_Mo_keep 21 = .ok (.invokestatic 77, 3) := by decide +kernel
theorem d_Mo_keep_24 : decode c_Mo_keep 24 = .ok (.ifCond .eq 33, 3) := by decide +kernel
theorem d_Mo_keep_27 : decode c_Mo_keep 27 = .ok (.iload_n 2, 1) := by decide +kernel
theorem d_Mo_keep_28 : decode c_Mo_keep 28 = .ok (.iconst 1, 1) := by decide +kernel
theorem d_Mo_keep_29 : decode c_Mo_keep 29 = .ok (.if_icmp .ne 30, 3) := by decide +kernel
theorem d_Mo_keep_32 : decode c_Mo_keep 32 = .ok (.iload_n 3, 1) := by decide +kernel
theorem d_Mo_keep_33 : decode c_Mo_keep 33 = .ok (.i2l, 1) := by decide +kernel
theorem d_Mo_keep_34 : decode c_Mo_keep 34 = .ok (.lconst 0, 1) := by decide +kernel
theorem d_Mo_keep_35 : decode c_Mo_keep 35 = .ok (.ldc2_w 205, 3) := by decide +kernel
theorem d_Mo_keep_38 : decode c_Mo_keep 38 = .ok (.invokestatic 77, 3) := by decide +kernel
theorem d_Mo_keep_41 : decode c_Mo_keep 41 = .ok (.ifCond .eq 16, 3) := by decide +kernel
theorem d_Mo_keep_44 : decode c_Mo_keep 44 = .ok (.iload 4, 2) := by decide +kernel
theorem d_Mo_keep_46 : decode c_Mo_keep 46 = .ok (.i2l, 1) := by decide +kernel
theorem d_Mo_keep_47 : decode c_Mo_keep 47 = .ok (.lconst 0, 1) := by decide +kernel
theorem d_Mo_keep_48 : decode c_Mo_keep 48 = .ok (.ldc2_w 294, 3) := by decide +kernel
theorem d_Mo_keep_51 : decode c_Mo_keep 51 = .ok (.invokestatic 77, 3) := by decide +kernel
theorem d_Mo_keep_54 : decode c_Mo_keep 54 = .ok (.ifCond .ne 5, 3) := by decide +kernel
theorem d_Mo_keep_57 : decode c_Mo_keep 57 = .ok (.iconst (-1), 1) := by decide +kernel
theorem d_Mo_keep_58 : decode c_Mo_keep 58 = .ok (.ireturn, 1) := by decide +kernel
theorem d_Mo_keep_59 : decode c_Mo_keep 59 = .ok (.aload_n 0, 1) := by decide +kernel
theorem d_Mo_keep_60 : decode c_Mo_keep 60 = .ok (.getfield 25, 3) := by decide +kernel
theorem d_Mo_keep_63 : decode c_Mo_keep 63 = .ok (.iload_n 1, 1) := by decide +kernel
theorem d_Mo_keep_64 : decode c_Mo_keep 64 = .ok (.iload_n 2, 1) := by decide +kernel
theorem d_Mo_keep_65 : decode c_Mo_keep 65 = .ok (.iastore, 1) := by decide +kernel
theorem d_Mo_keep_66 : decode c_Mo_keep 66 = .ok (.aload_n 0, 1) := by decide +kernel
theorem d_Mo_keep_67 : decode c_Mo_keep 67 = .ok (.getfield 28, 3) := by decide +kernel
theorem d_Mo_keep_70 : decode c_Mo_keep 70 = .ok (.iload_n 1, 1) := by decide +kernel
theorem d_Mo_keep_71 : decode c_Mo_keep 71 = .ok (.iload_n 2, 1) := by decide +kernel
theorem d_Mo_keep_72 : decode c_Mo_keep 72 = .ok (.iconst 1, 1) := by decide +kernel
theorem d_Mo_keep_73 : decode c_Mo_keep 73 = .ok (.if_icmp .ne 7, 3) := by decide +kernel
theorem d_Mo_keep_76 : decode c_Mo_keep 76 = .ok (.iload_n 3, 1) := by decide +kernel
theorem d_Mo_keep_77 : decode c_Mo_keep 77 = .ok (.goto 4, 3) := by decide +kernel
theorem d_Mo_keep_80 : decode c_Mo_keep 80 = .ok (.iconst 0, 1) := by decide +kernel
theorem d_Mo_keep_81 : decode c_Mo_keep 81 = .ok (.iastore, 1) := by decide +kernel
theorem d_Mo_keep_82 : decode c_Mo_keep 82 = .ok (.aload_n 0, 1) := by decide +kernel
theorem d_Mo_keep_83 : decode c_Mo_keep 83 = .ok (.getfield 31, 3) := by decide +kernel
theorem d_Mo_keep_86 : decode c_Mo_keep 86 = .ok (.iload_n 1, 1) := by decide +kernel
theorem d_Mo_keep_87 : decode c_Mo_keep 87 = .ok (.iload_n 2, 1) := by decide +kernel
theorem d_Mo_keep_88 : decode c_Mo_keep 88 = .ok (.iconst 1, 1) := by decide +kernel
theorem d_Mo_keep_89 : decode c_Mo_keep 89 = .ok (.if_icmp .ne 8, 3) := by decide +kernel
theorem d_Mo_keep_92 : decode c_Mo_keep 92 = .ok (.iload 4, 2) := by decide +kernel
theorem d_Mo_keep_94 : decode c_Mo_keep 94 = .ok (.goto 4, 3) := by decide +kernel
theorem d_Mo_keep_97 : decode c_Mo_keep 97 = .ok (.iconst 0, 1) := by decide +kernel
theorem d_Mo_keep_98 : decode c_Mo_keep 98 = .ok (.iastore, 1) := by decide +kernel
theorem d_Mo_keep_99 : decode c_Mo_keep 99 = .ok (.iconst 0, 1) := by decide +kernel
theorem d_Mo_keep_100 : decode c_Mo_keep 100 = .ok (.ireturn, 1) := by decide +kernel
theorem d_Mo_wrongRow_0 : decode c_Mo_wrongRow 0 = .ok (.iload_n 1, 1) := by decide +kernel
theorem d_Mo_wrongRow_1 : decode c_Mo_wrongRow 1 = .ok (.i2l, 1) := by decide +kernel
theorem d_Mo_wrongRow_2 : decode c_Mo_wrongRow 2 = .ok (.lconst 0, 1) := by decide +kernel
theorem d_Mo_wrongRow_3 : decode c_Mo_wrongRow 3 = .ok (.ldc2_w 205, 3) := by decide +kernel
theorem d_Mo_wrongRow_6 : decode c_Mo_wrongRow 6 = .ok (.invokestatic 77, 3) := by decide +kernel
theorem d_Mo_wrongRow_9 : decode c_Mo_wrongRow 9 = .ok (.ifCond .ne 7, 3) := by decide +kernel
theorem d_Mo_wrongRow_12 : decode c_Mo_wrongRow 12 = .ok (.iconst (-1), 1) := by decide +kernel
theorem d_Mo_wrongRow_13 : decode c_Mo_wrongRow 13 = .ok (.goto 33, 3) := by decide +kernel
theorem d_Mo_wrongRow_16 : decode c_Mo_wrongRow 16 = .ok (.aload_n 0, 1) := by decide +kernel
theorem d_Mo_wrongRow_17 : decode c_Mo_wrongRow 17 = .ok (.getfield 25, 3) := by decide +kernel
theorem d_Mo_wrongRow_20 : decode c_Mo_wrongRow 20 = .ok (.iload_n 1, 1) := by decide +kernel
theorem d_Mo_wrongRow_21 : decode c_Mo_wrongRow 21 = .ok (.iaload, 1) := by decide +kernel
theorem d_Mo_wrongRow_22 : decode c_Mo_wrongRow 22 = .ok (.ifCond .ne 8, 3) := by decide +kernel
theorem d_Mo_wrongRow_25 : decode c_Mo_wrongRow 25 = .ok (.bipush (-11), 2) := by decide +kernel
theorem d_Mo_wrongRow_27 : decode c_Mo_wrongRow 27 = .ok (.goto 19, 3) := by decide +kernel
theorem d_Mo_wrongRow_30 : decode c_Mo_wrongRow 30 = .ok (.aload_n 0, 1) := by decide +kernel
theorem d_Mo_wrongRow_31 : decode c_Mo_wrongRow 31 = .ok (.getfield 25, 3) := by decide +kernel
theorem d_Mo_wrongRow_34 : decode c_Mo_wrongRow 34 = .ok (.iload_n 1, 1) := by decide +kernel
theorem d_Mo_wrongRow_35 : decode c_Mo_wrongRow 35 = .ok (.iaload, 1) := by decide +kernel
theorem d_Mo_wrongRow_36 : decode c_Mo_wrongRow 36 = .ok (.iconst 2, 1) := by decide +kernel
theorem d_Mo_wrongRow_37 : decode c_Mo_wrongRow 37 = .ok (.if_icmp .eq 8, 3) := by decide +kernel
theorem d_Mo_wrongRow_40 : decode c_Mo_wrongRow 40 = .ok (.bipush (-12), 2) := by decide +kernel
theorem d_Mo_wrongRow_42 : decode c_Mo_wrongRow 42 = .ok (.goto 4, 3) := by decide +kernel
theorem d_Mo_wrongRow_45 : decode c_Mo_wrongRow 45 = .ok (.iconst 0, 1) := by decide +kernel
theorem d_Mo_wrongRow_46 : decode c_Mo_wrongRow 46 = .ok (.ireturn, 1) := by decide +kernel
theorem d_Mo_narrowed_0 : decode c_Mo_narrowed 0 = .ok (.iload_n 1, 1) := by decide +kernel
theorem d_Mo_narrowed_1 : decode c_Mo_narrowed 1 = .ok (.ifCond .ne 9, 3) := by decide +kernel
theorem d_Mo_narrowed_4 : decode c_Mo_narrowed 4 = .ok (.iload_n 0, 1) := by decide +kernel
theorem d_Mo_narrowed_5 : decode c_Mo_narrowed 5 = .ok (.i2b, 1) := by decide +kernel
theorem d_Mo_narrowed_6 : decode c_Mo_narrowed 6 = .ok (.i2l, 1) := by decide +kernel
theorem d_Mo_narrowed_7 : decode c_Mo_narrowed 7 = .ok (.goto 16, 3) := by decide +kernel
theorem d_Mo_narrowed_10 : decode c_Mo_narrowed 10 = .ok (.iload_n 1, 1) := by decide +kernel
theorem d_Mo_narrowed_11 : decode c_Mo_narrowed 11 = .ok (.iconst 1, 1) := by decide +kernel
theorem d_Mo_narrowed_12 : decode c_Mo_narrowed 12 = .ok (.if_icmp .ne 9, 3) := by decide +kernel
theorem d_Mo_narrowed_15 : decode c_Mo_narrowed 15 = .ok (.iload_n 0, 1) := by decide +kernel
theorem d_Mo_narrowed_16 : decode c_Mo_narrowed 16 = .ok (.i2s, 1) := by decide +kernel
theorem d_Mo_narrowed_17 : decode c_Mo_narrowed 17 = .ok (.i2l, 1) := by decide +kernel
theorem d_Mo_narrowed_18 : decode c_Mo_narrowed 18 = .ok (.goto 5, 3) := by decide +kernel
theorem d_Mo_narrowed_21 : decode c_Mo_narrowed 21 = .ok (.iload_n 0, 1) := by decide +kernel
theorem d_Mo_narrowed_22 : decode c_Mo_narrowed 22 = .ok (.i2l, 1) := by decide +kernel
theorem d_Mo_narrowed_23 : decode c_Mo_narrowed 23 = .ok (.lreturn, 1) := by decide +kernel
theorem d_Mo_row_0 : decode c_Mo_row 0 = .ok (.aload_n 0, 1) := by decide +kernel
theorem d_Mo_row_1 : decode c_Mo_row 1 = .ok (.iconst 0, 1) := by decide +kernel
theorem d_Mo_row_2 : decode c_Mo_row 2 = .ok (.putfield 71, 3) := by decide +kernel
theorem d_Mo_row_5 : decode c_Mo_row 5 = .ok (.iload_n 1, 1) := by decide +kernel
theorem d_Mo_row_6 : decode c_Mo_row 6 = .ok (.i2l, 1) := by decide +kernel
theorem d_Mo_row_7 : decode c_Mo_row 7 = .ok (.lconst 0, 1) := by decide +kernel
theorem d_Mo_row_8 : decode c_Mo_row 8 = .ok (.ldc2_w 205, 3) := by decide +kernel
theorem d_Mo_row_11 : decode c_Mo_row 11 = .ok (.invokestatic 77, 3) := by decide +kernel
theorem d_Mo_row_14 : decode c_Mo_row 14 = .ok (.ifCond .eq 21, 3) := by decide +kernel
theorem d_Mo_row_17 : decode c_Mo_row 17 = .ok (.iload_n 2, 1) := by decide +kernel
theorem d_Mo_row_18 : decode c_Mo_row 18 = .ok (.i2l, 1) := by decide +kernel
theorem d_Mo_row_19 : decode c_Mo_row 19 = .ok (.lconst 0, 1) := by decide +kernel
theorem d_Mo_row_20 : decode c_Mo_row 20 = .ok (.ldc2_w 270, 3) := by decide +kernel
theorem d_Mo_row_23 : decode c_Mo_row 23 = .ok (.invokestatic 77, 3) := by decide +kernel
theorem d_Mo_row_26 : decode c_Mo_row 26 = .ok (.ifCond .eq 9, 3) := by decide +kernel
theorem d_Mo_row_29 : decode c_Mo_row 29 = .ok (.iload_n 3, 1) := by decide +kernel
theorem d_Mo_row_30 : decode c_Mo_row 30 = .ok (.bipush 100, 2) := by decide +kernel
theorem d_Mo_row_32 : decode c_Mo_row 32 = .ok (.if_icmp .le 5, 3) := by decide +kernel
theorem d_Mo_row_35 : decode c_Mo_row 35 = .ok (.iconst (-1), 1) := by decide +kernel
theorem d_Mo_row_36 : decode c_Mo_row 36 = .ok (.ireturn, 1) := by decide +kernel
theorem d_Mo_row_37 : decode c_Mo_row 37 = .ok (.iload_n 3, 1) := by decide +kernel
theorem d_Mo_row_38 : decode c_Mo_row 38 = .ok (.ifCond .ge 6, 3) := by decide +kernel
theorem d_Mo_row_41 : decode c_Mo_row 41 = .ok (.bipush (-14), 2) := by decide +kernel
theorem d_Mo_row_43 : decode c_Mo_row 43 = .ok (.ireturn, 1) := by decide +kernel
theorem d_Mo_row_44 : decode c_Mo_row 44 = .ok (.aload_n 0, 1) := by decide +kernel
theorem d_Mo_row_45 : decode c_Mo_row 45 = .ok (.getfield 25, 3) := by decide +kernel
theorem d_Mo_row_48 : decode c_Mo_row 48 = .ok (.iload_n 1, 1) := by decide +kernel
theorem d_Mo_row_49 : decode c_Mo_row 49 = .ok (.iconst 2, 1) := by decide +kernel
theorem d_Mo_row_50 : decode c_Mo_row 50 = .ok (.iastore, 1) := by decide +kernel
theorem d_Mo_row_51 : decode c_Mo_row 51 = .ok (.aload_n 0, 1) := by decide +kernel
theorem d_Mo_row_52 : decode c_Mo_row 52 = .ok (.getfield 34, 3) := by decide +kernel
theorem d_Mo_row_55 : decode c_Mo_row 55 = .ok (.iload_n 1, 1) := by decide +kernel
theorem d_Mo_row_56 : decode c_Mo_row 56 = .ok (.iload_n 2, 1) := by decide +kernel
theorem d_Mo_row_57 : decode c_Mo_row 57 = .ok (.iastore, 1) := by decide +kernel
theorem d_Mo_row_58 : decode c_Mo_row 58 = .ok (.aload_n 0, 1) := by decide +kernel
theorem d_Mo_row_59 : decode c_Mo_row 59 = .ok (.getfield 37, 3) := by decide +kernel
theorem d_Mo_row_62 : decode c_Mo_row 62 = .ok (.iload_n 1, 1) := by decide +kernel
theorem d_Mo_row_63 : decode c_Mo_row 63 = .ok (.iload_n 3, 1) := by decide +kernel
theorem d_Mo_row_64 : decode c_Mo_row 64 = .ok (.iastore, 1) := by decide +kernel
theorem d_Mo_row_65 : decode c_Mo_row 65 = .ok (.iconst 0, 1) := by decide +kernel
theorem d_Mo_row_66 : decode c_Mo_row 66 = .ok (.istore 4, 2) := by decide +kernel
theorem d_Mo_row_68 : decode c_Mo_row 68 = .ok (.iload 4, 2) := by decide +kernel
theorem d_Mo_row_70 : decode c_Mo_row 70 = .ok (.bipush 100, 2) := by decide +kernel
theorem d_Mo_row_72 : decode c_Mo_row 72 = .ok (.if_icmp .ge 22, 3) := by decide +kernel
theorem d_Mo_row_75 : decode c_Mo_row 75 = .ok (.aload_n 0, 1) := by decide +kernel
theorem d_Mo_row_76 : decode c_Mo_row 76 = .ok (.getfield 40, 3) := by decide +kernel
theorem d_Mo_row_79 : decode c_Mo_row 79 = .ok (.bipush 100, 2) := by decide +kernel
theorem d_Mo_row_81 : decode c_Mo_row 81 = .ok (.iload_n 1, 1) := by decide +kernel
theorem d_Mo_row_82 : decode c_Mo_row 82 = .ok (.imul, 1) := by decide +kernel
theorem d_Mo_row_83 : decode c_Mo_row 83 = .ok (.iload 4, 2) := by decide +kernel
theorem d_Mo_row_85 : decode c_Mo_row 85 = .ok (.iadd, 1) := by decide +kernel
theorem d_Mo_row_86 : decode c_Mo_row 86 = .ok (.lconst 0, 1) := by decide +kernel
theorem d_Mo_row_87 : decode c_Mo_row 87 = .ok (.lastore, 1) := by decide +kernel
theorem d_Mo_row_88 : decode c_Mo_row 88 = .ok (.iinc 4 1, 3) := by decide +kernel
theorem d_Mo_row_91 : decode c_Mo_row 91 = .ok (.goto (-23), 3) := by decide +kernel
theorem d_Mo_row_94 : decode c_Mo_row 94 = .ok (.iconst 0, 1) := by decide +kernel
theorem d_Mo_row_95 : decode c_Mo_row 95 = .ok (.ireturn, 1) := by decide +kernel
theorem d_Mo_put_0 : decode c_Mo_put 0 = .ok (.aload_n 0, 1) := by decide +kernel
theorem d_Mo_put_1 : decode c_Mo_put 1 = .ok (.iconst 0, 1) := by decide +kernel
theorem d_Mo_put_2 : decode c_Mo_put 2 = .ok (.putfield 71, 3) := by decide +kernel
theorem d_Mo_put_5 : decode c_Mo_put 5 = .ok (.aload_n 0, 1) := by decide +kernel
theorem d_Mo_put_6 : decode c_Mo_put 6 = .ok (.iload_n 1, 1) := by decide +kernel
theorem d_Mo_put_7 : decode c_Mo_put 7 = .ok (.invokevirtual 171, 3) := by decide +kernel
theorem d_Mo_put_10 : decode c_Mo_put 10 = .ok (.istore 4, 2) := by decide +kernel
theorem d_Mo_put_12 : decode c_Mo_put 12 = .ok (.iload 4, 2) := by decide +kernel
theorem d_Mo_put_14 : decode c_Mo_put 14 = .ok (.ifCond .ge 6, 3) := by decide +kernel
theorem d_Mo_put_17 : decode c_Mo_put 17 = .ok (.iload 4, 2) := by decide +kernel
theorem d_Mo_put_19 : decode c_Mo_put 19 = .ok (.ireturn, 1) := by decide +kernel
theorem d_Mo_put_20 : decode c_Mo_put 20 = .ok (.iload_n 2, 1) := by decide +kernel
theorem d_Mo_put_21 : decode c_Mo_put 21 = .ok (.i2l, 1) := by decide +kernel
theorem d_Mo_put_22 : decode c_Mo_put 22 = .ok (.lconst 0, 1) := by decide +kernel
theorem d_Mo_put_23 : decode c_Mo_put 23 = .ok (.aload_n 0, 1) := by decide +kernel
theorem d_Mo_put_24 : decode c_Mo_put 24 = .ok (.getfield 37, 3) := by decide +kernel
theorem d_Mo_put_27 : decode c_Mo_put 27 = .ok (.iload_n 1, 1) := by decide +kernel
theorem d_Mo_put_28 : decode c_Mo_put 28 = .ok (.iaload, 1) := by decide +kernel
theorem d_Mo_put_29 : decode c_Mo_put 29 = .ok (.iconst 1, 1) := by decide +kernel
theorem d_Mo_put_30 : decode c_Mo_put 30 = .ok (.isub, 1) := by decide +kernel
theorem d_Mo_put_31 : decode c_Mo_put 31 = .ok (.i2l, 1) := by decide +kernel
theorem d_Mo_put_32 : decode c_Mo_put 32 = .ok (.invokestatic 77, 3) := by decide +kernel
theorem d_Mo_put_35 : decode c_Mo_put 35 = .ok (.ifCond .ne 6, 3) := by decide +kernel
theorem d_Mo_put_38 : decode c_Mo_put 38 = .ok (.bipush (-13), 2) := by decide +kernel
theorem d_Mo_put_40 : decode c_Mo_put 40 = .ok (.ireturn, 1) := by decide +kernel
theorem d_Mo_put_41 : decode c_Mo_put 41 = .ok (.aload_n 0, 1) := by decide +kernel
theorem d_Mo_put_42 : decode c_Mo_put 42 = .ok (.getfield 40, 3) := by decide +kernel
theorem d_Mo_put_45 : decode c_Mo_put 45 = .ok (.bipush 100, 2) := by decide +kernel
theorem d_Mo_put_47 : decode c_Mo_put 47 = .ok (.iload_n 1, 1) := by decide +kernel
theorem d_Mo_put_48 : decode c_Mo_put 48 = .ok (.imul, 1) := by decide +kernel
theorem d_Mo_put_49 : decode c_Mo_put 49 = .ok (.iload_n 2, 1) := by decide +kernel
theorem d_Mo_put_50 : decode c_Mo_put 50 = .ok (.iadd, 1) := by decide +kernel
theorem d_Mo_put_51 : decode c_Mo_put 51 = .ok (.iload_n 3, 1) := by decide +kernel
theorem d_Mo_put_52 : decode c_Mo_put 52 = .ok (.aload_n 0, 1) := by decide +kernel
theorem d_Mo_put_53 : decode c_Mo_put 53 = .ok (.getfield 34, 3) := by decide +kernel
theorem d_Mo_put_56 : decode c_Mo_put 56 = .ok (.iload_n 1, 1) := by decide +kernel
theorem d_Mo_put_57 : decode c_Mo_put 57 = .ok (.iaload, 1) := by decide +kernel
theorem d_Mo_put_58 : decode c_Mo_put 58 = .ok (.invokestatic 296, 3) := by decide +kernel
theorem d_Mo_put_61 : decode c_Mo_put 61 = .ok (.lastore, 1) := by decide +kernel
theorem d_Mo_put_62 : decode c_Mo_put 62 = .ok (.iconst 0, 1) := by decide +kernel
theorem d_Mo_put_63 : decode c_Mo_put 63 = .ok (.ireturn, 1) := by decide +kernel
theorem d_Mo_element_0 : decode c_Mo_element 0 = .ok (.aload_n 0, 1) := by decide +kernel
theorem d_Mo_element_1 : decode c_Mo_element 1 = .ok (.iload_n 1, 1) := by decide +kernel
theorem d_Mo_element_2 : decode c_Mo_element 2 = .ok (.invokevirtual 171, 3) := by decide +kernel
theorem d_Mo_element_5 : decode c_Mo_element 5 = .ok (.istore_n 3, 1) := by decide +kernel
theorem d_Mo_element_6 : decode c_Mo_element 6 = .ok (.aload_n 0, 1) := by decide +kernel
theorem d_Mo_element_7 : decode c_Mo_element 7 = .ok (.iload_n 3, 1) := by decide +kernel
theorem d_Mo_element_8 : decode c_Mo_element 8 = .ok (.iconst (-1), 1) := by decide +kernel
theorem d_Mo_element_9 : decode c_Mo_element 9 = .ok (.if_icmp .ne 7, 3) := by decide +kernel
theorem d_Mo_element_12 : decode c_Mo_element 12 = .ok (.iconst 1, 1) := by decide +kernel
theorem d_Mo_element_13 : decode c_Mo_element 13 = .ok (.goto 30, 3) := by decide +kernel
theorem d_Mo_element_16 : decode c_Mo_element 16 = .ok (.iload_n 3, 1) := by decide +kernel
theorem d_Mo_element_17 : decode c_Mo_element 17 = .ok (.ifCond .lt 21, 3) := by decide +kernel
theorem d_Mo_element_20 : decode c_Mo_element 20 = .ok (.iload_n 2, 1) := by decide +kernel
theorem d_Mo_element_21 : decode c_Mo_element 21 = .ok (.i2l, 1) := by decide +kernel
theorem d_Mo_element_22 : decode c_Mo_element 22 = .ok (.lconst 0, 1) := by decide +kernel
theorem d_Mo_element_23 : decode c_Mo_element 23 = .ok (.aload_n 0, 1) := by decide +kernel
theorem d_Mo_element_24 : decode c_Mo_element 24 = .ok (.getfield 37, 3) := by decide +kernel
theorem d_Mo_element_27 : decode c_Mo_element 27 = .ok (.iload_n 1, 1) := by decide +kernel
theorem d_Mo_element_28 : decode c_Mo_element 28 = .ok (.iaload, 1) := by decide +kernel
theorem d_Mo_element_29 : decode c_Mo_element 29 = .ok (.iconst 1, 1) := by decide +kernel
theorem d_Mo_element_30 : decode c_Mo_element 30 = .ok (.isub, 1) := by decide +kernel
theorem d_Mo_element_31 : decode c_Mo_element 31 = .ok (.i2l, 1) := by decide +kernel
theorem d_Mo_element_32 : decode c_Mo_element 32 = .ok (.invokestatic 77, 3) := by decide +kernel
theorem d_Mo_element_35 : decode c_Mo_element 35 = .ok (.ifCond .ne 7, 3) := by decide +kernel
theorem d_Mo_element_38 : decode c_Mo_element 38 = .ok (.iconst 2, 1) := by decide +kernel
theorem d_Mo_element_39 : decode c_Mo_element 39 = .ok (.goto 4, 3) := by decide +kernel
theorem d_Mo_element_42 : decode c_Mo_element 42 = .ok (.iconst 0, 1) := by decide +kernel
theorem d_Mo_element_43 : decode c_Mo_element 43 = .ok (.putfield 71, 3) := by decide +kernel
theorem d_Mo_element_46 : decode c_Mo_element 46 = .ok (.aload_n 0, 1) := by decide +kernel
theorem d_Mo_element_47 : decode c_Mo_element 47 = .ok (.getfield 71, 3) := by decide +kernel
theorem d_Mo_element_50 : decode c_Mo_element 50 = .ok (.ifCond .le 7, 3) := by decide +kernel
theorem d_Mo_element_53 : decode c_Mo_element 53 = .ok (.lconst 0, 1) := by decide +kernel
theorem d_Mo_element_54 : decode c_Mo_element 54 = .ok (.goto 14, 3) := by decide +kernel
theorem d_Mo_element_57 : decode c_Mo_element 57 = .ok (.aload_n 0, 1) := by decide +kernel
theorem d_Mo_element_58 : decode c_Mo_element 58 = .ok (.getfield 40, 3) := by decide +kernel
theorem d_Mo_element_61 : decode c_Mo_element 61 = .ok (.bipush 100, 2) := by decide +kernel
theorem d_Mo_element_63 : decode c_Mo_element 63 = .ok (.iload_n 1, 1) := by decide +kernel
theorem d_Mo_element_64 : decode c_Mo_element 64 = .ok (.imul, 1) := by decide +kernel
theorem d_Mo_element_65 : decode c_Mo_element 65 = .ok (.iload_n 2, 1) := by decide +kernel
theorem d_Mo_element_66 : decode c_Mo_element 66 = .ok (.iadd, 1) := by decide +kernel
theorem d_Mo_element_67 : decode c_Mo_element 67 = .ok (.laload, 1) := by decide +kernel
theorem d_Mo_element_68 : decode c_Mo_element 68 = .ok (.lreturn, 1) := by decide +kernel
theorem d_Mo_copy_0 : decode c_Mo_copy 0 = .ok (.aload_n 0, 1) := by decide +kernel
theorem d_Mo_copy_1 : decode c_Mo_copy 1 = .ok (.iconst 0, 1) := by decide +kernel
theorem d_Mo_copy_2 : decode c_Mo_copy 2 = .ok (.putfield 71, 3) := by decide +kernel
theorem d_Mo_copy_5 : decode c_Mo_copy 5 = .ok (.iload_n 1, 1) := by decide +kernel
theorem d_Mo_copy_6 : decode c_Mo_copy 6 = .ok (.i2l, 1) := by decide +kernel
theorem d_Mo_copy_7 : decode c_Mo_copy 7 = .ok (.lconst 0, 1) := by decide +kernel
theorem d_Mo_copy_8 : decode c_Mo_copy 8 = .ok (.ldc2_w 205, 3) := by decide +kernel
theorem d_Mo_copy_11 : decode c_Mo_copy 11 = .ok (.invokestatic 77, 3) := by decide +kernel
theorem d_Mo_copy_14 : decode c_Mo_copy 14 = .ok (.ifCond .eq 15, 3) := by decide +kernel
theorem d_Mo_copy_17 : decode c_Mo_copy 17 = .ok (.iload_n 3, 1) := by decide +kernel
theorem d_Mo_copy_18 : decode c_Mo_copy 18 = .ok (.i2l, 1) := by decide +kernel
theorem d_Mo_copy_19 : decode c_Mo_copy 19 = .ok (.lconst 0, 1) := by decide +kernel
theorem d_Mo_copy_20 : decode c_Mo_copy 20 = .ok (.ldc2_w 205, 3) := by decide +kernel
theorem d_Mo_copy_23 : decode c_Mo_copy 23 = .ok (.invokestatic 77, 3) := by decide +kernel
theorem d_Mo_copy_26 : decode c_Mo_copy 26 = .ok (.ifCond .ne 5, 3) := by decide +kernel
theorem d_Mo_copy_29 : decode c_Mo_copy 29 = .ok (.iconst (-1), 1) := by decide +kernel
theorem d_Mo_copy_30 : decode c_Mo_copy 30 = .ok (.ireturn, 1) := by decide +kernel
theorem d_Mo_copy_31 : decode c_Mo_copy 31 = .ok (.aload_n 0, 1) := by decide +kernel
theorem d_Mo_copy_32 : decode c_Mo_copy 32 = .ok (.getfield 25, 3) := by decide +kernel
theorem d_Mo_copy_35 : decode c_Mo_copy 35 = .ok (.iload_n 1, 1) := by decide +kernel
theorem d_Mo_copy_36 : decode c_Mo_copy 36 = .ok (.iaload, 1) := by decide +kernel
theorem d_Mo_copy_37 : decode c_Mo_copy 37 = .ok (.ifCond .eq 12, 3) := by decide +kernel
theorem d_Mo_copy_40 : decode c_Mo_copy 40 = .ok (.aload_n 0, 1) := by decide +kernel
theorem d_Mo_copy_41 : decode c_Mo_copy 41 = .ok (.getfield 25, 3) := by decide +kernel
theorem d_Mo_copy_44 : decode c_Mo_copy 44 = .ok (.iload_n 3, 1) := by decide +kernel
theorem d_Mo_copy_45 : decode c_Mo_copy 45 = .ok (.iaload, 1) := by decide +kernel
theorem d_Mo_copy_46 : decode c_Mo_copy 46 = .ok (.ifCond .ne 6, 3) := by decide +kernel
theorem d_Mo_copy_49 : decode c_Mo_copy 49 = .ok (.bipush (-11), 2) := by decide +kernel
theorem d_Mo_copy_51 : decode c_Mo_copy 51 = .ok (.ireturn, 1) := by decide +kernel
theorem d_Mo_copy_52 : decode c_Mo_copy 52 = .ok (.aload_n 0, 1) := by decide +kernel
theorem d_Mo_copy_53 : decode c_Mo_copy 53 = .ok (.getfield 25, 3) := by decide +kernel
theorem d_Mo_copy_56 : decode c_Mo_copy 56 = .ok (.iload_n 1, 1) := by decide +kernel
theorem d_Mo_copy_57 : decode c_Mo_copy 57 = .ok (.iaload, 1) := by decide +kernel
theorem d_Mo_copy_58 : decode c_Mo_copy 58 = .ok (.iconst 2, 1) := by decide +kernel
theorem d_Mo_copy_59 : decode c_Mo_copy 59 = .ok (.if_icmp .ne 28, 3) := by decide +kernel
theorem d_Mo_copy_62 : decode c_Mo_copy 62 = .ok (.aload_n 0, 1) := by decide +kernel
theorem d_Mo_copy_63 : decode c_Mo_copy 63 = .ok (.getfield 25, 3) := by decide +kernel
theorem d_Mo_copy_66 : decode c_Mo_copy 66 = .ok (.iload_n 3, 1) := by decide +kernel
theorem d_Mo_copy_67 : decode c_Mo_copy 67 = .ok (.iaload, 1) := by decide +kernel
theorem d_Mo_copy_68 : decode c_Mo_copy 68 = .ok (.iconst 2, 1) := by decide +kernel
theorem d_Mo_copy_69 : decode c_Mo_copy 69 = .ok (.if_icmp .ne 18, 3) := by decide +kernel
theorem d_Mo_copy_72 : decode c_Mo_copy 72 = .ok (.aload_n 0, 1) := by decide +kernel
theorem d_Mo_copy_73 : decode c_Mo_copy 73 = .ok (.getfield 34, 3) := by decide +kernel
theorem d_Mo_copy_76 : decode c_Mo_copy 76 = .ok (.iload_n 1, 1) := by decide +kernel
theorem d_Mo_copy_77 : decode c_Mo_copy 77 = .ok (.iaload, 1) := by decide +kernel
theorem d_Mo_copy_78 : decode c_Mo_copy 78 = .ok (.aload_n 0, 1) := by decide +kernel
theorem d_Mo_copy_79 : decode c_Mo_copy 79 = .ok (.getfield 34, 3) := by decide +kernel
theorem d_Mo_copy_82 : decode c_Mo_copy 82 = .ok (.iload_n 3, 1) := by decide +kernel
theorem d_Mo_copy_83 : decode c_Mo_copy 83 = .ok (.iaload, 1) := by decide +kernel
theorem d_Mo_copy_84 : decode c_Mo_copy 84 = .ok (.if_icmp .eq 6, 3) := by decide +kernel
theorem d_Mo_copy_87 : decode c_Mo_copy 87 = .ok (.bipush (-12), 2) := by decide +kernel
theorem d_Mo_copy_89 : decode c_Mo_copy 89 = .ok (.ireturn, 1) := by decide +kernel
theorem d_Mo_copy_90 : decode c_Mo_copy 90 = .ok (.iload 5, 2) := by decide +kernel
theorem d_Mo_copy_92 : decode c_Mo_copy 92 = .ok (.ifCond .lt 39, 3) := by decide +kernel
theorem d_Mo_copy_95 : decode c_Mo_copy 95 = .ok (.iload_n 2, 1) := by decide +kernel
theorem d_Mo_copy_96 : decode c_Mo_copy 96 = .ok (.ifCond .lt 35, 3) := by decide +kernel
theorem d_Mo_copy_99 : decode c_Mo_copy 99 = .ok (.iload 4, 2) := by decide +kernel
theorem d_Mo_copy_101 : decode c_Mo_copy 101 = .ok (.ifCond .lt 30, 3) := by decide +kernel
theorem d_Mo_copy_104 : decode c_Mo_copy 104 = .ok (.iload_n 2, 1) := by decide +kernel
theorem d_Mo_copy_105 : decode c_Mo_copy 105 = .ok (.aload_n 0, 1) := by decide +kernel
theorem d_Mo_copy_106 : decode c_Mo_copy 106 = .ok (.getfield 37, 3) := by decide +kernel
theorem d_Mo_copy_109 : decode c_Mo_copy 109 = .ok (.iload_n 1, 1) := by decide +kernel
theorem d_Mo_copy_110 : decode c_Mo_copy 110 = .ok (.iaload, 1) := by decide +kernel
theorem d_Mo_copy_111 : decode c_Mo_copy 111 = .ok (.iload 5, 2) := by decide +kernel
theorem d_Mo_copy_113 : decode c_Mo_copy 113 = .ok (.isub, 1) := by decide +kernel
theorem d_Mo_copy_114 : decode c_Mo_copy 114 = .ok (.if_icmp .gt 17, 3) := by decide +kernel
theorem d_Mo_copy_117 : decode c_Mo_copy 117 = .ok (.iload 4, 2) := by decide +kernel
theorem d_Mo_copy_119 : decode c_Mo_copy 119 = .ok (.aload_n 0, 1) := by decide +kernel
theorem d_Mo_copy_120 : decode c_Mo_copy 120 = .ok (.getfield 37, 3) := by decide +kernel
theorem d_Mo_copy_123 : decode c_Mo_copy 123 = .ok (.iload_n 3, 1) := by decide +kernel
theorem d_Mo_copy_124 : decode c_Mo_copy 124 = .ok (.iaload, 1) := by decide +kernel
theorem d_Mo_copy_125 : decode c_Mo_copy 125 = .ok (.iload 5, 2) := by decide +kernel
theorem d_Mo_copy_127 : decode c_Mo_copy 127 = .ok (.isub, 1) := by decide +kernel
theorem d_Mo_copy_128 : decode c_Mo_copy 128 = .ok (.if_icmp .le 6, 3) := by decide +kernel
theorem d_Mo_copy_131 : decode c_Mo_copy 131 = .ok (.bipush (-13), 2) := by decide +kernel
theorem d_Mo_copy_133 : decode c_Mo_copy 133 = .ok (.ireturn, 1) := by decide +kernel
theorem d_Mo_copy_134 : decode c_Mo_copy 134 = .ok (.iconst 0, 1) := by decide +kernel
theorem d_Mo_copy_135 : decode c_Mo_copy 135 = .ok (.istore 6, 2) := by decide +kernel
theorem d_Mo_copy_137 : decode c_Mo_copy 137 = .ok (.iload 6, 2) := by decide +kernel
theorem d_Mo_copy_139 : decode c_Mo_copy 139 = .ok (.iload 5, 2) := by decide +kernel
theorem d_Mo_copy_141 : decode c_Mo_copy 141 = .ok (.if_icmp .ge 30, 3) := by decide +kernel
theorem d_Mo_copy_144 : decode c_Mo_copy 144 = .ok (.aload_n 0, 1) := by decide +kernel
theorem d_Mo_copy_145 : decode c_Mo_copy 145 = .ok (.getfield 68, 3) := by decide +kernel
theorem d_Mo_copy_148 : decode c_Mo_copy 148 = .ok (.iload 6, 2) := by decide +kernel
theorem d_Mo_copy_150 : decode c_Mo_copy 150 = .ok (.aload_n 0, 1) := by decide +kernel
theorem d_Mo_copy_151 : decode c_Mo_copy 151 = .ok (.getfield 40, 3) := by decide +kernel
theorem d_Mo_copy_154 : decode c_Mo_copy 154 = .ok (.bipush 100, 2) := by decide +kernel
theorem d_Mo_copy_156 : decode c_Mo_copy 156 = .ok (.iload_n 1, 1) := by decide +kernel
theorem d_Mo_copy_157 : decode c_Mo_copy 157 = .ok (.imul, 1) := by decide +kernel
theorem d_Mo_copy_158 : decode c_Mo_copy 158 = .ok (.iload_n 2, 1) := by decide +kernel
theorem d_Mo_copy_159 : decode c_Mo_copy 159 = .ok (.iadd, 1) := by decide +kernel
theorem d_Mo_copy_160 : decode c_Mo_copy 160 = .ok (.iload 6, 2) := by decide +kernel
theorem d_Mo_copy_162 : decode c_Mo_copy 162 = .ok (.iadd, 1) := by decide +kernel
theorem d_Mo_copy_163 : decode c_Mo_copy 163 = .ok (.laload, 1) := by decide +kernel
theorem d_Mo_copy_164 : decode c_Mo_copy 164 = .ok (.lastore, 1) := by decide +kernel
theorem d_Mo_copy_165 : decode c_Mo_copy 165 = .ok (.iinc 6 1, 3) := by decide +kernel
theorem d_Mo_copy_168 : decode c_Mo_copy 168 = .ok (.goto (-31), 3) := by decide +kernel
theorem d_Mo_copy_171 : decode c_Mo_copy 171 = .ok (.iconst 0, 1) := by decide +kernel
theorem d_Mo_copy_172 : decode c_Mo_copy 172 = .ok (.istore 6, 2) := by decide +kernel
theorem d_Mo_copy_174 : decode c_Mo_copy 174 = .ok (.iload 6, 2) := by decide +kernel
theorem d_Mo_copy_176 : decode c_Mo_copy 176 = .ok (.iload 5, 2) := by decide +kernel
theorem d_Mo_copy_178 : decode c_Mo_copy 178 = .ok (.if_icmp .ge 31, 3) := by decide +kernel
theorem d_Mo_copy_181 : decode c_Mo_copy 181 = .ok (.aload_n 0, 1) := by decide +kernel
theorem d_Mo_copy_182 : decode c_Mo_copy 182 = .ok (.getfield 40, 3) := by decide +kernel
theorem d_Mo_copy_185 : decode c_Mo_copy 185 = .ok (.bipush 100, 2) := by decide +kernel
theorem d_Mo_copy_187 : decode c_Mo_copy 187 = .ok (.iload_n 3, 1) := by decide +kernel
theorem d_Mo_copy_188 : decode c_Mo_copy 188 = .ok (.imul, 1) := by decide +kernel
theorem d_Mo_copy_189 : decode c_Mo_copy 189 = .ok (.iload 4, 2) := by decide +kernel
theorem d_Mo_copy_191 : decode c_Mo_copy 191 = .ok (.iadd, 1) := by decide +kernel
theorem d_Mo_copy_192 : decode c_Mo_copy 192 = .ok (.iload 6, 2) := by decide +kernel
theorem d_Mo_copy_194 : decode c_Mo_copy 194 = .ok (.iadd, 1) := by decide +kernel
theorem d_Mo_copy_195 : decode c_Mo_copy 195 = .ok (.aload_n 0, 1) := by decide +kernel
theorem d_Mo_copy_196 : decode c_Mo_copy 196 = .ok (.getfield 68, 3) := by decide +kernel
theorem d_Mo_copy_199 : decode c_Mo_copy 199 = .ok (.iload 6, 2) := by decide +kernel
theorem d_Mo_copy_201 : decode c_Mo_copy 201 = .ok (.laload, 1) := by decide +kernel
theorem d_Mo_copy_202 : decode c_Mo_copy 202 = .ok (.lastore, 1) := by decide +kernel
theorem d_Mo_copy_203 : decode c_Mo_copy 203 = .ok (.iinc 6 1, 3) := by decide +kernel
theorem d_Mo_copy_206 : decode c_Mo_copy 206 = .ok (.goto (-32), 3) := by decide +kernel
theorem d_Mo_copy_209 : decode c_Mo_copy 209 = .ok (.iload 5, 2) := by decide +kernel
theorem d_Mo_copy_211 : decode c_Mo_copy 211 = .ok (.ireturn, 1) := by decide +kernel
theorem d_Mo_costOf_0 : decode c_Mo_costOf 0 = .ok (.iload_n 0, 1) := by decide +kernel
theorem d_Mo_costOf_1 : decode c_Mo_costOf 1 = .ok (.tableswitch 58 1 7 #[43, 45, 49, 51, 43, 54, 49], 43) := by decide +kernel
theorem d_Mo_costOf_44 : decode c_Mo_costOf 44 = .ok (.iconst 1, 1) := by decide +kernel
theorem d_Mo_costOf_45 : decode c_Mo_costOf 45 = .ok (.ireturn, 1) := by decide +kernel
theorem d_Mo_costOf_46 : decode c_Mo_costOf 46 = .ok (.iconst 2, 1) := by decide +kernel
theorem d_Mo_costOf_47 : decode c_Mo_costOf 47 = .ok (.iload_n 1, 1) := by decide +kernel
theorem d_Mo_costOf_48 : decode c_Mo_costOf 48 = .ok (.iadd, 1) := by decide +kernel
theorem d_Mo_costOf_49 : decode c_Mo_costOf 49 = .ok (.ireturn, 1) := by decide +kernel
theorem d_Mo_costOf_50 : decode c_Mo_costOf 50 = .ok (.iconst 4, 1) := by decide +kernel
theorem d_Mo_costOf_51 : decode c_Mo_costOf 51 = .ok (.ireturn, 1) := by decide +kernel
theorem d_Mo_costOf_52 : decode c_Mo_costOf 52 = .ok (.bipush 7, 2) := by decide +kernel
theorem d_Mo_costOf_54 : decode c_Mo_costOf 54 = .ok (.ireturn, 1) := by decide +kernel
theorem d_Mo_costOf_55 : decode c_Mo_costOf 55 = .ok (.iconst 4, 1) := by decide +kernel
theorem d_Mo_costOf_56 : decode c_Mo_costOf 56 = .ok (.iload_n 1, 1) := by decide +kernel
theorem d_Mo_costOf_57 : decode c_Mo_costOf 57 = .ok (.iadd, 1) := by decide +kernel
theorem d_Mo_costOf_58 : decode c_Mo_costOf 58 = .ok (.ireturn, 1) := by decide +kernel
theorem d_Mo_costOf_59 : decode c_Mo_costOf 59 = .ok (.iconst 2, 1) := by decide +kernel
theorem d_Mo_costOf_60 : decode c_Mo_costOf 60 = .ok (.ireturn, 1) := by decide +kernel
theorem d_Mo_cost_0 : decode c_Mo_cost 0 = .ok (.aload_n 0, 1) := by decide +kernel
theorem d_Mo_cost_1 : decode c_Mo_cost 1 = .ok (.iconst 0, 1) := by decide +kernel
theorem d_Mo_cost_2 : decode c_Mo_cost 2 = .ok (.putfield 71, 3) := by decide +kernel
theorem d_Mo_cost_5 : decode c_Mo_cost 5 = .ok (.aload_n 0, 1) := by decide +kernel
theorem d_Mo_cost_6 : decode c_Mo_cost 6 = .ok (.iload_n 1, 1) := by decide +kernel
theorem d_Mo_cost_7 : decode c_Mo_cost 7 = .ok (.invokevirtual 207, 3) := by decide +kernel
theorem d_Mo_cost_10 : decode c_Mo_cost 10 = .ok (.ifCond .ge 11, 3) := by decide +kernel
theorem d_Mo_cost_13 : decode c_Mo_cost 13 = .ok (.aload_n 0, 1) := by decide +kernel
theorem d_Mo_cost_14 : decode c_Mo_cost 14 = .ok (.iload_n 1, 1) := by decide +kernel
theorem d_Mo_cost_15 : decode c_Mo_cost 15 = .ok (.invokevirtual 207, 3) := by decide +kernel
theorem d_Mo_cost_18 : decode c_Mo_cost 18 = .ok (.goto 18, 3) := by decide +kernel
theorem d_Mo_cost_21 : decode c_Mo_cost 21 = .ok (.aload_n 0, 1) := by decide +kernel
theorem d_Mo_cost_22 : decode c_Mo_cost 22 = .ok (.getfield 28, 3) := by decide +kernel
theorem d_Mo_cost_25 : decode c_Mo_cost 25 = .ok (.iload_n 1, 1) := by decide +kernel
theorem d_Mo_cost_26 : decode c_Mo_cost 26 = .ok (.iaload, 1) := by decide +kernel
theorem d_Mo_cost_27 : decode c_Mo_cost 27 = .ok (.aload_n 0, 1) := by decide +kernel
theorem d_Mo_cost_28 : decode c_Mo_cost 28 = .ok (.getfield 31, 3) := by decide +kernel
theorem d_Mo_cost_31 : decode c_Mo_cost 31 = .ok (.iload_n 1, 1) := by decide +kernel
theorem d_Mo_cost_32 : decode c_Mo_cost 32 = .ok (.iaload, 1) := by decide +kernel
theorem d_Mo_cost_33 : decode c_Mo_cost 33 = .ok (.invokestatic 237, 3) := by decide +kernel
theorem d_Mo_cost_36 : decode c_Mo_cost 36 = .ok (.ireturn, 1) := by decide +kernel
theorem d_Mo_toss_0 : decode c_Mo_toss 0 = .ok (.aload_n 0, 1) := by decide +kernel
theorem d_Mo_toss_1 : decode c_Mo_toss 1 = .ok (.iconst 0, 1) := by decide +kernel
theorem d_Mo_toss_2 : decode c_Mo_toss 2 = .ok (.putfield 71, 3) := by decide +kernel
theorem d_Mo_toss_5 : decode c_Mo_toss 5 = .ok (.aload_n 0, 1) := by decide +kernel
theorem d_Mo_toss_6 : decode c_Mo_toss 6 = .ok (.iload_n 1, 1) := by decide +kernel
theorem d_Mo_toss_7 : decode c_Mo_toss 7 = .ok (.invokevirtual 207, 3) := by decide +kernel
theorem d_Mo_toss_10 : decode c_Mo_toss 10 = .ok (.ifCond .ge 9, 3) := by decide +kernel
theorem d_Mo_toss_13 : decode c_Mo_toss 13 = .ok (.aload_n 0, 1) := by decide +kernel
theorem d_Mo_toss_14 : decode c_Mo_toss 14 = .ok (.iload_n 1, 1) := by decide +kernel
theorem d_Mo_toss_15 : decode c_Mo_toss 15 = .ok (.invokevirtual 207, 3) := by decide +kernel
theorem d_Mo_toss_18 : decode c_Mo_toss 18 = .ok (.ireturn, 1) := by decide +kernel
theorem d_Mo_toss_19 : decode c_Mo_toss 19 = .ok (.aload_n 0, 1) := by decide +kernel
theorem d_Mo_toss_20 : decode c_Mo_toss 20 = .ok (.getfield 28, 3) := by decide +kernel
theorem d_Mo_toss_23 : decode c_Mo_toss 23 = .ok (.iload_n 1, 1) := by decide +kernel
theorem d_Mo_toss_24 : decode c_Mo_toss 24 = .ok (.iaload, 1) := by decide +kernel
theorem d_Mo_toss_25 : decode c_Mo_toss 25 = .ok (.istore_n 2, 1) := by decide +kernel
theorem d_Mo_toss_26 : decode c_Mo_toss 26 = .ok (.aload_n 0, 1) := by decide +kernel
theorem d_Mo_toss_27 : decode c_Mo_toss 27 = .ok (.getfield 31, 3) := by decide +kernel
theorem d_Mo_toss_30 : decode c_Mo_toss 30 = .ok (.iload_n 1, 1) := by decide +kernel
theorem d_Mo_toss_31 : decode c_Mo_toss 31 = .ok (.iaload, 1) := by decide +kernel
theorem d_Mo_toss_32 : decode c_Mo_toss 32 = .ok (.istore_n 3, 1) := by decide +kernel
theorem d_Mo_toss_33 : decode c_Mo_toss 33 = .ok (.iload_n 2, 1) := by decide +kernel
theorem d_Mo_toss_34 : decode c_Mo_toss 34 = .ok (.iconst 1, 1) := by decide +kernel
theorem d_Mo_toss_35 : decode c_Mo_toss 35 = .ok (.if_icmp .eq 13, 3) := by decide +kernel
theorem d_Mo_toss_38 : decode c_Mo_toss 38 = .ok (.iload_n 2, 1) := by decide +kernel
theorem d_Mo_toss_39 : decode c_Mo_toss 39 = .ok (.bipush 7, 2) := by decide +kernel
theorem d_Mo_toss_41 : decode c_Mo_toss 41 = .ok (.if_icmp .eq 7, 3) := by decide +kernel
theorem d_Mo_toss_44 : decode c_Mo_toss 44 = .ok (.iload_n 3, 1) := by decide +kernel
theorem d_Mo_toss_45 : decode c_Mo_toss 45 = .ok (.ifCond .ne 6, 3) := by decide +kernel
theorem d_Mo_toss_48 : decode c_Mo_toss 48 = .ok (.bipush (-15), 2) := by decide +kernel
theorem d_Mo_toss_50 : decode c_Mo_toss 50 = .ok (.ireturn, 1) := by decide +kernel
theorem d_Mo_toss_51 : decode c_Mo_toss 51 = .ok (.iload_n 2, 1) := by decide +kernel
theorem d_Mo_toss_52 : decode c_Mo_toss 52 = .ok (.iconst 3, 1) := by decide +kernel
theorem d_Mo_toss_53 : decode c_Mo_toss 53 = .ok (.if_icmp .ne 10, 3) := by decide +kernel
theorem d_Mo_toss_56 : decode c_Mo_toss 56 = .ok (.bipush 100, 2) := by decide +kernel
theorem d_Mo_toss_58 : decode c_Mo_toss 58 = .ok (.iload_n 3, 1) := by decide +kernel
theorem d_Mo_toss_59 : decode c_Mo_toss 59 = .ok (.iadd, 1) := by decide +kernel
theorem d_Mo_toss_60 : decode c_Mo_toss 60 = .ok (.goto 22, 3) := by decide +kernel
theorem d_Mo_toss_63 : decode c_Mo_toss 63 = .ok (.iload_n 2, 1) := by decide +kernel
theorem d_Mo_toss_64 : decode c_Mo_toss 64 = .ok (.bipush 6, 2) := by decide +kernel
theorem d_Mo_toss_66 : decode c_Mo_toss 66 = .ok (.if_icmp .ne 15, 3) := by decide +kernel
theorem d_Mo_toss_69 : decode c_Mo_toss 69 = .ok (.sipush 200, 3) := by decide +kernel
theorem d_Mo_toss_72 : decode c_Mo_toss 72 = .ok (.iload_n 2, 1) := by decide +kernel
theorem d_Mo_toss_73 : decode c_Mo_toss 73 = .ok (.iload_n 3, 1) := by decide +kernel
theorem d_Mo_toss_74 : decode c_Mo_toss 74 = .ok (.invokestatic 237, 3) := by decide +kernel
theorem d_Mo_toss_77 : decode c_Mo_toss 77 = .ok (.iadd, 1) := by decide +kernel
theorem d_Mo_toss_78 : decode c_Mo_toss 78 = .ok (.goto 4, 3) := by decide +kernel
theorem d_Mo_toss_81 : decode c_Mo_toss 81 = .ok (.iload_n 3, 1) := by decide +kernel
theorem d_Mo_toss_82 : decode c_Mo_toss 82 = .ok (.ireturn, 1) := by decide +kernel
