theorem d_Bl_init_0 : decode c_Bl_init 0 = .ok (.aload_n 0, 1) := by decide +kernel
theorem d_Bl_init_1 : decode c_Bl_init 1 = .ok (.invokespecial 3, 3) := by decide +kernel
theorem d_Bl_init_4 : decode c_Bl_init 4 = .ok (.return_, 1) := by decide +kernel
theorem d_Bl_number_0 : decode c_Bl_number 0 = .ok (.iconst 2, 1) := by decide +kernel
theorem d_Bl_number_1 : decode c_Bl_number 1 = .ok (.ireturn, 1) := by decide +kernel
theorem d_Bl_goal_0 : decode c_Bl_goal 0 = .ok (.bipush 20, 2) := by decide +kernel
theorem d_Bl_goal_2 : decode c_Bl_goal 2 = .ok (.iload_n 1, 1) := by decide +kernel
theorem d_Bl_goal_3 : decode c_Bl_goal 3 = .ok (.isub, 1) := by decide +kernel
theorem d_Bl_goal_4 : decode c_Bl_goal 4 = .ok (.ireturn, 1) := by decide +kernel
theorem d_Bl_pines_0 : decode c_Bl_pines 0 = .ok (.iconst 2, 1) := by decide +kernel
theorem d_Bl_pines_1 : decode c_Bl_pines 1 = .ok (.aload_n 0, 1) := by decide +kernel
theorem d_Bl_pines_2 : decode c_Bl_pines 2 = .ok (.iload_n 1, 1) := by decide +kernel
theorem d_Bl_pines_3 : decode c_Bl_pines 3 = .ok (.iload_n 2, 1) := by decide +kernel
theorem d_Bl_pines_4 : decode c_Bl_pines 4 = .ok (.invokespecial 9, 3) := by decide +kernel
theorem d_Bl_pines_7 : decode c_Bl_pines 7 = .ok (.imul, 1) := by decide +kernel
theorem d_Bl_pines_8 : decode c_Bl_pines 8 = .ok (.ireturn, 1) := by decide +kernel
theorem d_Bl_pace_0 : decode c_Bl_pace 0 = .ok (.iconst 1, 1) := by decide +kernel
theorem d_Bl_pace_1 : decode c_Bl_pace 1 = .ok (.iload_n 2, 1) := by decide +kernel
theorem d_Bl_pace_2 : decode c_Bl_pace 2 = .ok (.iconst 2, 1) := by decide +kernel
theorem d_Bl_pace_3 : decode c_Bl_pace 3 = .ok (.idiv, 1) := by decide +kernel
theorem d_Bl_pace_4 : decode c_Bl_pace 4 = .ok (.iadd, 1) := by decide +kernel
theorem d_Bl_pace_5 : decode c_Bl_pace 5 = .ok (.ireturn, 1) := by decide +kernel
theorem d_Bl_price_0 : decode c_Bl_price 0 = .ok (.aload_n 0, 1) := by decide +kernel
theorem d_Bl_price_1 : decode c_Bl_price 1 = .ok (.iload_n 1, 1) := by decide +kernel
theorem d_Bl_price_2 : decode c_Bl_price 2 = .ok (.invokespecial 13, 3) := by decide +kernel
theorem d_Bl_price_5 : decode c_Bl_price 5 = .ok (.iload_n 1, 1) := by decide +kernel
theorem d_Bl_price_6 : decode c_Bl_price 6 = .ok (.iadd, 1) := by decide +kernel
theorem d_Bl_price_7 : decode c_Bl_price 7 = .ok (.ireturn, 1) := by decide +kernel
theorem d_Co_init_0 : decode c_Co_init 0 = .ok (.aload_n 0, 1) := by decide +kernel
theorem d_Co_init_1 : decode c_Co_init 1 = .ok (.invokespecial 1, 3) := by decide +kernel
theorem d_Co_init_4 : decode c_Co_init 4 = .ok (.return_, 1) := by decide +kernel
theorem d_Co_number_0 : decode c_Co_number 0 = .ok (.iconst 1, 1) := by decide +kernel
theorem d_Co_number_1 : decode c_Co_number 1 = .ok (.ireturn, 1) := by decide +kernel
theorem d_Co_goal_0 : decode c_Co_goal 0 = .ok (.iload_n 2, 1) := by decide +kernel
theorem d_Co_goal_1 : decode c_Co_goal 1 = .ok (.ireturn, 1) := by decide +kernel
theorem d_Co_pines_0 : decode c_Co_pines 0 = .ok (.iconst 0, 1) := by decide +kernel
theorem d_Co_pines_1 : decode c_Co_pines 1 = .ok (.ireturn, 1) := by decide +kernel
theorem d_Co_pace_0 : decode c_Co_pace 0 = .ok (.iconst 2, 1) := by decide +kernel
theorem d_Co_pace_1 : decode c_Co_pace 1 = .ok (.ireturn, 1) := by decide +kernel
theorem d_Co_walk_0 : decode c_Co_walk 0 = .ok (.iconst 2, 1) := by decide +kernel
theorem d_Co_walk_1 : decode c_Co_walk 1 = .ok (.ireturn, 1) := by decide +kernel
theorem d_Co_price_0 : decode c_Co_price 0 = .ok (.iconst 1, 1) := by decide +kernel
theorem d_Co_price_1 : decode c_Co_price 1 = .ok (.ireturn, 1) := by decide +kernel
theorem d_Co_fail_0 : decode c_Co_fail 0 = .ok (.return_, 1) := by decide +kernel
theorem d_Dr_init_0 : decode c_Dr_init 0 = .ok (.aload_n 0, 1) := by decide +kernel
theorem d_Dr_init_1 : decode c_Dr_init 1 = .ok (.invokespecial 1, 3) := by decide +kernel
theorem d_Dr_init_4 : decode c_Dr_init 4 = .ok (.return_, 1) := by decide +kernel
theorem d_Dr_number_0 : decode c_Dr_number 0 = .ok (.iconst 4, 1) := by decide +kernel
theorem d_Dr_number_1 : decode c_Dr_number 1 = .ok (.ireturn, 1) := by decide +kernel
theorem d_Dr_pines_0 : decode c_Dr_pines 0 = .ok (.aload_n 0, 1) := by decide +kernel
theorem d_Dr_pines_1 : decode c_Dr_pines 1 = .ok (.iload_n 1, 1) := by decide +kernel
theorem d_Dr_pines_2 : decode c_Dr_pines 2 = .ok (.iload_n 2, 1) := by decide +kernel
theorem d_Dr_pines_3 : decode c_Dr_pines 3 = .ok (.invokespecial 7, 3) := by decide +kernel
theorem d_Dr_pines_6 : decode c_Dr_pines 6 = .ok (.iload_n 1, 1) := by decide +kernel
theorem d_Dr_pines_7 : decode c_Dr_pines 7 = .ok (.iadd, 1) := by decide +kernel
theorem d_Dr_pines_8 : decode c_Dr_pines 8 = .ok (.ireturn, 1) := by decide +kernel
theorem d_Dr_price_0 : decode c_Dr_price 0 = .ok (.bipush 7, 2) := by decide +kernel
theorem d_Dr_price_2 : decode c_Dr_price 2 = .ok (.ireturn, 1) := by decide +kernel
theorem d_Fo_init_0 : decode c_Fo_init 0 = .ok (.aload_n 0, 1) := by decide +kernel
theorem d_Fo_init_1 : decode c_Fo_init 1 = .ok (.invokespecial 1, 3) := by decide +kernel
theorem d_Fo_init_4 : decode c_Fo_init 4 = .ok (.return_, 1) := by decide +kernel
theorem d_Fo_number_0 : decode c_Fo_number 0 = .ok (.iconst 5, 1) := by decide +kernel
theorem d_Fo_number_1 : decode c_Fo_number 1 = .ok (.ireturn, 1) := by decide +kernel
theorem d_Fo_goal_0 : decode c_Fo_goal 0 = .ok (.iload_n 3, 1) := by decide +kernel
theorem d_Fo_goal_1 : decode c_Fo_goal 1 = .ok (.ireturn, 1) := by decide +kernel
theorem d_Fo_pines_0 : decode c_Fo_pines 0 = .ok (.aload_n 0, 1) := by decide +kernel
theorem d_Fo_pines_1 : decode c_Fo_pines 1 = .ok (.iload_n 1, 1) := by decide +kernel
theorem d_Fo_pines_2 : decode c_Fo_pines 2 = .ok (.iload_n 2, 1) := by decide +kernel
theorem d_Fo_pines_3 : decode c_Fo_pines 3 = .ok (.invokespecial 7, 3) := by decide +kernel
theorem d_Fo_pines_6 : decode c_Fo_pines 6 = .ok (.iload_n 1, 1) := by decide +kernel
theorem d_Fo_pines_7 : decode c_Fo_pines 7 = .ok (.iconst 2, 1) := by decide +kernel
theorem d_Fo_pines_8 : decode c_Fo_pines 8 = .ok (.idiv, 1) := by decide +kernel
theorem d_Fo_pines_9 : decode c_Fo_pines 9 = .ok (.iadd, 1) := by decide +kernel
theorem d_Fo_pines_10 : decode c_Fo_pines 10 = .ok (.ireturn, 1) := by decide +kernel
theorem d_Fo_pace_0 : decode c_Fo_pace 0 = .ok (.aload_n 0, 1) := by decide +kernel
theorem d_Fo_pace_1 : decode c_Fo_pace 1 = .ok (.iload_n 1, 1) := by decide +kernel
theorem d_Fo_pace_2 : decode c_Fo_pace 2 = .ok (.iload_n 2, 1) := by decide +kernel
theorem d_Fo_pace_3 : decode c_Fo_pace 3 = .ok (.invokespecial 11, 3) := by decide +kernel
theorem d_Fo_pace_6 : decode c_Fo_pace 6 = .ok (.iconst 1, 1) := by decide +kernel
theorem d_Fo_pace_7 : decode c_Fo_pace 7 = .ok (.iadd, 1) := by decide +kernel
theorem d_Fo_pace_8 : decode c_Fo_pace 8 = .ok (.ireturn, 1) := by decide +kernel
theorem d_Fo_price_0 : decode c_Fo_price 0 = .ok (.aload_n 0, 1) := by decide +kernel
theorem d_Fo_price_1 : decode c_Fo_price 1 = .ok (.iload_n 1, 1) := by decide +kernel
theorem d_Fo_price_2 : decode c_Fo_price 2 = .ok (.invokespecial 14, 3) := by decide +kernel
theorem d_Fo_price_5 : decode c_Fo_price 5 = .ok (.iconst 1, 1) := by decide +kernel
theorem d_Fo_price_6 : decode c_Fo_price 6 = .ok (.isub, 1) := by decide +kernel
theorem d_Fo_price_7 : decode c_Fo_price 7 = .ok (.ireturn, 1) := by decide +kernel
theorem d_Ge_init_0 : decode c_Ge_init 0 = .ok (.aload_n 0, 1) := by decide +kernel
theorem d_Ge_init_1 : decode c_Ge_init 1 = .ok (.invokespecial 1, 3) := by decide +kernel
theorem d_Ge_init_4 : decode c_Ge_init 4 = .ok (.return_, 1) := by decide +kernel
theorem d_Ge_number_0 : decode c_Ge_number 0 = .ok (.bipush 7, 2) := by decide +kernel
theorem d_Ge_number_2 : decode c_Ge_number 2 = .ok (.ireturn, 1) := by decide +kernel
theorem d_Ge_pace_0 : decode c_Ge_pace 0 = .ok (.aload_n 0, 1) := by decide +kernel
theorem d_Ge_pace_1 : decode c_Ge_pace 1 = .ok (.iload_n 1, 1) := by decide +kernel
theorem d_Ge_pace_2 : decode c_Ge_pace 2 = .ok (.iload_n 2, 1) := by decide +kernel
theorem d_Ge_pace_3 : decode c_Ge_pace 3 = .ok (.invokespecial 7, 3) := by decide +kernel
theorem d_Ge_pace_6 : decode c_Ge_pace 6 = .ok (.iconst 1, 1) := by decide +kernel
theorem d_Ge_pace_7 : decode c_Ge_pace 7 = .ok (.iadd, 1) := by decide +kernel
theorem d_Ge_pace_8 : decode c_Ge_pace 8 = .ok (.ireturn, 1) := by decide +kernel
theorem d_Ge_walk_0 : decode c_Ge_walk 0 = .ok (.iconst 3, 1) := by decide +kernel
theorem d_Ge_walk_1 : decode c_Ge_walk 1 = .ok (.ireturn, 1) := by decide +kernel
theorem d_Ge_price_0 : decode c_Ge_price 0 = .ok (.aload_n 0, 1) := by decide +kernel
theorem d_Ge_price_1 : decode c_Ge_price 1 = .ok (.iload_n 1, 1) := by decide +kernel
theorem d_Ge_price_2 : decode c_Ge_price 2 = .ok (.invokespecial 11, 3) := by decide +kernel
theorem d_Ge_price_5 : decode c_Ge_price 5 = .ok (.iconst 3, 1) := by decide +kernel
theorem d_Ge_price_6 : decode c_Ge_price 6 = .ok (.iadd, 1) := by decide +kernel
theorem d_Ge_price_7 : decode c_Ge_price 7 = .ok (.ireturn, 1) := by decide +kernel
theorem d_Ho_init_0 : decode c_Ho_init 0 = .ok (.aload_n 0, 1) := by decide +kernel
theorem d_Ho_init_1 : decode c_Ho_init 1 = .ok (.invokespecial 1, 3) := by decide +kernel
theorem d_Ho_init_4 : decode c_Ho_init 4 = .ok (.return_, 1) := by decide +kernel
theorem d_Ho_number_0 : decode c_Ho_number 0 = .ok (.iconst 0, 1) := by decide +kernel
theorem d_Ho_number_1 : decode c_Ho_number 1 = .ok (.ireturn, 1) := by decide +kernel
theorem d_Ho_goal_0 : decode c_Ho_goal 0 = .ok (.iload_n 1, 1) := by decide +kernel
theorem d_Ho_goal_1 : decode c_Ho_goal 1 = .ok (.ireturn, 1) := by decide +kernel
theorem d_Ho_pines_0 : decode c_Ho_pines 0 = .ok (.iconst 1, 1) := by decide +kernel
theorem d_Ho_pines_1 : decode c_Ho_pines 1 = .ok (.iload_n 2, 1) := by decide +kernel
theorem d_Ho_pines_2 : decode c_Ho_pines 2 = .ok (.iconst 5, 1) := by decide +kernel
theorem d_Ho_pines_3 : decode c_Ho_pines 3 = .ok (.idiv, 1) := by decide +kernel
theorem d_Ho_pines_4 : decode c_Ho_pines 4 = .ok (.iadd, 1) := by decide +kernel
theorem d_Ho_pines_5 : decode c_Ho_pines 5 = .ok (.ireturn, 1) := by decide +kernel
theorem d_Ho_pace_0 : decode c_Ho_pace 0 = .ok (.iconst 1, 1) := by decide +kernel
theorem d_Ho_pace_1 : decode c_Ho_pace 1 = .ok (.iload_n 2, 1) := by decide +kernel
theorem d_Ho_pace_2 : decode c_Ho_pace 2 = .ok (.iconst 4, 1) := by decide +kernel
theorem d_Ho_pace_3 : decode c_Ho_pace 3 = .ok (.idiv, 1) := by decide +kernel
theorem d_Ho_pace_4 : decode c_Ho_pace 4 = .ok (.iadd, 1) := by decide +kernel
theorem d_Ho_pace_5 : decode c_Ho_pace 5 = .ok (.ireturn, 1) := by decide +kernel
theorem d_Ho_walk_0 : decode c_Ho_walk 0 = .ok (.iconst 1, 1) := by decide +kernel
theorem d_Ho_walk_1 : decode c_Ho_walk 1 = .ok (.ireturn, 1) := by decide +kernel
theorem d_Ho_price_0 : decode c_Ho_price 0 = .ok (.iconst 2, 1) := by decide +kernel
theorem d_Ho_price_1 : decode c_Ho_price 1 = .ok (.ireturn, 1) := by decide +kernel
theorem d_Ho_fail_0 : decode c_Ho_fail 0 = .ok (.iload_n 1, 1) := by decide +kernel
theorem d_Ho_fail_1 : decode c_Ho_fail 1 = .ok (.ifCond .eq 13, 3) := by decide +kernel
theorem d_Ho_fail_4 : decode c_Ho_fail 4 = .ok (.new 7, 3) := by decide +kernel
theorem d_Ho_fail_7 : decode c_Ho_fail 7 = .ok (.dup, 1) := by decide +kernel
theorem d_Ho_fail_8 : decode c_Ho_fail 8 = .ok (.ldc 9, 2) := by decide +kernel
theorem d_Ho_fail_10 : decode c_Ho_fail 10 = .ok (.invokespecial 11, 3) := by decide +kernel
theorem d_Ho_fail_13 : decode c_Ho_fail 13 = .ok (.athrow, 1) := by decide +kernel
theorem d_Ho_fail_14 : decode c_Ho_fail 14 = .ok (.return_, 1) := by decide +kernel
theorem d_La_init_0 : decode c_La_init 0 = .ok (.aload_n 0, 1) := by decide +kernel
theorem d_La_init_1 : decode c_La_init 1 = .ok (.invokespecial 3, 3) := by decide +kernel
theorem d_La_init_4 : decode c_La_init 4 = .ok (.aload_n 0, 1) := by decide +kernel
theorem d_La_init_5 : decode c_La_init 5 = .ok (.aload_n 1, 1) := by decide +kernel
theorem d_La_init_6 : decode c_La_init 6 = .ok (.putfield 9, 3) := by decide +kernel
theorem d_La_init_9 : decode c_La_init 9 = .ok (.aload_n 0, 1) := by decide +kernel
theorem d_La_init_10 : decode c_La_init 10 = .ok (.bipush 7, 2) := by decide +kernel
theorem d_La_init_12 : decode c_La_init 12 = .ok (.anewarray 15, 3) := by decide +kernel
theorem d_La_init_15 : decode c_La_init 15 = .ok (.putfield 17, 3) := by decide +kernel
theorem d_La_init_18 : decode c_La_init 18 = .ok (.iconst 0, 1) := by decide +kernel
theorem d_La_init_19 : decode c_La_init 19 = .ok (.istore_n 2, 1) := by decide +kernel
theorem d_La_init_20 : decode c_La_init 20 = .ok (.iload_n 2, 1) := by decide +kernel
theorem d_La_init_21 : decode c_La_init 21 = .ok (.bipush 7, 2) := by decide +kernel
theorem d_La_init_23 : decode c_La_init 23 = .ok (.if_icmp .ge 25, 3) := by decide +kernel
theorem d_La_init_26 : decode c_La_init 26 = .ok (.aload_n 0, 1) := by decide +kernel
theorem d_La_init_27 : decode c_La_init 27 = .ok (.getfield 17, 3) := by decide +kernel
theorem d_La_init_30 : decode c_La_init 30 = .ok (.iload_n 2, 1) := by decide +kernel
theorem d_La_init_31 : decode c_La_init 31 = .ok (.new 15, 3) := by decide +kernel
theorem d_La_init_34 : decode c_La_init 34 = .ok (.dup, 1) := by decide +kernel
theorem d_La_init_35 : decode c_La_init 35 = .ok (.aload_n 1, 1) := by decide +kernel
theorem d_La_init_36 : decode c_La_init 36 = .ok (.iconst 0, 1) := by decide +kernel
theorem d_La_init_37 : decode c_La_init 37 = .ok (.aaload, 1) := by decide +kernel
theorem d_La_init_38 : decode c_La_init 38 = .ok (.invokespecial 21, 3) := by decide +kernel
theorem d_La_init_41 : decode c_La_init 41 = .ok (.aastore, 1) := by decide +kernel
theorem d_La_init_42 : decode c_La_init 42 = .ok (.iinc 2 1, 3) := by decide +kernel
theorem d_La_init_45 : decode c_La_init 45 = .ok (.goto (-25), 3) := by decide +kernel
theorem d_La_init_48 : decode c_La_init 48 = .ok (.return_, 1) := by decide +kernel
theorem d_La_become_0 : decode c_La_become 0 = .ok (.aload_n 0, 1) := by decide +kernel
theorem d_La_become_1 : decode c_La_become 1 = .ok (.aload_n 1, 1) := by decide +kernel
theorem d_La_become_2 : decode c_La_become 2 = .ok (.getfield 24, 3) := by decide +kernel
theorem d_La_become_5 : decode c_La_become 5 = .ok (.putfield 24, 3) := by decide +kernel
theorem d_La_become_8 : decode c_La_become 8 = .ok (.aload_n 0, 1) := by decide +kernel
theorem d_La_become_9 : decode c_La_become 9 = .ok (.aload_n 1, 1) := by decide +kernel
theorem d_La_become_10 : decode c_La_become 10 = .ok (.getfield 28, 3) := by decide +kernel
theorem d_La_become_13 : decode c_La_become 13 = .ok (.putfield 28, 3) := by decide +kernel
theorem d_La_become_16 : decode c_La_become 16 = .ok (.aload_n 0, 1) := by decide +kernel
theorem d_La_become_17 : decode c_La_become 17 = .ok (.aload_n 1, 1) := by decide +kernel
theorem d_La_become_18 : decode c_La_become 18 = .ok (.getfield 31, 3) := by decide +kernel
theorem d_La_become_21 : decode c_La_become 21 = .ok (.putfield 31, 3) := by decide +kernel
theorem d_La_become_24 : decode c_La_become 24 = .ok (.iconst 0, 1) := by decide +kernel
theorem d_La_become_25 : decode c_La_become 25 = .ok (.istore_n 2, 1) := by decide +kernel
theorem d_La_become_26 : decode c_La_become 26 = .ok (.iload_n 2, 1) := by decide +kernel
theorem d_La_become_27 : decode c_La_become 27 = .ok (.aload_n 0, 1) := by decide +kernel
theorem d_La_become_28 : decode c_La_become 28 = .ok (.getfield 24, 3) := by decide +kernel
theorem d_La_become_31 : decode c_La_become 31 = .ok (.if_icmp .ge 24, 3) := by decide +kernel
theorem d_La_become_34 : decode c_La_become 34 = .ok (.aload_n 0, 1) := by decide +kernel
theorem d_La_become_35 : decode c_La_become 35 = .ok (.getfield 17, 3) := by decide +kernel
theorem d_La_become_38 : decode c_La_become 38 = .ok (.iload_n 2, 1) := by decide +kernel
theorem d_La_become_39 : decode c_La_become 39 = .ok (.aaload, 1) := by decide +kernel
theorem d_La_become_40 : decode c_La_become 40 = .ok (.aload_n 1, 1) := by decide +kernel
theorem d_La_become_41 : decode c_La_become 41 = .ok (.getfield 17, 3) := by decide +kernel
theorem d_La_become_44 : decode c_La_become 44 = .ok (.iload_n 2, 1) := by decide +kernel
theorem d_La_become_45 : decode c_La_become 45 = .ok (.aaload, 1) := by decide +kernel
theorem d_La_become_46 : decode c_La_become 46 = .ok (.invokevirtual 34, 3) := by decide +kernel
theorem d_La_become_49 : decode c_La_become 49 = .ok (.iinc 2 1, 3) := by decide +kernel
theorem d_La_become_52 : decode c_La_become 52 = .ok (.goto (-26), 3) := by decide +kernel
theorem d_La_become_55 : decode c_La_become 55 = .ok (.return_, 1) := by decide +kernel
theorem d_La_gets_0 : decode c_La_gets 0 = .ok (.aload_n 0, 1) := by decide +kernel
theorem d_La_gets_1 : decode c_La_gets 1 = .ok (.getfield 24, 3) := by decide +kernel
theorem d_La_gets_4 : decode c_La_gets 4 = .ok (.bipush 7, 2) := by decide +kernel
theorem d_La_gets_6 : decode c_La_gets 6 = .ok (.if_icmp .lt 5, 3) := by decide +kernel
theorem d_La_gets_9 : decode c_La_gets 9 = .ok (.iconst 0, 1) := by decide +kernel
theorem d_La_gets_10 : decode c_La_gets 10 = .ok (.ireturn, 1) := by decide +kernel
theorem d_La_gets_11 : decode c_La_gets 11 = .ok (.aload_n 0, 1) := by decide +kernel
theorem d_La_gets_12 : decode c_La_gets 12 = .ok (.getfield 17, 3) := by decide +kernel
theorem d_La_gets_15 : decode c_La_gets 15 = .ok (.aload_n 0, 1) := by decide +kernel
theorem d_La_gets_16 : decode c_La_gets 16 = .ok (.getfield 24, 3) := by decide +kernel
theorem d_La_gets_19 : decode c_La_gets 19 = .ok (.aaload, 1) := by decide +kernel
theorem d_La_gets_20 : decode c_La_gets 20 = .ok (.astore 5, 2) := by decide +kernel
theorem d_La_gets_22 : decode c_La_gets 22 = .ok (.aload 5, 2) := by decide +kernel
theorem d_La_gets_24 : decode c_La_gets 24 = .ok (.aload_n 1, 1) := by decide +kernel
theorem d_La_gets_25 : decode c_La_gets 25 = .ok (.putfield 38, 3) := by decide +kernel
theorem d_La_gets_28 : decode c_La_gets 28 = .ok (.aload 5, 2) := by decide +kernel
theorem d_La_gets_30 : decode c_La_gets 30 = .ok (.iload_n 2, 1) := by decide +kernel
theorem d_La_gets_31 : decode c_La_gets 31 = .ok (.putfield 42, 3) := by decide +kernel
theorem d_La_gets_34 : decode c_La_gets 34 = .ok (.aload 5, 2) := by decide +kernel
theorem d_La_gets_36 : decode c_La_gets 36 = .ok (.iload_n 3, 1) := by decide +kernel
theorem d_La_gets_37 : decode c_La_gets 37 = .ok (.putfield 45, 3) := by decide +kernel
theorem d_La_gets_40 : decode c_La_gets 40 = .ok (.aload 5, 2) := by decide +kernel
theorem d_La_gets_42 : decode c_La_gets 42 = .ok (.iload 4, 2) := by decide +kernel
theorem d_La_gets_44 : decode c_La_gets 44 = .ok (.putfield 48, 3) := by decide +kernel
theorem d_La_gets_47 : decode c_La_gets 47 = .ok (.aload 5, 2) := by decide +kernel
theorem d_La_gets_49 : decode c_La_gets 49 = .ok (.iconst 0, 1) := by decide +kernel
theorem d_La_gets_50 : decode c_La_gets 50 = .ok (.putfield 51, 3) := by decide +kernel
theorem d_La_gets_53 : decode c_La_gets 53 = .ok (.aload_n 0, 1) := by decide +kernel
theorem d_La_gets_54 : decode c_La_gets 54 = .ok (.dup, 1) := by decide +kernel
theorem d_La_gets_55 : decode c_La_gets 55 = .ok (.getfield 24, 3) := by decide +kernel
theorem d_La_gets_58 : decode c_La_gets 58 = .ok (.iconst 1, 1) := by decide +kernel
theorem d_La_gets_59 : decode c_La_gets 59 = .ok (.iadd, 1) := by decide +kernel
theorem d_La_gets_60 : decode c_La_gets 60 = .ok (.putfield 24, 3) := by decide +kernel
theorem d_La_gets_63 : decode c_La_gets 63 = .ok (.iconst 1, 1) := by decide +kernel
theorem d_La_gets_64 : decode c_La_gets 64 = .ok (.ireturn, 1) := by decide +kernel
theorem d_La_hasDays_0 : decode c_La_hasDays 0 = .ok (.aload_n 0, 1) := by decide +kernel
theorem d_La_hasDays_1 : decode c_La_hasDays 1 = .ok (.getfield 31, 3) := by decide +kernel
theorem d_La_hasDays_4 : decode c_La_hasDays 4 = .ok (.iload_n 1, 1) := by decide +kernel
theorem d_La_hasDays_5 : decode c_La_hasDays 5 = .ok (.iadd, 1) := by decide +kernel
theorem d_La_hasDays_6 : decode c_La_hasDays 6 = .ok (.sipush 999, 3) := by decide +kernel
theorem d_La_hasDays_9 : decode c_La_hasDays 9 = .ok (.if_icmp .gt 7, 3) := by decide +kernel
theorem d_La_hasDays_12 : decode c_La_hasDays 12 = .ok (.iconst 1, 1) := by decide +kernel
theorem d_La_hasDays_13 : decode c_La_hasDays 13 = .ok (.goto 4, 3) := by decide +kernel
theorem d_La_hasDays_16 : decode c_La_hasDays 16 = .ok (.iconst 0, 1) := by decide +kernel
theorem d_La_hasDays_17 : decode c_La_hasDays 17 = .ok (.ireturn, 1) := by decide +kernel
theorem d_La_pass_0 : decode c_La_pass 0 = .ok (.aload_n 0, 1) := by decide +kernel
theorem d_La_pass_1 : decode c_La_pass 1 = .ok (.dup, 1) := by decide +kernel
theorem d_La_pass_2 : decode c_La_pass 2 = .ok (.getfield 31, 3) := by decide +kernel
theorem d_La_pass_5 : decode c_La_pass 5 = .ok (.iload_n 1, 1) := by decide +kernel
theorem d_La_pass_6 : decode c_La_pass 6 = .ok (.iadd, 1) := by decide +kernel
theorem d_La_pass_7 : decode c_La_pass 7 = .ok (.putfield 31, 3) := by decide +kernel
theorem d_La_pass_10 : decode c_La_pass 10 = .ok (.iconst 0, 1) := by decide +kernel
theorem d_La_pass_11 : decode c_La_pass 11 = .ok (.istore_n 2, 1) := by decide +kernel
theorem d_La_pass_12 : decode c_La_pass 12 = .ok (.iload_n 2, 1) := by decide +kernel
theorem d_La_pass_13 : decode c_La_pass 13 = .ok (.aload_n 0, 1) := by decide +kernel
theorem d_La_pass_14 : decode c_La_pass 14 = .ok (.getfield 24, 3) := by decide +kernel
theorem d_La_pass_17 : decode c_La_pass 17 = .ok (.if_icmp .ge 35, 3) := by decide +kernel
theorem d_La_pass_20 : decode c_La_pass 20 = .ok (.iconst 0, 1) := by decide +kernel
theorem d_La_pass_21 : decode c_La_pass 21 = .ok (.istore_n 3, 1) := by decide +kernel
theorem d_La_pass_22 : decode c_La_pass 22 = .ok (.iload_n 3, 1) := by decide +kernel
theorem d_La_pass_23 : decode c_La_pass 23 = .ok (.iload_n 1, 1) := by decide +kernel
theorem d_La_pass_24 : decode c_La_pass 24 = .ok (.if_icmp .ge 22, 3) := by decide +kernel
theorem d_La_pass_27 : decode c_La_pass 27 = .ok (.aload_n 0, 1) := by decide +kernel
theorem d_La_pass_28 : decode c_La_pass 28 = .ok (.getfield 17, 3) := by decide +kernel
theorem d_La_pass_31 : decode c_La_pass 31 = .ok (.iload_n 2, 1) := by decide +kernel
theorem d_La_pass_32 : decode c_La_pass 32 = .ok (.aaload, 1) := by decide +kernel
theorem d_La_pass_33 : decode c_La_pass 33 = .ok (.aload_n 0, 1) := by decide +kernel
theorem d_La_pass_34 : decode c_La_pass 34 = .ok (.getfield 28, 3) := by decide +kernel
theorem d_La_pass_37 : decode c_La_pass 37 = .ok (.invokevirtual 54, 3) := by decide +kernel
theorem d_La_pass_40 : decode c_La_pass 40 = .ok (.iinc 3 1, 3) := by decide +kernel
theorem d_La_pass_43 : decode c_La_pass 43 = .ok (.goto (-21), 3) := by decide +kernel
theorem d_La_pass_46 : decode c_La_pass 46 = .ok (.iinc 2 1, 3) := by decide +kernel
theorem d_La_pass_49 : decode c_La_pass 49 = .ok (.goto (-37), 3) := by decide +kernel
theorem d_La_pass_52 : decode c_La_pass 52 = .ok (.return_, 1) := by decide +kernel
theorem d_La_ride_0 : decode c_La_ride 0 = .ok (.iconst 0, 1) := by decide +kernel
theorem d_La_ride_1 : decode c_La_ride 1 = .ok (.istore_n 3, 1) := by decide +kernel
theorem d_La_ride_2 : decode c_La_ride 2 = .ok (.aload_n 0, 1) := by decide +kernel
theorem d_La_ride_3 : decode c_La_ride 3 = .ok (.getfield 17, 3) := by decide +kernel
theorem d_La_ride_6 : decode c_La_ride 6 = .ok (.iload_n 1, 1) := by decide +kernel
theorem d_La_ride_7 : decode c_La_ride 7 = .ok (.aaload, 1) := by decide +kernel
theorem d_La_ride_8 : decode c_La_ride 8 = .ok (.getfield 48, 3) := by decide +kernel
theorem d_La_ride_11 : decode c_La_ride 11 = .ok (.iload_n 2, 1) := by decide +kernel
theorem d_La_ride_12 : decode c_La_ride 12 = .ok (.if_icmp .eq 34, 3) := by decide +kernel
theorem d_La_ride_15 : decode c_La_ride 15 = .ok (.iload_n 3, 1) := by decide +kernel
theorem d_La_ride_16 : decode c_La_ride 16 = .ok (.bipush 21, 2) := by decide +kernel
theorem d_La_ride_18 : decode c_La_ride 18 = .ok (.if_icmp .ge 28, 3) := by decide +kernel
theorem d_La_ride_21 : decode c_La_ride 21 = .ok (.aload_n 0, 1) := by decide +kernel
theorem d_La_ride_22 : decode c_La_ride 22 = .ok (.getfield 17, 3) := by decide +kernel
theorem d_La_ride_25 : decode c_La_ride 25 = .ok (.iload_n 1, 1) := by decide +kernel
theorem d_La_ride_26 : decode c_La_ride 26 = .ok (.aaload, 1) := by decide +kernel
theorem d_La_ride_27 : decode c_La_ride 27 = .ok (.iload_n 2, 1) := by decide +kernel
theorem d_La_ride_28 : decode c_La_ride 28 = .ok (.aload_n 0, 1) := by decide +kernel
theorem d_La_ride_29 : decode c_La_ride 29 = .ok (.getfield 28, 3) := by decide +kernel
theorem d_La_ride_32 : decode c_La_ride 32 = .ok (.invokevirtual 58, 3) := by decide +kernel
theorem d_La_ride_35 : decode c_La_ride 35 = .ok (.aload_n 0, 1) := by decide +kernel
theorem d_La_ride_36 : decode c_La_ride 36 = .ok (.iconst 1, 1) := by decide +kernel
theorem d_La_ride_37 : decode c_La_ride 37 = .ok (.invokevirtual 62, 3) := by decide +kernel
theorem d_La_ride_40 : decode c_La_ride 40 = .ok (.iinc 3 1, 3) := by decide +kernel
theorem d_La_ride_43 : decode c_La_ride 43 = .ok (.goto (-41), 3) := by decide +kernel
theorem d_La_ride_46 : decode c_La_ride 46 = .ok (.iload_n 3, 1) := by decide +kernel
theorem d_La_ride_47 : decode c_La_ride 47 = .ok (.ireturn, 1) := by decide +kernel
theorem d_La_allLonging_0 : decode c_La_allLonging 0 = .ok (.iconst 0, 1) := by decide +kernel
theorem d_La_allLonging_1 : decode c_La_allLonging 1 = .ok (.istore_n 1, 1) := by decide +kernel
theorem d_La_allLonging_2 : decode c_La_allLonging 2 = .ok (.iconst 0, 1) := by decide +kernel
theorem d_La_allLonging_3 : decode c_La_allLonging 3 = .ok (.istore_n 2, 1) := by decide +kernel
theorem d_La_allLonging_4 : decode c_La_allLonging 4 = .ok (.iload_n 2, 1) := by decide +kernel
theorem d_La_allLonging_5 : decode c_La_allLonging 5 = .ok (.aload_n 0, 1) := by decide +kernel
theorem d_La_allLonging_6 : decode c_La_allLonging 6 = .ok (.getfield 24, 3) := by decide +kernel
theorem d_La_allLonging_9 : decode c_La_allLonging 9 = .ok (.if_icmp .ge 21, 3) := by decide +kernel
theorem d_La_allLonging_12 : decode c_La_allLonging 12 = .ok (.iload_n 1, 1) := by decide +kernel
theorem d_La_allLonging_13 : decode c_La_allLonging 13 = .ok (.aload_n 0, 1) := by decide +kernel
theorem d_La_allLonging_14 : decode c_La_allLonging 14 = .ok (.getfield 17, 3) := by decide +kernel
theorem d_La_allLonging_17 : decode c_La_allLonging 17 = .ok (.iload_n 2, 1) := by decide +kernel
theorem d_La_allLonging_18 : decode c_La_allLonging 18 = .ok (.aaload, 1) := by decide +kernel
theorem d_La_allLonging_19 : decode c_La_allLonging 19 = .ok (.getfield 51, 3) := by decide +kernel
theorem d_La_allLonging_22 : decode c_La_allLonging 22 = .ok (.iadd, 1) := by decide +kernel
theorem d_La_allLonging_23 : decode c_La_allLonging 23 = .ok (.istore_n 1, 1) := by decide +kernel
theorem d_La_allLonging_24 : decode c_La_allLonging 24 = .ok (.iinc 2 1, 3) := by decide +kernel
theorem d_La_allLonging_27 : decode c_La_allLonging 27 = .ok (.goto (-23), 3) := by decide +kernel
theorem d_La_allLonging_30 : decode c_La_allLonging 30 = .ok (.iload_n 1, 1) := by decide +kernel
theorem d_La_allLonging_31 : decode c_La_allLonging 31 = .ok (.ireturn, 1) := by decide +kernel
theorem d_La_allPace_0 : decode c_La_allPace 0 = .ok (.iconst 0, 1) := by decide +kernel
theorem d_La_allPace_1 : decode c_La_allPace 1 = .ok (.istore_n 1, 1) := by decide +kernel
theorem d_La_allPace_2 : decode c_La_allPace 2 = .ok (.iconst 0, 1) := by decide +kernel
theorem d_La_allPace_3 : decode c_La_allPace 3 = .ok (.istore_n 2, 1) := by decide +kernel
theorem d_La_allPace_4 : decode c_La_allPace 4 = .ok (.iload_n 2, 1) := by decide +kernel
theorem d_La_allPace_5 : decode c_La_allPace 5 = .ok (.aload_n 0, 1) := by decide +kernel
theorem d_La_allPace_6 : decode c_La_allPace 6 = .ok (.getfield 24, 3) := by decide +kernel
theorem d_La_allPace_9 : decode c_La_allPace 9 = .ok (.if_icmp .ge 21, 3) := by decide +kernel
theorem d_La_allPace_12 : decode c_La_allPace 12 = .ok (.iload_n 1, 1) := by decide +kernel
theorem d_La_allPace_13 : decode c_La_allPace 13 = .ok (.aload_n 0, 1) := by decide +kernel
theorem d_La_allPace_14 : decode c_La_allPace 14 = .ok (.getfield 17, 3) := by decide +kernel
theorem d_La_allPace_17 : decode c_La_allPace 17 = .ok (.iload_n 2, 1) := by decide +kernel
theorem d_La_allPace_18 : decode c_La_allPace 18 = .ok (.aaload, 1) := by decide +kernel
theorem d_La_allPace_19 : decode c_La_allPace 19 = .ok (.invokevirtual 65, 3) := by decide +kernel
theorem d_La_allPace_22 : decode c_La_allPace 22 = .ok (.iadd, 1) := by decide +kernel
theorem d_La_allPace_23 : decode c_La_allPace 23 = .ok (.istore_n 1, 1) := by decide +kernel
theorem d_La_allPace_24 : decode c_La_allPace 24 = .ok (.iinc 2 1, 3) := by decide +kernel
theorem d_La_allPace_27 : decode c_La_allPace 27 = .ok (.goto (-23), 3) := by decide +kernel
theorem d_La_allPace_30 : decode c_La_allPace 30 = .ok (.iload_n 1, 1) := by decide +kernel
theorem d_La_allPace_31 : decode c_La_allPace 31 = .ok (.ireturn, 1) := by decide +kernel
theorem d_La_allResting_0 : decode c_La_allResting 0 = .ok (.iconst 0, 1) := by decide +kernel
theorem d_La_allResting_1 : decode c_La_allResting 1 = .ok (.istore_n 1, 1) := by decide +kernel
theorem d_La_allResting_2 : decode c_La_allResting 2 = .ok (.iconst 0, 1) := by decide +kernel
theorem d_La_allResting_3 : decode c_La_allResting 3 = .ok (.istore_n 2, 1) := by decide +kernel
theorem d_La_allResting_4 : decode c_La_allResting 4 = .ok (.iload_n 2, 1) := by decide +kernel
theorem d_La_allResting_5 : decode c_La_allResting 5 = .ok (.aload_n 0, 1) := by decide +kernel
theorem d_La_allResting_6 : decode c_La_allResting 6 = .ok (.getfield 24, 3) := by decide +kernel
theorem d_La_allResting_9 : decode c_La_allResting 9 = .ok (.if_icmp .ge 33, 3) := by decide +kernel
theorem d_La_allResting_12 : decode c_La_allResting 12 = .ok (.iload_n 1, 1) := by decide +kernel
theorem d_La_allResting_13 : decode c_La_allResting 13 = .ok (.aload_n 0, 1) := by decide +kernel
theorem d_La_allResting_14 : decode c_La_allResting 14 = .ok (.getfield 17, 3) := by decide +kernel
theorem d_La_allResting_17 : decode c_La_allResting 17 = .ok (.iload_n 2, 1) := by decide +kernel
theorem d_La_allResting_18 : decode c_La_allResting 18 = .ok (.aaload, 1) := by decide +kernel
theorem d_La_allResting_19 : decode c_La_allResting 19 = .ok (.aload_n 0, 1) := by decide +kernel
theorem d_La_allResting_20 : decode c_La_allResting 20 = .ok (.getfield 28, 3) := by decide +kernel
theorem d_La_allResting_23 : decode c_La_allResting 23 = .ok (.invokevirtual 69, 3) := by decide +kernel
theorem d_La_allResting_26 : decode c_La_allResting 26 = .ok (.ifCond .eq 7, 3) := by decide +kernel
theorem d_La_allResting_29 : decode c_La_allResting 29 = .ok (.iconst 1, 1) := by decide +kernel
theorem d_La_allResting_30 : decode c_La_allResting 30 = .ok (.goto 4, 3) := by decide +kernel
theorem d_La_allResting_33 : decode c_La_allResting 33 = .ok (.iconst 0, 1) := by decide +kernel
theorem d_La_allResting_34 : decode c_La_allResting 34 = .ok (.iadd, 1) := by decide +kernel
theorem d_La_allResting_35 : decode c_La_allResting 35 = .ok (.istore_n 1, 1) := by decide +kernel
theorem d_La_allResting_36 : decode c_La_allResting 36 = .ok (.iinc 2 1, 3) := by decide +kernel
theorem d_La_allResting_39 : decode c_La_allResting 39 = .ok (.goto (-35), 3) := by decide +kernel
theorem d_La_allResting_42 : decode c_La_allResting 42 = .ok (.iload_n 1, 1) := by decide +kernel
theorem d_La_allResting_43 : decode c_La_allResting 43 = .ok (.ireturn, 1) := by decide +kernel
theorem d_La_follow_0 : decode c_La_follow 0 = .ok (.aload_n 1, 1) := by decide +kernel
theorem d_La_follow_1 : decode c_La_follow 1 = .ok (.iload_n 2, 1) := by decide +kernel
theorem d_La_follow_2 : decode c_La_follow 2 = .ok (.iconst 1, 1) := by decide +kernel
theorem d_La_follow_3 : decode c_La_follow 3 = .ok (.iadd, 1) := by decide +kernel
theorem d_La_follow_4 : decode c_La_follow 4 = .ok (.invokevirtual 73, 3) := by decide +kernel
theorem d_La_follow_7 : decode c_La_follow 7 = .ok (.istore_n 3, 1) := by decide +kernel
theorem d_La_follow_8 : decode c_La_follow 8 = .ok (.aload_n 1, 1) := by decide +kernel
theorem d_La_follow_9 : decode c_La_follow 9 = .ok (.getfield 79, 3) := by decide +kernel
theorem d_La_follow_12 : decode c_La_follow 12 = .ok (.iload_n 2, 1) := by decide +kernel
theorem d_La_follow_13 : decode c_La_follow 13 = .ok (.iaload, 1) := by decide +kernel
theorem d_La_follow_14 : decode c_La_follow 14 = .ok (.lookupswitch 86 #[(100, 61), (104, 42), (108, 73), (111, 49)], 42) := by decide +kernel
theorem d_La_follow_56 : decode c_La_follow 56 = .ok (.aload_n 0, 1) := by decide +kernel
theorem d_La_follow_57 : decode c_La_follow 57 = .ok (.aload_n 1, 1) := by decide +kernel
theorem d_La_follow_58 : decode c_La_follow 58 = .ok (.iload_n 2, 1) := by decide +kernel
theorem d_La_follow_59 : decode c_La_follow 59 = .ok (.invokevirtual 83, 3) := by decide +kernel
theorem d_La_follow_62 : decode c_La_follow 62 = .ok (.ireturn, 1) := by decide +kernel
theorem d_La_follow_63 : decode c_La_follow 63 = .ok (.aload_n 0, 1) := by decide +kernel
theorem d_La_follow_64 : decode c_La_follow 64 = .ok (.aload_n 1, 1) := by decide +kernel
theorem d_La_follow_65 : decode c_La_follow 65 = .ok (.iload_n 2, 1) := by decide +kernel
theorem d_La_follow_66 : decode c_La_follow 66 = .ok (.iconst 1, 1) := by decide +kernel
theorem d_La_follow_67 : decode c_La_follow 67 = .ok (.iadd, 1) := by decide +kernel
theorem d_La_follow_68 : decode c_La_follow 68 = .ok (.invokevirtual 87, 3) := by decide +kernel
theorem d_La_follow_71 : decode c_La_follow 71 = .ok (.invokevirtual 90, 3) := by decide +kernel
theorem d_La_follow_74 : decode c_La_follow 74 = .ok (.ireturn, 1) := by decide +kernel
theorem d_La_follow_75 : decode c_La_follow 75 = .ok (.aload_n 0, 1) := by decide +kernel
theorem d_La_follow_76 : decode c_La_follow 76 = .ok (.aload_n 1, 1) := by decide +kernel
theorem d_La_follow_77 : decode c_La_follow 77 = .ok (.iload_n 2, 1) := by decide +kernel
theorem d_La_follow_78 : decode c_La_follow 78 = .ok (.iconst 1, 1) := by decide +kernel
theorem d_La_follow_79 : decode c_La_follow 79 = .ok (.iadd, 1) := by decide +kernel
theorem d_La_follow_80 : decode c_La_follow 80 = .ok (.invokevirtual 87, 3) := by decide +kernel
theorem d_La_follow_83 : decode c_La_follow 83 = .ok (.invokevirtual 93, 3) := by decide +kernel
theorem d_La_follow_86 : decode c_La_follow 86 = .ok (.ireturn, 1) := by decide +kernel
theorem d_La_follow_87 : decode c_La_follow 87 = .ok (.aload_n 0, 1) := by decide +kernel
theorem d_La_follow_88 : decode c_La_follow 88 = .ok (.iload_n 3, 1) := by decide +kernel
theorem d_La_follow_89 : decode c_La_follow 89 = .ok (.aload_n 1, 1) := by decide +kernel
theorem d_La_follow_90 : decode c_La_follow 90 = .ok (.iload_n 2, 1) := by decide +kernel
theorem d_La_follow_91 : decode c_La_follow 91 = .ok (.iconst 2, 1) := by decide +kernel
theorem d_La_follow_92 : decode c_La_follow 92 = .ok (.iadd, 1) := by decide +kernel
theorem d_La_follow_93 : decode c_La_follow 93 = .ok (.invokevirtual 87, 3) := by decide +kernel
theorem d_La_follow_96 : decode c_La_follow 96 = .ok (.invokevirtual 96, 3) := by decide +kernel
theorem d_La_follow_99 : decode c_La_follow 99 = .ok (.ireturn, 1) := by decide +kernel
theorem d_La_follow_100 : decode c_La_follow 100 = .ok (.aload_n 1, 1) := by decide +kernel
theorem d_La_follow_101 : decode c_La_follow 101 = .ok (.iload_n 2, 1) := by decide +kernel
theorem d_La_follow_102 : decode c_La_follow 102 = .ok (.iconst 2, 1) := by decide +kernel
theorem d_La_follow_103 : decode c_La_follow 103 = .ok (.iadd, 1) := by decide +kernel
theorem d_La_follow_104 : decode c_La_follow 104 = .ok (.invokevirtual 87, 3) := by decide +kernel
theorem d_La_follow_107 : decode c_La_follow 107 = .ok (.istore 4, 2) := by decide +kernel
theorem d_La_follow_109 : decode c_La_follow 109 = .ok (.iload_n 3, 1) := by decide +kernel
theorem d_La_follow_110 : decode c_La_follow 110 = .ok (.aload_n 0, 1) := by decide +kernel
theorem d_La_follow_111 : decode c_La_follow 111 = .ok (.getfield 24, 3) := by decide +kernel
theorem d_La_follow_114 : decode c_La_follow 114 = .ok (.if_icmp .ge 11, 3) := by decide +kernel
theorem d_La_follow_117 : decode c_La_follow 117 = .ok (.iload 4, 2) := by decide +kernel
theorem d_La_follow_119 : decode c_La_follow 119 = .ok (.invokestatic 100, 3) := by decide +kernel
theorem d_La_follow_122 : decode c_La_follow 122 = .ok (.ifCond .ne 5, 3) := by decide +kernel
theorem d_La_follow_125 : decode c_La_follow 125 = .ok (.iconst 0, 1) := by decide +kernel
theorem d_La_follow_126 : decode c_La_follow 126 = .ok (.ireturn, 1) := by decide +kernel
theorem d_La_follow_127 : decode c_La_follow 127 = .ok (.aload_n 0, 1) := by decide +kernel
theorem d_La_follow_128 : decode c_La_follow 128 = .ok (.iload_n 3, 1) := by decide +kernel
theorem d_La_follow_129 : decode c_La_follow 129 = .ok (.iload 4, 2) := by decide +kernel
theorem d_La_follow_131 : decode c_La_follow 131 = .ok (.invokevirtual 103, 3) := by decide +kernel
theorem d_La_follow_134 : decode c_La_follow 134 = .ok (.pop, 1) := by decide +kernel
theorem d_La_follow_135 : decode c_La_follow 135 = .ok (.aload_n 0, 1) := by decide +kernel
theorem d_La_follow_136 : decode c_La_follow 136 = .ok (.iconst 0, 1) := by decide +kernel
theorem d_La_follow_137 : decode c_La_follow 137 = .ok (.invokevirtual 107, 3) := by decide +kernel
theorem d_La_follow_140 : decode c_La_follow 140 = .ok (.ireturn, 1) := by decide +kernel
theorem d_La_followHorse_0 : decode c_La_followHorse 0 = .ok (.aload_n 1, 1) := by decide +kernel
theorem d_La_followHorse_1 : decode c_La_followHorse 1 = .ok (.iload_n 2, 1) := by decide +kernel
theorem d_La_followHorse_2 : decode c_La_followHorse 2 = .ok (.iconst 1, 1) := by decide +kernel
theorem d_La_followHorse_3 : decode c_La_followHorse 3 = .ok (.iadd, 1) := by decide +kernel
theorem d_La_followHorse_4 : decode c_La_followHorse 4 = .ok (.invokevirtual 73, 3) := by decide +kernel
theorem d_La_followHorse_7 : decode c_La_followHorse 7 = .ok (.istore_n 3, 1) := by decide +kernel
theorem d_La_followHorse_8 : decode c_La_followHorse 8 = .ok (.aload_n 1, 1) := by decide +kernel
theorem d_La_followHorse_9 : decode c_La_followHorse 9 = .ok (.iload_n 2, 1) := by decide +kernel
theorem d_La_followHorse_10 : decode c_La_followHorse 10 = .ok (.iconst 3, 1) := by decide +kernel
theorem d_La_followHorse_11 : decode c_La_followHorse 11 = .ok (.iadd, 1) := by decide +kernel
theorem d_La_followHorse_12 : decode c_La_followHorse 12 = .ok (.invokevirtual 87, 3) := by decide +kernel
theorem d_La_followHorse_15 : decode c_La_followHorse 15 = .ok (.istore 4, 2) := by decide +kernel
theorem d_La_followHorse_17 : decode c_La_followHorse 17 = .ok (.aload_n 1, 1) := by decide +kernel
theorem d_La_followHorse_18 : decode c_La_followHorse 18 = .ok (.iload_n 2, 1) := by decide +kernel
theorem d_La_followHorse_19 : decode c_La_followHorse 19 = .ok (.iconst 5, 1) := by decide +kernel
theorem d_La_followHorse_20 : decode c_La_followHorse 20 = .ok (.iadd, 1) := by decide +kernel
theorem d_La_followHorse_21 : decode c_La_followHorse 21 = .ok (.invokevirtual 87, 3) := by decide +kernel
theorem d_La_followHorse_24 : decode c_La_followHorse 24 = .ok (.istore 5, 2) := by decide +kernel
theorem d_La_followHorse_26 : decode c_La_followHorse 26 = .ok (.iload_n 3, 1) := by decide +kernel
theorem d_La_followHorse_27 : decode c_La_followHorse 27 = .ok (.invokestatic 110, 3) := by decide +kernel
theorem d_La_followHorse_30 : decode c_La_followHorse 30 = .ok (.ifCond .eq 47, 3) := by decide +kernel
theorem d_La_followHorse_33 : decode c_La_followHorse 33 = .ok (.iload 4, 2) := by decide +kernel
theorem d_La_followHorse_35 : decode c_La_followHorse 35 = .ok (.invokestatic 100, 3) := by decide +kernel
theorem d_La_followHorse_38 : decode c_La_followHorse 38 = .ok (.ifCond .eq 39, 3) := by decide +kernel
theorem d_La_followHorse_41 : decode c_La_followHorse 41 = .ok (.iload 5, 2) := by decide +kernel
theorem d_La_followHorse_43 : decode c_La_followHorse 43 = .ok (.invokestatic 100, 3) := by decide +kernel
theorem d_La_followHorse_46 : decode c_La_followHorse 46 = .ok (.ifCond .eq 31, 3) := by decide +kernel
theorem d_La_followHorse_49 : decode c_La_followHorse 49 = .ok (.aload_n 0, 1) := by decide +kernel
theorem d_La_followHorse_50 : decode c_La_followHorse 50 = .ok (.aload_n 0, 1) := by decide +kernel
theorem d_La_followHorse_51 : decode c_La_followHorse 51 = .ok (.getfield 9, 3) := by decide +kernel
theorem d_La_followHorse_54 : decode c_La_followHorse 54 = .ok (.iload_n 3, 1) := by decide +kernel
theorem d_La_followHorse_55 : decode c_La_followHorse 55 = .ok (.aaload, 1) := by decide +kernel
theorem d_La_followHorse_56 : decode c_La_followHorse 56 = .ok (.aload_n 1, 1) := by decide +kernel
theorem d_La_followHorse_57 : decode c_La_followHorse 57 = .ok (.iload_n 2, 1) := by decide +kernel
theorem d_La_followHorse_58 : decode c_La_followHorse 58 = .ok (.iconst 2, 1) := by decide +kernel
theorem d_La_followHorse_59 : decode c_La_followHorse 59 = .ok (.iadd, 1) := by decide +kernel
theorem d_La_followHorse_60 : decode c_La_followHorse 60 = .ok (.invokevirtual 73, 3) := by decide +kernel
theorem d_La_followHorse_63 : decode c_La_followHorse 63 = .ok (.iload 4, 2) := by decide +kernel
theorem d_La_followHorse_65 : decode c_La_followHorse 65 = .ok (.iload 5, 2) := by decide +kernel
theorem d_La_followHorse_67 : decode c_La_followHorse 67 = .ok (.invokevirtual 113, 3) := by decide +kernel
theorem d_La_followHorse_70 : decode c_La_followHorse 70 = .ok (.ifCond .eq 7, 3) := by decide +kernel
theorem d_La_followHorse_73 : decode c_La_followHorse 73 = .ok (.iconst 1, 1) := by decide +kernel
theorem d_La_followHorse_74 : decode c_La_followHorse 74 = .ok (.goto 4, 3) := by decide +kernel
theorem d_La_followHorse_77 : decode c_La_followHorse 77 = .ok (.iconst 0, 1) := by decide +kernel
theorem d_La_followHorse_78 : decode c_La_followHorse 78 = .ok (.ireturn, 1) := by decide +kernel
theorem d_La_followOats_0 : decode c_La_followOats 0 = .ok (.iload_n 1, 1) := by decide +kernel
theorem d_La_followOats_1 : decode c_La_followOats 1 = .ok (.invokestatic 100, 3) := by decide +kernel
theorem d_La_followOats_4 : decode c_La_followOats 4 = .ok (.ifCond .ne 5, 3) := by decide +kernel
theorem d_La_followOats_7 : decode c_La_followOats 7 = .ok (.iconst 0, 1) := by decide +kernel
theorem d_La_followOats_8 : decode c_La_followOats 8 = .ok (.ireturn, 1) := by decide +kernel
theorem d_La_followOats_9 : decode c_La_followOats 9 = .ok (.aload_n 0, 1) := by decide +kernel
theorem d_La_followOats_10 : decode c_La_followOats 10 = .ok (.iload_n 1, 1) := by decide +kernel
theorem d_La_followOats_11 : decode c_La_followOats 11 = .ok (.putfield 28, 3) := by decide +kernel
theorem d_La_followOats_14 : decode c_La_followOats 14 = .ok (.iconst 1, 1) := by decide +kernel
theorem d_La_followOats_15 : decode c_La_followOats 15 = .ok (.ireturn, 1) := by decide +kernel
theorem d_La_followDays_0 : decode c_La_followDays 0 = .ok (.iload_n 1, 1) := by decide +kernel
theorem d_La_followDays_1 : decode c_La_followDays 1 = .ok (.iconst 1, 1) := by decide +kernel
theorem d_La_followDays_2 : decode c_La_followDays 2 = .ok (.bipush 60, 2) := by decide +kernel
theorem d_La_followDays_4 : decode c_La_followDays 4 = .ok (.invokestatic 117, 3) := by decide +kernel
theorem d_La_followDays_7 : decode c_La_followDays 7 = .ok (.ifCond .eq 11, 3) := by decide +kernel
theorem d_La_followDays_10 : decode c_La_followDays 10 = .ok (.aload_n 0, 1) := by decide +kernel
theorem d_La_followDays_11 : decode c_La_followDays 11 = .ok (.iload_n 1, 1) := by decide +kernel
theorem d_La_followDays_12 : decode c_La_followDays 12 = .ok (.invokevirtual 107, 3) := by decide +kernel
theorem d_La_followDays_15 : decode c_La_followDays 15 = .ok (.ifCond .ne 5, 3) := by decide +kernel
theorem d_La_followDays_18 : decode c_La_followDays 18 = .ok (.iconst 0, 1) := by decide +kernel
theorem d_La_followDays_19 : decode c_La_followDays 19 = .ok (.ireturn, 1) := by decide +kernel
theorem d_La_followDays_20 : decode c_La_followDays 20 = .ok (.aload_n 0, 1) := by decide +kernel
theorem d_La_followDays_21 : decode c_La_followDays 21 = .ok (.iload_n 1, 1) := by decide +kernel
theorem d_La_followDays_22 : decode c_La_followDays 22 = .ok (.invokevirtual 62, 3) := by decide +kernel
theorem d_La_followDays_25 : decode c_La_followDays 25 = .ok (.iconst 1, 1) := by decide +kernel
theorem d_La_followDays_26 : decode c_La_followDays 26 = .ok (.ireturn, 1) := by decide +kernel
theorem d_La_followLonging_0 : decode c_La_followLonging 0 = .ok (.iload_n 1, 1) := by decide +kernel
theorem d_La_followLonging_1 : decode c_La_followLonging 1 = .ok (.aload_n 0, 1) := by decide +kernel
theorem d_La_followLonging_2 : decode c_La_followLonging 2 = .ok (.getfield 24, 3) := by decide +kernel
theorem d_La_followLonging_5 : decode c_La_followLonging 5 = .ok (.if_icmp .lt 5, 3) := by decide +kernel
theorem d_La_followLonging_8 : decode c_La_followLonging 8 = .ok (.iconst 0, 1) := by decide +kernel
theorem d_La_followLonging_9 : decode c_La_followLonging 9 = .ok (.ireturn, 1) := by decide +kernel
theorem d_La_followLonging_10 : decode c_La_followLonging 10 = .ok (.aload_n 0, 1) := by decide +kernel
theorem d_La_followLonging_11 : decode c_La_followLonging 11 = .ok (.getfield 17, 3) := by decide +kernel
theorem d_La_followLonging_14 : decode c_La_followLonging 14 = .ok (.iload_n 1, 1) := by decide +kernel
theorem d_La_followLonging_15 : decode c_La_followLonging 15 = .ok (.aaload, 1) := by decide +kernel
theorem d_La_followLonging_16 : decode c_La_followLonging 16 = .ok (.iload_n 2, 1) := by decide +kernel
theorem d_La_followLonging_17 : decode c_La_followLonging 17 = .ok (.putfield 51, 3) := by decide +kernel
theorem d_La_followLonging_20 : decode c_La_followLonging 20 = .ok (.iconst 1, 1) := by decide +kernel
theorem d_La_followLonging_21 : decode c_La_followLonging 21 = .ok (.ireturn, 1) := by decide +kernel
theorem d_Ma_init_0 : decode c_Ma_init 0 = .ok (.aload_n 0, 1) := by decide +kernel
theorem d_Ma_init_1 : decode c_Ma_init 1 = .ok (.invokespecial 3, 3) := by decide +kernel
theorem d_Ma_init_4 : decode c_Ma_init 4 = .ok (.return_, 1) := by decide +kernel
theorem d_Ma_number_0 : decode c_Ma_number 0 = .ok (.bipush 6, 2) := by decide +kernel
theorem d_Ma_number_2 : decode c_Ma_number 2 = .ok (.ireturn, 1) := by decide +kernel
theorem d_Ma_goal_0 : decode c_Ma_goal 0 = .ok (.bipush 20, 2) := by decide +kernel
theorem d_Ma_goal_2 : decode c_Ma_goal 2 = .ok (.iload_n 1, 1) := by decide +kernel
theorem d_Ma_goal_3 : decode c_Ma_goal 3 = .ok (.isub, 1) := by decide +kernel
theorem d_Ma_goal_4 : decode c_Ma_goal 4 = .ok (.istore 4, 2) := by decide +kernel
theorem d_Ma_goal_6 : decode c_Ma_goal 6 = .ok (.iload 4, 2) := by decide +kernel
theorem d_Ma_goal_8 : decode c_Ma_goal 8 = .ok (.iload_n 2, 1) := by decide +kernel
theorem d_Ma_goal_9 : decode c_Ma_goal 9 = .ok (.isub, 1) := by decide +kernel
theorem d_Ma_goal_10 : decode c_Ma_goal 10 = .ok (.invokestatic 9, 3) := by decide +kernel
theorem d_Ma_goal_13 : decode c_Ma_goal 13 = .ok (.iload_n 1, 1) := by decide +kernel
theorem d_Ma_goal_14 : decode c_Ma_goal 14 = .ok (.iload_n 2, 1) := by decide +kernel
theorem d_Ma_goal_15 : decode c_Ma_goal 15 = .ok (.isub, 1) := by decide +kernel
theorem d_Ma_goal_16 : decode c_Ma_goal 16 = .ok (.invokestatic 9, 3) := by decide +kernel
theorem d_Ma_goal_19 : decode c_Ma_goal 19 = .ok (.if_icmp .le 8, 3) := by decide +kernel
theorem d_Ma_goal_22 : decode c_Ma_goal 22 = .ok (.iload 4, 2) := by decide +kernel
theorem d_Ma_goal_24 : decode c_Ma_goal 24 = .ok (.goto 4, 3) := by decide +kernel
theorem d_Ma_goal_27 : decode c_Ma_goal 27 = .ok (.iload_n 1, 1) := by decide +kernel
theorem d_Ma_goal_28 : decode c_Ma_goal 28 = .ok (.ireturn, 1) := by decide +kernel
theorem d_Ma_pines_0 : decode c_Ma_pines 0 = .ok (.aload_n 0, 1) := by decide +kernel
theorem d_Ma_pines_1 : decode c_Ma_pines 1 = .ok (.iload_n 1, 1) := by decide +kernel
theorem d_Ma_pines_2 : decode c_Ma_pines 2 = .ok (.iload_n 2, 1) := by decide +kernel
theorem d_Ma_pines_3 : decode c_Ma_pines 3 = .ok (.invokespecial 15, 3) := by decide +kernel
theorem d_Ma_pines_6 : decode c_Ma_pines 6 = .ok (.iconst 1, 1) := by decide +kernel
theorem d_Ma_pines_7 : decode c_Ma_pines 7 = .ok (.iadd, 1) := by decide +kernel
theorem d_Ma_pines_8 : decode c_Ma_pines 8 = .ok (.ireturn, 1) := by decide +kernel
theorem d_Ma_pace_0 : decode c_Ma_pace 0 = .ok (.aload_n 0, 1) := by decide +kernel
theorem d_Ma_pace_1 : decode c_Ma_pace 1 = .ok (.iload_n 1, 1) := by decide +kernel
theorem d_Ma_pace_2 : decode c_Ma_pace 2 = .ok (.iload_n 2, 1) := by decide +kernel
theorem d_Ma_pace_3 : decode c_Ma_pace 3 = .ok (.invokespecial 19, 3) := by decide +kernel
theorem d_Ma_pace_6 : decode c_Ma_pace 6 = .ok (.iload_n 1, 1) := by decide +kernel
theorem d_Ma_pace_7 : decode c_Ma_pace 7 = .ok (.iconst 3, 1) := by decide +kernel
theorem d_Ma_pace_8 : decode c_Ma_pace 8 = .ok (.idiv, 1) := by decide +kernel
theorem d_Ma_pace_9 : decode c_Ma_pace 9 = .ok (.iadd, 1) := by decide +kernel
theorem d_Ma_pace_10 : decode c_Ma_pace 10 = .ok (.ireturn, 1) := by decide +kernel
theorem d_Ma_walk_0 : decode c_Ma_walk 0 = .ok (.iconst 2, 1) := by decide +kernel
theorem d_Ma_walk_1 : decode c_Ma_walk 1 = .ok (.ireturn, 1) := by decide +kernel
theorem d_Ma_price_0 : decode c_Ma_price 0 = .ok (.aload_n 0, 1) := by decide +kernel
theorem d_Ma_price_1 : decode c_Ma_price 1 = .ok (.iload_n 1, 1) := by decide +kernel
theorem d_Ma_price_2 : decode c_Ma_price 2 = .ok (.invokespecial 22, 3) := by decide +kernel
theorem d_Ma_price_5 : decode c_Ma_price 5 = .ok (.iload_n 1, 1) := by decide +kernel
theorem d_Ma_price_6 : decode c_Ma_price 6 = .ok (.iadd, 1) := by decide +kernel
theorem d_Ma_price_7 : decode c_Ma_price 7 = .ok (.ireturn, 1) := by decide +kernel
theorem d_Ma_fail_0 : decode c_Ma_fail 0 = .ok (.iload_n 1, 1) := by decide +kernel
theorem d_Ma_fail_1 : decode c_Ma_fail 1 = .ok (.ifCond .eq 13, 3) := by decide +kernel
theorem d_Ma_fail_4 : decode c_Ma_fail 4 = .ok (.new 25, 3) := by decide +kernel
theorem d_Ma_fail_7 : decode c_Ma_fail 7 = .ok (.dup, 1) := by decide +kernel
theorem d_Ma_fail_8 : decode c_Ma_fail 8 = .ok (.ldc 27, 2) := by decide +kernel
theorem d_Ma_fail_10 : decode c_Ma_fail 10 = .ok (.invokespecial 29, 3) := by decide +kernel
theorem d_Ma_fail_13 : decode c_Ma_fail 13 = .ok (.athrow, 1) := by decide +kernel
theorem d_Ma_fail_14 : decode c_Ma_fail 14 = .ok (.return_, 1) := by decide +kernel
theorem d_Sh_init_0 : decode c_Sh_init 0 = .ok (.aload_n 0, 1) := by decide +kernel
theorem d_Sh_init_1 : decode c_Sh_init 1 = .ok (.invokespecial 3, 3) := by decide +kernel
theorem d_Sh_init_4 : decode c_Sh_init 4 = .ok (.aload_n 0, 1) := by decide +kernel
theorem d_Sh_init_5 : decode c_Sh_init 5 = .ok (.iconst 0, 1) := by decide +kernel
theorem d_Sh_init_6 : decode c_Sh_init 6 = .ok (.putfield 9, 3) := by decide +kernel
theorem d_Sh_init_9 : decode c_Sh_init 9 = .ok (.aload_n 0, 1) := by decide +kernel
theorem d_Sh_init_10 : decode c_Sh_init 10 = .ok (.aload_n 1, 1) := by decide +kernel
theorem d_Sh_init_11 : decode c_Sh_init 11 = .ok (.putfield 15, 3) := by decide +kernel
theorem d_Sh_init_14 : decode c_Sh_init 14 = .ok (.aload_n 0, 1) := by decide +kernel
theorem d_Sh_init_15 : decode c_Sh_init 15 = .ok (.bipush 100, 2) := by decide +kernel
theorem d_Sh_init_17 : decode c_Sh_init 17 = .ok (.newarray .int, 2) := by decide +kernel
theorem d_Sh_init_19 : decode c_Sh_init 19 = .ok (.putfield 19, 3) := by decide +kernel
theorem d_Sh_init_22 : decode c_Sh_init 22 = .ok (.return_, 1) := by decide +kernel
theorem d_Sh_getRow_0 : decode c_Sh_getRow 0 = .ok (.aload_n 0, 1) := by decide +kernel
theorem d_Sh_getRow_1 : decode c_Sh_getRow 1 = .ok (.iconst 2, 1) := by decide +kernel
theorem d_Sh_getRow_2 : decode c_Sh_getRow 2 = .ok (.putfield 9, 3) := by decide +kernel
theorem d_Sh_getRow_5 : decode c_Sh_getRow 5 = .ok (.aload_n 0, 1) := by decide +kernel
theorem d_Sh_getRow_6 : decode c_Sh_getRow 6 = .ok (.iload_n 1, 1) := by decide +kernel
theorem d_Sh_getRow_7 : decode c_Sh_getRow 7 = .ok (.putfield 23, 3) := by decide +kernel
theorem d_Sh_getRow_10 : decode c_Sh_getRow 10 = .ok (.aload_n 0, 1) := by decide +kernel
theorem d_Sh_getRow_11 : decode c_Sh_getRow 11 = .ok (.iload_n 2, 1) := by decide +kernel
theorem d_Sh_getRow_12 : decode c_Sh_getRow 12 = .ok (.putfield 26, 3) := by decide +kernel
theorem d_Sh_getRow_15 : decode c_Sh_getRow 15 = .ok (.iconst 0, 1) := by decide +kernel
theorem d_Sh_getRow_16 : decode c_Sh_getRow 16 = .ok (.istore_n 3, 1) := by decide +kernel
theorem d_Sh_getRow_17 : decode c_Sh_getRow 17 = .ok (.iload_n 3, 1) := by decide +kernel
theorem d_Sh_getRow_18 : decode c_Sh_getRow 18 = .ok (.bipush 100, 2) := by decide +kernel
theorem d_Sh_getRow_20 : decode c_Sh_getRow 20 = .ok (.if_icmp .ge 16, 3) := by decide +kernel
theorem d_Sh_getRow_23 : decode c_Sh_getRow 23 = .ok (.aload_n 0, 1) := by decide +kernel
theorem d_Sh_getRow_24 : decode c_Sh_getRow 24 = .ok (.getfield 19, 3) := by decide +kernel
theorem d_Sh_getRow_27 : decode c_Sh_getRow 27 = .ok (.iload_n 3, 1) := by decide +kernel
theorem d_Sh_getRow_28 : decode c_Sh_getRow 28 = .ok (.iconst 0, 1) := by decide +kernel
theorem d_Sh_getRow_29 : decode c_Sh_getRow 29 = .ok (.iastore, 1) := by decide +kernel
theorem d_Sh_getRow_30 : decode c_Sh_getRow 30 = .ok (.iinc 3 1, 3) := by decide +kernel
theorem d_Sh_getRow_33 : decode c_Sh_getRow 33 = .ok (.goto (-16), 3) := by decide +kernel
theorem d_Sh_getRow_36 : decode c_Sh_getRow 36 = .ok (.return_, 1) := by decide +kernel
theorem d_Sh_set_0 : decode c_Sh_set 0 = .ok (.aload_n 0, 1) := by decide +kernel
theorem d_Sh_set_1 : decode c_Sh_set 1 = .ok (.getfield 23, 3) := by decide +kernel
theorem d_Sh_set_4 : decode c_Sh_set 4 = .ok (.ifCond .ne 14, 3) := by decide +kernel
theorem d_Sh_set_7 : decode c_Sh_set 7 = .ok (.aload_n 0, 1) := by decide +kernel
theorem d_Sh_set_8 : decode c_Sh_set 8 = .ok (.getfield 19, 3) := by decide +kernel
theorem d_Sh_set_11 : decode c_Sh_set 11 = .ok (.iload_n 1, 1) := by decide +kernel
theorem d_Sh_set_12 : decode c_Sh_set 12 = .ok (.iload_n 2, 1) := by decide +kernel
theorem d_Sh_set_13 : decode c_Sh_set 13 = .ok (.i2b, 1) := by decide +kernel
theorem d_Sh_set_14 : decode c_Sh_set 14 = .ok (.iastore, 1) := by decide +kernel
theorem d_Sh_set_15 : decode c_Sh_set 15 = .ok (.goto 29, 3) := by decide +kernel
theorem d_Sh_set_18 : decode c_Sh_set 18 = .ok (.aload_n 0, 1) := by decide +kernel
theorem d_Sh_set_19 : decode c_Sh_set 19 = .ok (.getfield 23, 3) := by decide +kernel
theorem d_Sh_set_22 : decode c_Sh_set 22 = .ok (.iconst 1, 1) := by decide +kernel
theorem d_Sh_set_23 : decode c_Sh_set 23 = .ok (.if_icmp .ne 14, 3) := by decide +kernel
theorem d_Sh_set_26 : decode c_Sh_set 26 = .ok (.aload_n 0, 1) := by decide +kernel
theorem d_Sh_set_27 : decode c_Sh_set 27 = .ok (.getfield 19, 3) := by decide +kernel
theorem d_Sh_set_30 : decode c_Sh_set 30 = .ok (.iload_n 1, 1) := by decide +kernel
theorem d_Sh_set_31 : decode c_Sh_set 31 = .ok (.iload_n 2, 1) := by decide +kernel
theorem d_Sh_set_32 : decode c_Sh_set 32 = .ok (.i2s, 1) := by decide +kernel
theorem d_Sh_set_33 : decode c_Sh_set 33 = .ok (.iastore, 1) := by decide +kernel
theorem d_Sh_set_34 : decode c_Sh_set 34 = .ok (.goto 10, 3) := by decide +kernel
theorem d_Sh_set_37 : decode c_Sh_set 37 = .ok (.aload_n 0, 1) := by decide +kernel
theorem d_Sh_set_38 : decode c_Sh_set 38 = .ok (.getfield 19, 3) := by decide +kernel
theorem d_Sh_set_41 : decode c_Sh_set 41 = .ok (.iload_n 1, 1) := by decide +kernel
theorem d_Sh_set_42 : decode c_Sh_set 42 = .ok (.iload_n 2, 1) := by decide +kernel
theorem d_Sh_set_43 : decode c_Sh_set 43 = .ok (.iastore, 1) := by decide +kernel
theorem d_Sh_set_44 : decode c_Sh_set 44 = .ok (.return_, 1) := by decide +kernel
theorem d_Sh_hasPlaces_0 : decode c_Sh_hasPlaces 0 = .ok (.iload_n 2, 1) := by decide +kernel
theorem d_Sh_hasPlaces_1 : decode c_Sh_hasPlaces 1 = .ok (.ifCond .lt 21, 3) := by decide +kernel
theorem d_Sh_hasPlaces_4 : decode c_Sh_hasPlaces 4 = .ok (.iload_n 1, 1) := by decide +kernel
theorem d_Sh_hasPlaces_5 : decode c_Sh_hasPlaces 5 = .ok (.ifCond .lt 17, 3) := by decide +kernel
theorem d_Sh_hasPlaces_8 : decode c_Sh_hasPlaces 8 = .ok (.iload_n 1, 1) := by decide +kernel
theorem d_Sh_hasPlaces_9 : decode c_Sh_hasPlaces 9 = .ok (.aload_n 0, 1) := by decide +kernel
theorem d_Sh_hasPlaces_10 : decode c_Sh_hasPlaces 10 = .ok (.getfield 26, 3) := by decide +kernel
theorem d_Sh_hasPlaces_13 : decode c_Sh_hasPlaces 13 = .ok (.iload_n 2, 1) := by decide +kernel
theorem d_Sh_hasPlaces_14 : decode c_Sh_hasPlaces 14 = .ok (.isub, 1) := by decide +kernel
theorem d_Sh_hasPlaces_15 : decode c_Sh_hasPlaces 15 = .ok (.if_icmp .gt 7, 3) := by decide +kernel
theorem d_Sh_hasPlaces_18 : decode c_Sh_hasPlaces 18 = .ok (.iconst 1, 1) := by decide +kernel
theorem d_Sh_hasPlaces_19 : decode c_Sh_hasPlaces 19 = .ok (.goto 4, 3) := by decide +kernel
theorem d_Sh_hasPlaces_22 : decode c_Sh_hasPlaces 22 = .ok (.iconst 0, 1) := by decide +kernel
theorem d_Sh_hasPlaces_23 : decode c_Sh_hasPlaces 23 = .ok (.ireturn, 1) := by decide +kernel
theorem d_Sh_tells_0 : decode c_Sh_tells 0 = .ok (.aload_n 0, 1) := by decide +kernel
theorem d_Sh_tells_1 : decode c_Sh_tells 1 = .ok (.getfield 19, 3) := by decide +kernel
theorem d_Sh_tells_4 : decode c_Sh_tells 4 = .ok (.iload_n 1, 1) := by decide +kernel
theorem d_Sh_tells_5 : decode c_Sh_tells 5 = .ok (.iaload, 1) := by decide +kernel
theorem d_Sh_tells_6 : decode c_Sh_tells 6 = .ok (.iload_n 2, 1) := by decide +kernel
theorem d_Sh_tells_7 : decode c_Sh_tells 7 = .ok (.if_icmp .eq 16, 3) := by decide +kernel
theorem d_Sh_tells_10 : decode c_Sh_tells 10 = .ok (.aload_n 0, 1) := by decide +kernel
theorem d_Sh_tells_11 : decode c_Sh_tells 11 = .ok (.getfield 19, 3) := by decide +kernel
theorem d_Sh_tells_14 : decode c_Sh_tells 14 = .ok (.iload_n 1, 1) := by decide +kernel
theorem d_Sh_tells_15 : decode c_Sh_tells 15 = .ok (.iaload, 1) := by decide +kernel
theorem d_Sh_tells_16 : decode c_Sh_tells 16 = .ok (.aload_n 0, 1) := by decide +kernel
theorem d_Sh_tells_17 : decode c_Sh_tells 17 = .ok (.invokevirtual 29, 3) := by decide +kernel
theorem d_Sh_tells_20 : decode c_Sh_tells 20 = .ok (.if_icmp .ne 7, 3) := by decide +kernel
theorem d_Sh_tells_23 : decode c_Sh_tells 23 = .ok (.iconst 1, 1) := by decide +kernel
theorem d_Sh_tells_24 : decode c_Sh_tells 24 = .ok (.goto 4, 3) := by decide +kernel
theorem d_Sh_tells_27 : decode c_Sh_tells 27 = .ok (.iconst 0, 1) := by decide +kernel
theorem d_Sh_tells_28 : decode c_Sh_tells 28 = .ok (.ireturn, 1) := by decide +kernel
theorem d_Sh_leastOfSort_0 : decode c_Sh_leastOfSort 0 = .ok (.aload_n 0, 1) := by decide +kernel
theorem d_Sh_leastOfSort_1 : decode c_Sh_leastOfSort 1 = .ok (.getfield 23, 3) := by decide +kernel
theorem d_Sh_leastOfSort_4 : decode c_Sh_leastOfSort 4 = .ok (.ifCond .ne 6, 3) := by decide +kernel
theorem d_Sh_leastOfSort_7 : decode c_Sh_leastOfSort 7 = .ok (.bipush (-128), 2) := by decide +kernel
theorem d_Sh_leastOfSort_9 : decode c_Sh_leastOfSort 9 = .ok (.ireturn, 1) := by decide +kernel
theorem d_Sh_leastOfSort_10 : decode c_Sh_leastOfSort 10 = .ok (.aload_n 0, 1) := by decide +kernel
theorem d_Sh_leastOfSort_11 : decode c_Sh_leastOfSort 11 = .ok (.getfield 23, 3) := by decide +kernel
theorem d_Sh_leastOfSort_14 : decode c_Sh_leastOfSort 14 = .ok (.iconst 1, 1) := by decide +kernel
theorem d_Sh_leastOfSort_15 : decode c_Sh_leastOfSort 15 = .ok (.if_icmp .ne 9, 3) := by decide +kernel
theorem d_Sh_leastOfSort_18 : decode c_Sh_leastOfSort 18 = .ok (.sipush (-32768), 3) := by decide +kernel
theorem d_Sh_leastOfSort_21 : decode c_Sh_leastOfSort 21 = .ok (.goto 5, 3) := by decide +kernel
theorem d_Sh_leastOfSort_24 : decode c_Sh_leastOfSort 24 = .ok (.ldc 33, 2) := by decide +kernel
theorem d_Sh_leastOfSort_26 : decode c_Sh_leastOfSort 26 = .ok (.ireturn, 1) := by decide +kernel
theorem d_Sh_digit_0 : decode c_Sh_digit 0 = .ok (.aload_n 0, 1) := by decide +kernel
theorem d_Sh_digit_1 : decode c_Sh_digit 1 = .ok (.getfield 19, 3) := by decide +kernel
theorem d_Sh_digit_4 : decode c_Sh_digit 4 = .ok (.iload_n 1, 1) := by decide +kernel
theorem d_Sh_digit_5 : decode c_Sh_digit 5 = .ok (.iaload, 1) := by decide +kernel
theorem d_Sh_digit_6 : decode c_Sh_digit 6 = .ok (.bipush 48, 2) := by decide +kernel
theorem d_Sh_digit_8 : decode c_Sh_digit 8 = .ok (.isub, 1) := by decide +kernel
theorem d_Sh_digit_9 : decode c_Sh_digit 9 = .ok (.ireturn, 1) := by decide +kernel
theorem d_Sh_number_0 : decode c_Sh_number 0 = .ok (.bipush 10, 2) := by decide +kernel
theorem d_Sh_number_2 : decode c_Sh_number 2 = .ok (.aload_n 0, 1) := by decide +kernel
theorem d_Sh_number_3 : decode c_Sh_number 3 = .ok (.iload_n 1, 1) := by decide +kernel
theorem d_Sh_number_4 : decode c_Sh_number 4 = .ok (.invokevirtual 34, 3) := by decide +kernel
theorem d_Sh_number_7 : decode c_Sh_number 7 = .ok (.imul, 1) := by decide +kernel
theorem d_Sh_number_8 : decode c_Sh_number 8 = .ok (.aload_n 0, 1) := by decide +kernel
theorem d_Sh_number_9 : decode c_Sh_number 9 = .ok (.iload_n 1, 1) := by decide +kernel
theorem d_Sh_number_10 : decode c_Sh_number 10 = .ok (.iconst 1, 1) := by decide +kernel
theorem d_Sh_number_11 : decode c_Sh_number 11 = .ok (.iadd, 1) := by decide +kernel
theorem d_Sh_number_12 : decode c_Sh_number 12 = .ok (.invokevirtual 34, 3) := by decide +kernel
theorem d_Sh_number_15 : decode c_Sh_number 15 = .ok (.iadd, 1) := by decide +kernel
theorem d_Sh_number_16 : decode c_Sh_number 16 = .ok (.ireturn, 1) := by decide +kernel
theorem d_St_init_0 : decode c_St_init 0 = .ok (.aload_n 0, 1) := by decide +kernel
theorem d_St_init_1 : decode c_St_init 1 = .ok (.invokespecial 3, 3) := by decide +kernel
theorem d_St_init_4 : decode c_St_init 4 = .ok (.aload_n 0, 1) := by decide +kernel
theorem d_St_init_5 : decode c_St_init 5 = .ok (.aload_n 1, 1) := by decide +kernel
theorem d_St_init_6 : decode c_St_init 6 = .ok (.putfield 9, 3) := by decide +kernel
theorem d_St_init_9 : decode c_St_init 9 = .ok (.return_, 1) := by decide +kernel
theorem d_St_become_0 : decode c_St_become 0 = .ok (.aload_n 0, 1) := by decide +kernel
theorem d_St_become_1 : decode c_St_become 1 = .ok (.aload_n 1, 1) := by decide +kernel
theorem d_St_become_2 : decode c_St_become 2 = .ok (.getfield 9, 3) := by decide +kernel
theorem d_St_become_5 : decode c_St_become 5 = .ok (.putfield 9, 3) := by decide +kernel
theorem d_St_become_8 : decode c_St_become 8 = .ok (.aload_n 0, 1) := by decide +kernel
theorem d_St_become_9 : decode c_St_become 9 = .ok (.aload_n 1, 1) := by decide +kernel
theorem d_St_become_10 : decode c_St_become 10 = .ok (.getfield 15, 3) := by decide +kernel
theorem d_St_become_13 : decode c_St_become 13 = .ok (.putfield 15, 3) := by decide +kernel
theorem d_St_become_16 : decode c_St_become 16 = .ok (.aload_n 0, 1) := by decide +kernel
theorem d_St_become_17 : decode c_St_become 17 = .ok (.aload_n 1, 1) := by decide +kernel
theorem d_St_become_18 : decode c_St_become 18 = .ok (.getfield 19, 3) := by decide +kernel
theorem d_St_become_21 : decode c_St_become 21 = .ok (.putfield 19, 3) := by decide +kernel
theorem d_St_become_24 : decode c_St_become 24 = .ok (.aload_n 0, 1) := by decide +kernel
theorem d_St_become_25 : decode c_St_become 25 = .ok (.aload_n 1, 1) := by decide +kernel
theorem d_St_become_26 : decode c_St_become 26 = .ok (.getfield 22, 3) := by decide +kernel
theorem d_St_become_29 : decode c_St_become 29 = .ok (.putfield 22, 3) := by decide +kernel
theorem d_St_become_32 : decode c_St_become 32 = .ok (.aload_n 0, 1) := by decide +kernel
theorem d_St_become_33 : decode c_St_become 33 = .ok (.aload_n 1, 1) := by decide +kernel
theorem d_St_become_34 : decode c_St_become 34 = .ok (.getfield 25, 3) := by decide +kernel
theorem d_St_become_37 : decode c_St_become 37 = .ok (.putfield 25, 3) := by decide +kernel
theorem d_St_become_40 : decode c_St_become 40 = .ok (.return_, 1) := by decide +kernel
theorem d_St_goal_0 : decode c_St_goal 0 = .ok (.aload_n 0, 1) := by decide +kernel
theorem d_St_goal_1 : decode c_St_goal 1 = .ok (.getfield 9, 3) := by decide +kernel
theorem d_St_goal_4 : decode c_St_goal 4 = .ok (.aload_n 0, 1) := by decide +kernel
theorem d_St_goal_5 : decode c_St_goal 5 = .ok (.getfield 19, 3) := by decide +kernel
theorem d_St_goal_8 : decode c_St_goal 8 = .ok (.aload_n 0, 1) := by decide +kernel
theorem d_St_goal_9 : decode c_St_goal 9 = .ok (.getfield 22, 3) := by decide +kernel
theorem d_St_goal_12 : decode c_St_goal 12 = .ok (.iload_n 1, 1) := by decide +kernel
theorem d_St_goal_13 : decode c_St_goal 13 = .ok (.invokevirtual 28, 3) := by decide +kernel
theorem d_St_goal_16 : decode c_St_goal 16 = .ok (.ireturn, 1) := by decide +kernel
theorem d_St_pace_0 : decode c_St_pace 0 = .ok (.aload_n 0, 1) := by decide +kernel
theorem d_St_pace_1 : decode c_St_pace 1 = .ok (.getfield 9, 3) := by decide +kernel
theorem d_St_pace_4 : decode c_St_pace 4 = .ok (.aload_n 0, 1) := by decide +kernel
theorem d_St_pace_5 : decode c_St_pace 5 = .ok (.getfield 15, 3) := by decide +kernel
theorem d_St_pace_8 : decode c_St_pace 8 = .ok (.aload_n 0, 1) := by decide +kernel
theorem d_St_pace_9 : decode c_St_pace 9 = .ok (.getfield 25, 3) := by decide +kernel
theorem d_St_pace_12 : decode c_St_pace 12 = .ok (.invokevirtual 34, 3) := by decide +kernel
theorem d_St_pace_15 : decode c_St_pace 15 = .ok (.ireturn, 1) := by decide +kernel
theorem d_St_rests_0 : decode c_St_rests 0 = .ok (.aload_n 0, 1) := by decide +kernel
theorem d_St_rests_1 : decode c_St_rests 1 = .ok (.getfield 22, 3) := by decide +kernel
theorem d_St_rests_4 : decode c_St_rests 4 = .ok (.aload_n 0, 1) := by decide +kernel
theorem d_St_rests_5 : decode c_St_rests 5 = .ok (.iload_n 1, 1) := by decide +kernel
theorem d_St_rests_6 : decode c_St_rests 6 = .ok (.invokevirtual 38, 3) := by decide +kernel
theorem d_St_rests_9 : decode c_St_rests 9 = .ok (.if_icmp .ne 7, 3) := by decide +kernel
theorem d_St_rests_12 : decode c_St_rests 12 = .ok (.iconst 1, 1) := by decide +kernel
theorem d_St_rests_13 : decode c_St_rests 13 = .ok (.goto 4, 3) := by decide +kernel
theorem d_St_rests_16 : decode c_St_rests 16 = .ok (.iconst 0, 1) := by decide +kernel
theorem d_St_rests_17 : decode c_St_rests 17 = .ok (.ireturn, 1) := by decide +kernel
theorem d_St_pine_0 : decode c_St_pine 0 = .ok (.aload_n 0, 1) := by decide +kernel
theorem d_St_pine_1 : decode c_St_pine 1 = .ok (.getfield 9, 3) := by decide +kernel
theorem d_St_pine_4 : decode c_St_pine 4 = .ok (.aload_n 0, 1) := by decide +kernel
theorem d_St_pine_5 : decode c_St_pine 5 = .ok (.getfield 19, 3) := by decide +kernel
theorem d_St_pine_8 : decode c_St_pine 8 = .ok (.aload_n 0, 1) := by decide +kernel
theorem d_St_pine_9 : decode c_St_pine 9 = .ok (.getfield 22, 3) := by decide +kernel
theorem d_St_pine_12 : decode c_St_pine 12 = .ok (.iload_n 1, 1) := by decide +kernel
theorem d_St_pine_13 : decode c_St_pine 13 = .ok (.invokevirtual 28, 3) := by decide +kernel
theorem d_St_pine_16 : decode c_St_pine 16 = .ok (.aload_n 0, 1) := by decide +kernel
theorem d_St_pine_17 : decode c_St_pine 17 = .ok (.getfield 22, 3) := by decide +kernel
theorem d_St_pine_20 : decode c_St_pine 20 = .ok (.isub, 1) := by decide +kernel
theorem d_St_pine_21 : decode c_St_pine 21 = .ok (.invokestatic 41, 3) := by decide +kernel
theorem d_St_pine_24 : decode c_St_pine 24 = .ok (.istore_n 2, 1) := by decide +kernel
theorem d_St_pine_25 : decode c_St_pine 25 = .ok (.aload_n 0, 1) := by decide +kernel
theorem d_St_pine_26 : decode c_St_pine 26 = .ok (.iload_n 2, 1) := by decide +kernel
theorem d_St_pine_27 : decode c_St_pine 27 = .ok (.ifCond .ne 12, 3) := by decide +kernel
theorem d_St_pine_30 : decode c_St_pine 30 = .ok (.aload_n 0, 1) := by decide +kernel
theorem d_St_pine_31 : decode c_St_pine 31 = .ok (.getfield 25, 3) := by decide +kernel
theorem d_St_pine_34 : decode c_St_pine 34 = .ok (.iconst 2, 1) := by decide +kernel
theorem d_St_pine_35 : decode c_St_pine 35 = .ok (.idiv, 1) := by decide +kernel
theorem d_St_pine_36 : decode c_St_pine 36 = .ok (.goto 25, 3) := by decide +kernel
theorem d_St_pine_39 : decode c_St_pine 39 = .ok (.bipush 99, 2) := by decide +kernel
theorem d_St_pine_41 : decode c_St_pine 41 = .ok (.aload_n 0, 1) := by decide +kernel
theorem d_St_pine_42 : decode c_St_pine 42 = .ok (.getfield 25, 3) := by decide +kernel
theorem d_St_pine_45 : decode c_St_pine 45 = .ok (.aload_n 0, 1) := by decide +kernel
theorem d_St_pine_46 : decode c_St_pine 46 = .ok (.getfield 9, 3) := by decide +kernel
theorem d_St_pine_49 : decode c_St_pine 49 = .ok (.aload_n 0, 1) := by decide +kernel
theorem d_St_pine_50 : decode c_St_pine 50 = .ok (.getfield 15, 3) := by decide +kernel
theorem d_St_pine_53 : decode c_St_pine 53 = .ok (.iload_n 2, 1) := by decide +kernel
theorem d_St_pine_54 : decode c_St_pine 54 = .ok (.invokevirtual 46, 3) := by decide +kernel
theorem d_St_pine_57 : decode c_St_pine 57 = .ok (.iadd, 1) := by decide +kernel
theorem d_St_pine_58 : decode c_St_pine 58 = .ok (.invokestatic 49, 3) := by decide +kernel
theorem d_St_pine_61 : decode c_St_pine 61 = .ok (.putfield 25, 3) := by decide +kernel
theorem d_St_pine_64 : decode c_St_pine 64 = .ok (.return_, 1) := by decide +kernel
theorem d_St_stay_0 : decode c_St_stay 0 = .ok (.iconst 0, 1) := by decide +kernel
theorem d_St_stay_1 : decode c_St_stay 1 = .ok (.istore_n 3, 1) := by decide +kernel
theorem d_St_stay_2 : decode c_St_stay 2 = .ok (.iload_n 3, 1) := by decide +kernel
theorem d_St_stay_3 : decode c_St_stay 3 = .ok (.iload_n 1, 1) := by decide +kernel
theorem d_St_stay_4 : decode c_St_stay 4 = .ok (.if_icmp .ge 14, 3) := by decide +kernel
theorem d_St_stay_7 : decode c_St_stay 7 = .ok (.aload_n 0, 1) := by decide +kernel
theorem d_St_stay_8 : decode c_St_stay 8 = .ok (.iload_n 2, 1) := by decide +kernel
theorem d_St_stay_9 : decode c_St_stay 9 = .ok (.invokevirtual 52, 3) := by decide +kernel
theorem d_St_stay_12 : decode c_St_stay 12 = .ok (.iinc 3 1, 3) := by decide +kernel
theorem d_St_stay_15 : decode c_St_stay 15 = .ok (.goto (-13), 3) := by decide +kernel
theorem d_St_stay_18 : decode c_St_stay 18 = .ok (.return_, 1) := by decide +kernel
theorem d_St_move_0 : decode c_St_move 0 = .ok (.iload_n 1, 1) := by decide +kernel
theorem d_St_move_1 : decode c_St_move 1 = .ok (.aload_n 0, 1) := by decide +kernel
theorem d_St_move_2 : decode c_St_move 2 = .ok (.getfield 22, 3) := by decide +kernel
theorem d_St_move_5 : decode c_St_move 5 = .ok (.invokestatic 56, 3) := by decide +kernel
theorem d_St_move_8 : decode c_St_move 8 = .ok (.istore_n 3, 1) := by decide +kernel
theorem d_St_move_9 : decode c_St_move 9 = .ok (.iload_n 3, 1) := by decide +kernel
theorem d_St_move_10 : decode c_St_move 10 = .ok (.aload_n 0, 1) := by decide +kernel
theorem d_St_move_11 : decode c_St_move 11 = .ok (.getfield 9, 3) := by decide +kernel
theorem d_St_move_14 : decode c_St_move 14 = .ok (.aload_n 0, 1) := by decide +kernel
theorem d_St_move_15 : decode c_St_move 15 = .ok (.getfield 19, 3) := by decide +kernel
theorem d_St_move_18 : decode c_St_move 18 = .ok (.aload_n 0, 1) := by decide +kernel
theorem d_St_move_19 : decode c_St_move 19 = .ok (.getfield 22, 3) := by decide +kernel
theorem d_St_move_22 : decode c_St_move 22 = .ok (.iload_n 2, 1) := by decide +kernel
theorem d_St_move_23 : decode c_St_move 23 = .ok (.invokevirtual 28, 3) := by decide +kernel
theorem d_St_move_26 : decode c_St_move 26 = .ok (.aload_n 0, 1) := by decide +kernel
theorem d_St_move_27 : decode c_St_move 27 = .ok (.getfield 22, 3) := by decide +kernel
theorem d_St_move_30 : decode c_St_move 30 = .ok (.isub, 1) := by decide +kernel
theorem d_St_move_31 : decode c_St_move 31 = .ok (.imul, 1) := by decide +kernel
theorem d_St_move_32 : decode c_St_move 32 = .ok (.istore 4, 2) := by decide +kernel
theorem d_St_move_34 : decode c_St_move 34 = .ok (.iload 4, 2) := by decide +kernel
theorem d_St_move_36 : decode c_St_move 36 = .ok (.ifCond .le 26, 3) := by decide +kernel
theorem d_St_move_39 : decode c_St_move 39 = .ok (.aload_n 0, 1) := by decide +kernel
theorem d_St_move_40 : decode c_St_move 40 = .ok (.getfield 9, 3) := by decide +kernel
theorem d_St_move_43 : decode c_St_move 43 = .ok (.aload_n 0, 1) := by decide +kernel
theorem d_St_move_44 : decode c_St_move 44 = .ok (.getfield 15, 3) := by decide +kernel
theorem d_St_move_47 : decode c_St_move 47 = .ok (.aload_n 0, 1) := by decide +kernel
theorem d_St_move_48 : decode c_St_move 48 = .ok (.getfield 25, 3) := by decide +kernel
theorem d_St_move_51 : decode c_St_move 51 = .ok (.invokevirtual 34, 3) := by decide +kernel
theorem d_St_move_54 : decode c_St_move 54 = .ok (.iload 4, 2) := by decide +kernel
theorem d_St_move_56 : decode c_St_move 56 = .ok (.invokestatic 49, 3) := by decide +kernel
theorem d_St_move_59 : decode c_St_move 59 = .ok (.goto 10, 3) := by decide +kernel
theorem d_St_move_62 : decode c_St_move 62 = .ok (.aload_n 0, 1) := by decide +kernel
theorem d_St_move_63 : decode c_St_move 63 = .ok (.getfield 9, 3) := by decide +kernel
theorem d_St_move_66 : decode c_St_move 66 = .ok (.invokevirtual 61, 3) := by decide +kernel
theorem d_St_move_69 : decode c_St_move 69 = .ok (.istore 5, 2) := by decide +kernel
theorem d_St_move_71 : decode c_St_move 71 = .ok (.aload_n 0, 1) := by decide +kernel
theorem d_St_move_72 : decode c_St_move 72 = .ok (.dup, 1) := by decide +kernel
theorem d_St_move_73 : decode c_St_move 73 = .ok (.getfield 22, 3) := by decide +kernel
theorem d_St_move_76 : decode c_St_move 76 = .ok (.iload_n 3, 1) := by decide +kernel
theorem d_St_move_77 : decode c_St_move 77 = .ok (.iload 5, 2) := by decide +kernel
theorem d_St_move_79 : decode c_St_move 79 = .ok (.iload_n 1, 1) := by decide +kernel
theorem d_St_move_80 : decode c_St_move 80 = .ok (.aload_n 0, 1) := by decide +kernel
theorem d_St_move_81 : decode c_St_move 81 = .ok (.getfield 22, 3) := by decide +kernel
theorem d_St_move_84 : decode c_St_move 84 = .ok (.isub, 1) := by decide +kernel
theorem d_St_move_85 : decode c_St_move 85 = .ok (.invokestatic 41, 3) := by decide +kernel
theorem d_St_move_88 : decode c_St_move 88 = .ok (.invokestatic 49, 3) := by decide +kernel
theorem d_St_move_91 : decode c_St_move 91 = .ok (.imul, 1) := by decide +kernel
theorem d_St_move_92 : decode c_St_move 92 = .ok (.iadd, 1) := by decide +kernel
theorem d_St_move_93 : decode c_St_move 93 = .ok (.putfield 22, 3) := by decide +kernel
theorem d_St_move_96 : decode c_St_move 96 = .ok (.return_, 1) := by decide +kernel
theorem d_St_ride_0 : decode c_St_ride 0 = .ok (.iconst 0, 1) := by decide +kernel
theorem d_St_ride_1 : decode c_St_ride 1 = .ok (.istore_n 3, 1) := by decide +kernel
theorem d_St_ride_2 : decode c_St_ride 2 = .ok (.aload_n 0, 1) := by decide +kernel
theorem d_St_ride_3 : decode c_St_ride 3 = .ok (.getfield 22, 3) := by decide +kernel
theorem d_St_ride_6 : decode c_St_ride 6 = .ok (.iload_n 1, 1) := by decide +kernel
theorem d_St_ride_7 : decode c_St_ride 7 = .ok (.if_icmp .eq 26, 3) := by decide +kernel
theorem d_St_ride_10 : decode c_St_ride 10 = .ok (.iload_n 3, 1) := by decide +kernel
theorem d_St_ride_11 : decode c_St_ride 11 = .ok (.bipush 21, 2) := by decide +kernel
theorem d_St_ride_13 : decode c_St_ride 13 = .ok (.if_icmp .ge 20, 3) := by decide +kernel
theorem d_St_ride_16 : decode c_St_ride 16 = .ok (.aload_n 0, 1) := by decide +kernel
theorem d_St_ride_17 : decode c_St_ride 17 = .ok (.iload_n 1, 1) := by decide +kernel
theorem d_St_ride_18 : decode c_St_ride 18 = .ok (.iload_n 2, 1) := by decide +kernel
theorem d_St_ride_19 : decode c_St_ride 19 = .ok (.invokevirtual 65, 3) := by decide +kernel
theorem d_St_ride_22 : decode c_St_ride 22 = .ok (.aload_n 0, 1) := by decide +kernel
theorem d_St_ride_23 : decode c_St_ride 23 = .ok (.iload_n 2, 1) := by decide +kernel
theorem d_St_ride_24 : decode c_St_ride 24 = .ok (.invokevirtual 52, 3) := by decide +kernel
theorem d_St_ride_27 : decode c_St_ride 27 = .ok (.iinc 3 1, 3) := by decide +kernel
theorem d_St_ride_30 : decode c_St_ride 30 = .ok (.goto (-28), 3) := by decide +kernel
theorem d_St_ride_33 : decode c_St_ride 33 = .ok (.iload_n 3, 1) := by decide +kernel
theorem d_St_ride_34 : decode c_St_ride 34 = .ok (.ireturn, 1) := by decide +kernel
theorem d_Tw_init_0 : decode c_Tw_init 0 = .ok (.aload_n 0, 1) := by decide +kernel
theorem d_Tw_init_1 : decode c_Tw_init 1 = .ok (.invokespecial 3, 3) := by decide +kernel
theorem d_Tw_init_4 : decode c_Tw_init 4 = .ok (.return_, 1) := by decide +kernel
theorem d_Tw_number_0 : decode c_Tw_number 0 = .ok (.iconst 3, 1) := by decide +kernel
theorem d_Tw_number_1 : decode c_Tw_number 1 = .ok (.ireturn, 1) := by decide +kernel
theorem d_Tw_goal_0 : decode c_Tw_goal 0 = .ok (.bipush 20, 2) := by decide +kernel
theorem d_Tw_goal_2 : decode c_Tw_goal 2 = .ok (.iload_n 1, 1) := by decide +kernel
theorem d_Tw_goal_3 : decode c_Tw_goal 3 = .ok (.isub, 1) := by decide +kernel
theorem d_Tw_goal_4 : decode c_Tw_goal 4 = .ok (.istore 4, 2) := by decide +kernel
theorem d_Tw_goal_6 : decode c_Tw_goal 6 = .ok (.iload 4, 2) := by decide +kernel
theorem d_Tw_goal_8 : decode c_Tw_goal 8 = .ok (.iload_n 2, 1) := by decide +kernel
theorem d_Tw_goal_9 : decode c_Tw_goal 9 = .ok (.isub, 1) := by decide +kernel
theorem d_Tw_goal_10 : decode c_Tw_goal 10 = .ok (.invokestatic 9, 3) := by decide +kernel
theorem d_Tw_goal_13 : decode c_Tw_goal 13 = .ok (.iload_n 1, 1) := by decide +kernel
theorem d_Tw_goal_14 : decode c_Tw_goal 14 = .ok (.iload_n 2, 1) := by decide +kernel
theorem d_Tw_goal_15 : decode c_Tw_goal 15 = .ok (.isub, 1) := by decide +kernel
theorem d_Tw_goal_16 : decode c_Tw_goal 16 = .ok (.invokestatic 9, 3) := by decide +kernel
theorem d_Tw_goal_19 : decode c_Tw_goal 19 = .ok (.if_icmp .ge 8, 3) := by decide +kernel
theorem d_Tw_goal_22 : decode c_Tw_goal 22 = .ok (.iload 4, 2) := by decide +kernel
theorem d_Tw_goal_24 : decode c_Tw_goal 24 = .ok (.goto 4, 3) := by decide +kernel
theorem d_Tw_goal_27 : decode c_Tw_goal 27 = .ok (.iload_n 1, 1) := by decide +kernel
theorem d_Tw_goal_28 : decode c_Tw_goal 28 = .ok (.ireturn, 1) := by decide +kernel
theorem d_Tw_price_0 : decode c_Tw_price 0 = .ok (.iconst 2, 1) := by decide +kernel
theorem d_Tw_price_1 : decode c_Tw_price 1 = .ok (.aload_n 0, 1) := by decide +kernel
theorem d_Tw_price_2 : decode c_Tw_price 2 = .ok (.iload_n 1, 1) := by decide +kernel
theorem d_Tw_price_3 : decode c_Tw_price 3 = .ok (.invokespecial 15, 3) := by decide +kernel
theorem d_Tw_price_6 : decode c_Tw_price 6 = .ok (.imul, 1) := by decide +kernel
theorem d_Tw_price_7 : decode c_Tw_price 7 = .ok (.ireturn, 1) := by decide +kernel
theorem d_Tw_fail_0 : decode c_Tw_fail 0 = .ok (.iload_n 1, 1) := by decide +kernel
theorem d_Tw_fail_1 : decode c_Tw_fail 1 = .ok (.ifCond .eq 13, 3) := by decide +kernel
theorem d_Tw_fail_4 : decode c_Tw_fail 4 = .ok (.new 18, 3) := by decide +kernel
theorem d_Tw_fail_7 : decode c_Tw_fail 7 = .ok (.dup, 1) := by decide +kernel
theorem d_Tw_fail_8 : decode c_Tw_fail 8 = .ok (.ldc 20, 2) := by decide +kernel
theorem d_Tw_fail_10 : decode c_Tw_fail 10 = .ok (.invokespecial 22, 3) := by decide +kernel
theorem d_Tw_fail_13 : decode c_Tw_fail 13 = .ok (.athrow, 1) := by decide +kernel
theorem d_Tw_fail_14 : decode c_Tw_fail 14 = .ok (.return_, 1) := by decide +kernel
theorem d_Hb_init_0 : decode c_Hb_init 0 = .ok (.aload_n 0, 1) := by decide +kernel
theorem d_Hb_init_1 : decode c_Hb_init 1 = .ok (.invokespecial 1, 3) := by decide +kernel
theorem d_Hb_init_4 : decode c_Hb_init 4 = .ok (.aload_n 0, 1) := by decide +kernel
theorem d_Hb_init_5 : decode c_Hb_init 5 = .ok (.bipush 8, 2) := by decide +kernel
theorem d_Hb_init_7 : decode c_Hb_init 7 = .ok (.anewarray 7, 3) := by decide +kernel
theorem d_Hb_init_10 : decode c_Hb_init 10 = .ok (.dup, 1) := by decide +kernel
theorem d_Hb_init_11 : decode c_Hb_init 11 = .ok (.iconst 0, 1) := by decide +kernel
theorem d_Hb_init_12 : decode c_Hb_init 12 = .ok (.new 7, 3) := by decide +kernel
theorem d_Hb_init_15 : decode c_Hb_init 15 = .ok (.dup, 1) := by decide +kernel
theorem d_Hb_init_16 : decode c_Hb_init 16 = .ok (.invokespecial 9, 3) := by decide +kernel
theorem d_Hb_init_19 : decode c_Hb_init 19 = .ok (.aastore, 1) := by decide +kernel
theorem d_Hb_init_20 : decode c_Hb_init 20 = .ok (.dup, 1) := by decide +kernel
theorem d_Hb_init_21 : decode c_Hb_init 21 = .ok (.iconst 1, 1) := by decide +kernel
theorem d_Hb_init_22 : decode c_Hb_init 22 = .ok (.new 10, 3) := by decide +kernel
theorem d_Hb_init_25 : decode c_Hb_init 25 = .ok (.dup, 1) := by decide +kernel
theorem d_Hb_init_26 : decode c_Hb_init 26 = .ok (.invokespecial 12, 3) := by decide +kernel
theorem d_Hb_init_29 : decode c_Hb_init 29 = .ok (.aastore, 1) := by decide +kernel
theorem d_Hb_init_30 : decode c_Hb_init 30 = .ok (.dup, 1) := by decide +kernel
theorem d_Hb_init_31 : decode c_Hb_init 31 = .ok (.iconst 2, 1) := by decide +kernel
theorem d_Hb_init_32 : decode c_Hb_init 32 = .ok (.new 13, 3) := by decide +kernel
theorem d_Hb_init_35 : decode c_Hb_init 35 = .ok (.dup, 1) := by decide +kernel
theorem d_Hb_init_36 : decode c_Hb_init 36 = .ok (.invokespecial 15, 3) := by decide +kernel
theorem d_Hb_init_39 : decode c_Hb_init 39 = .ok (.aastore, 1) := by decide +kernel
theorem d_Hb_init_40 : decode c_Hb_init 40 = .ok (.dup, 1) := by decide +kernel
theorem d_Hb_init_41 : decode c_Hb_init 41 = .ok (.iconst 3, 1) := by decide +kernel
theorem d_Hb_init_42 : decode c_Hb_init 42 = .ok (.new 16, 3) := by decide +kernel
theorem d_Hb_init_45 : decode c_Hb_init 45 = .ok (.dup, 1) := by decide +kernel
theorem d_Hb_init_46 : decode c_Hb_init 46 = .ok (.invokespecial 18, 3) := by decide +kernel
theorem d_Hb_init_49 : decode c_Hb_init 49 = .ok (.aastore, 1) := by decide +kernel
theorem d_Hb_init_50 : decode c_Hb_init 50 = .ok (.dup, 1) := by decide +kernel
theorem d_Hb_init_51 : decode c_Hb_init 51 = .ok (.iconst 4, 1) := by decide +kernel
theorem d_Hb_init_52 : decode c_Hb_init 52 = .ok (.new 19, 3) := by decide +kernel
theorem d_Hb_init_55 : decode c_Hb_init 55 = .ok (.dup, 1) := by decide +kernel
theorem d_Hb_init_56 : decode c_Hb_init 56 = .ok (.invokespecial 21, 3) := by decide +kernel
theorem d_Hb_init_59 : decode c_Hb_init 59 = .ok (.aastore, 1) := by decide +kernel
theorem d_Hb_init_60 : decode c_Hb_init 60 = .ok (.dup, 1) := by decide +kernel
theorem d_Hb_init_61 : decode c_Hb_init 61 = .ok (.iconst 5, 1) := by decide +kernel
theorem d_Hb_init_62 : decode c_Hb_init 62 = .ok (.new 22, 3) := by decide +kernel
theorem d_Hb_init_65 : decode c_Hb_init 65 = .ok (.dup, 1) := by decide +kernel
theorem d_Hb_init_66 : decode c_Hb_init 66 = .ok (.invokespecial 24, 3) := by decide +kernel
theorem d_Hb_init_69 : decode c_Hb_init 69 = .ok (.aastore, 1) := by decide +kernel
theorem d_Hb_init_70 : decode c_Hb_init 70 = .ok (.dup, 1) := by decide +kernel
theorem d_Hb_init_71 : decode c_Hb_init 71 = .ok (.bipush 6, 2) := by decide +kernel
theorem d_Hb_init_73 : decode c_Hb_init 73 = .ok (.new 25, 3) := by decide +kernel
theorem d_Hb_init_76 : decode c_Hb_init 76 = .ok (.dup, 1) := by decide +kernel
theorem d_Hb_init_77 : decode c_Hb_init 77 = .ok (.invokespecial 27, 3) := by decide +kernel
theorem d_Hb_init_80 : decode c_Hb_init 80 = .ok (.aastore, 1) := by decide +kernel
theorem d_Hb_init_81 : decode c_Hb_init 81 = .ok (.dup, 1) := by decide +kernel
theorem d_Hb_init_82 : decode c_Hb_init 82 = .ok (.bipush 7, 2) := by decide +kernel
theorem d_Hb_init_84 : decode c_Hb_init 84 = .ok (.new 28, 3) := by decide +kernel
theorem d_Hb_init_87 : decode c_Hb_init 87 = .ok (.dup, 1) := by decide +kernel
theorem d_Hb_init_88 : decode c_Hb_init 88 = .ok (.invokespecial 30, 3) := by decide +kernel
theorem d_Hb_init_91 : decode c_Hb_init 91 = .ok (.aastore, 1) := by decide +kernel
theorem d_Hb_init_92 : decode c_Hb_init 92 = .ok (.putfield 31, 3) := by decide +kernel
theorem d_Hb_init_95 : decode c_Hb_init 95 = .ok (.aload_n 0, 1) := by decide +kernel
theorem d_Hb_init_96 : decode c_Hb_init 96 = .ok (.new 37, 3) := by decide +kernel
theorem d_Hb_init_99 : decode c_Hb_init 99 = .ok (.dup, 1) := by decide +kernel
theorem d_Hb_init_100 : decode c_Hb_init 100 = .ok (.aload_n 0, 1) := by decide +kernel
theorem d_Hb_init_101 : decode c_Hb_init 101 = .ok (.getfield 31, 3) := by decide +kernel
theorem d_Hb_init_104 : decode c_Hb_init 104 = .ok (.invokespecial 39, 3) := by decide +kernel
theorem d_Hb_init_107 : decode c_Hb_init 107 = .ok (.putfield 42, 3) := by decide +kernel
theorem d_Hb_init_110 : decode c_Hb_init 110 = .ok (.aload_n 0, 1) := by decide +kernel
theorem d_Hb_init_111 : decode c_Hb_init 111 = .ok (.new 37, 3) := by decide +kernel
theorem d_Hb_init_114 : decode c_Hb_init 114 = .ok (.dup, 1) := by decide +kernel
theorem d_Hb_init_115 : decode c_Hb_init 115 = .ok (.aload_n 0, 1) := by decide +kernel
theorem d_Hb_init_116 : decode c_Hb_init 116 = .ok (.getfield 31, 3) := by decide +kernel
theorem d_Hb_init_119 : decode c_Hb_init 119 = .ok (.invokespecial 39, 3) := by decide +kernel
theorem d_Hb_init_122 : decode c_Hb_init 122 = .ok (.putfield 46, 3) := by decide +kernel
theorem d_Hb_init_125 : decode c_Hb_init 125 = .ok (.aload_n 0, 1) := by decide +kernel
theorem d_Hb_init_126 : decode c_Hb_init 126 = .ok (.iconst 4, 1) := by decide +kernel
theorem d_Hb_init_127 : decode c_Hb_init 127 = .ok (.anewarray 37, 3) := by decide +kernel
theorem d_Hb_init_130 : decode c_Hb_init 130 = .ok (.putfield 49, 3) := by decide +kernel
theorem d_Hb_init_133 : decode c_Hb_init 133 = .ok (.iconst 0, 1) := by decide +kernel
theorem d_Hb_init_134 : decode c_Hb_init 134 = .ok (.istore_n 1, 1) := by decide +kernel
theorem d_Hb_init_135 : decode c_Hb_init 135 = .ok (.iload_n 1, 1) := by decide +kernel
theorem d_Hb_init_136 : decode c_Hb_init 136 = .ok (.iconst 3, 1) := by decide +kernel
theorem d_Hb_init_137 : decode c_Hb_init 137 = .ok (.if_icmp .gt 26, 3) := by decide +kernel
theorem d_Hb_init_140 : decode c_Hb_init 140 = .ok (.aload_n 0, 1) := by decide +kernel
theorem d_Hb_init_141 : decode c_Hb_init 141 = .ok (.getfield 49, 3) := by decide +kernel
theorem d_Hb_init_144 : decode c_Hb_init 144 = .ok (.iload_n 1, 1) := by decide +kernel
theorem d_Hb_init_145 : decode c_Hb_init 145 = .ok (.new 37, 3) := by decide +kernel
theorem d_Hb_init_148 : decode c_Hb_init 148 = .ok (.dup, 1) := by decide +kernel
theorem d_Hb_init_149 : decode c_Hb_init 149 = .ok (.aload_n 0, 1) := by decide +kernel
theorem d_Hb_init_150 : decode c_Hb_init 150 = .ok (.getfield 31, 3) := by decide +kernel
theorem d_Hb_init_153 : decode c_Hb_init 153 = .ok (.invokespecial 39, 3) := by decide +kernel
theorem d_Hb_init_156 : decode c_Hb_init 156 = .ok (.aastore, 1) := by decide +kernel
theorem d_Hb_init_157 : decode c_Hb_init 157 = .ok (.iinc 1 1, 3) := by decide +kernel
theorem d_Hb_init_160 : decode c_Hb_init 160 = .ok (.goto (-25), 3) := by decide +kernel
theorem d_Hb_init_163 : decode c_Hb_init 163 = .ok (.aload_n 0, 1) := by decide +kernel
theorem d_Hb_init_164 : decode c_Hb_init 164 = .ok (.new 53, 3) := by decide +kernel
theorem d_Hb_init_167 : decode c_Hb_init 167 = .ok (.dup, 1) := by decide +kernel
theorem d_Hb_init_168 : decode c_Hb_init 168 = .ok (.aload_n 0, 1) := by decide +kernel
theorem d_Hb_init_169 : decode c_Hb_init 169 = .ok (.getfield 31, 3) := by decide +kernel
theorem d_Hb_init_172 : decode c_Hb_init 172 = .ok (.iconst 0, 1) := by decide +kernel
theorem d_Hb_init_173 : decode c_Hb_init 173 = .ok (.aaload, 1) := by decide +kernel
theorem d_Hb_init_174 : decode c_Hb_init 174 = .ok (.invokespecial 55, 3) := by decide +kernel
theorem d_Hb_init_177 : decode c_Hb_init 177 = .ok (.putfield 58, 3) := by decide +kernel
theorem d_Hb_init_180 : decode c_Hb_init 180 = .ok (.aload_n 0, 1) := by decide +kernel
theorem d_Hb_init_181 : decode c_Hb_init 181 = .ok (.bipush 8, 2) := by decide +kernel
theorem d_Hb_init_183 : decode c_Hb_init 183 = .ok (.anewarray 62, 3) := by decide +kernel
theorem d_Hb_init_186 : decode c_Hb_init 186 = .ok (.putfield 64, 3) := by decide +kernel
theorem d_Hb_init_189 : decode c_Hb_init 189 = .ok (.iconst 0, 1) := by decide +kernel
theorem d_Hb_init_190 : decode c_Hb_init 190 = .ok (.istore_n 1, 1) := by decide +kernel
theorem d_Hb_init_191 : decode c_Hb_init 191 = .ok (.iload_n 1, 1) := by decide +kernel
theorem d_Hb_init_192 : decode c_Hb_init 192 = .ok (.bipush 8, 2) := by decide +kernel
theorem d_Hb_init_194 : decode c_Hb_init 194 = .ok (.if_icmp .ge 28, 3) := by decide +kernel
theorem d_Hb_init_197 : decode c_Hb_init 197 = .ok (.aload_n 0, 1) := by decide +kernel
theorem d_Hb_init_198 : decode c_Hb_init 198 = .ok (.getfield 64, 3) := by decide +kernel
theorem d_Hb_init_201 : decode c_Hb_init 201 = .ok (.iload_n 1, 1) := by decide +kernel
theorem d_Hb_init_202 : decode c_Hb_init 202 = .ok (.new 62, 3) := by decide +kernel
theorem d_Hb_init_205 : decode c_Hb_init 205 = .ok (.dup, 1) := by decide +kernel
theorem d_Hb_init_206 : decode c_Hb_init 206 = .ok (.aload_n 0, 1) := by decide +kernel
theorem d_Hb_init_207 : decode c_Hb_init 207 = .ok (.getfield 31, 3) := by decide +kernel
theorem d_Hb_init_210 : decode c_Hb_init 210 = .ok (.iconst 0, 1) := by decide +kernel
theorem d_Hb_init_211 : decode c_Hb_init 211 = .ok (.aaload, 1) := by decide +kernel
theorem d_Hb_init_212 : decode c_Hb_init 212 = .ok (.invokespecial 68, 3) := by decide +kernel
theorem d_Hb_init_215 : decode c_Hb_init 215 = .ok (.aastore, 1) := by decide +kernel
theorem d_Hb_init_216 : decode c_Hb_init 216 = .ok (.iinc 1 1, 3) := by decide +kernel
theorem d_Hb_init_219 : decode c_Hb_init 219 = .ok (.goto (-28), 3) := by decide +kernel
theorem d_Hb_init_222 : decode c_Hb_init 222 = .ok (.aload_n 0, 1) := by decide +kernel
theorem d_Hb_init_223 : decode c_Hb_init 223 = .ok (.iconst 0, 1) := by decide +kernel
theorem d_Hb_init_224 : decode c_Hb_init 224 = .ok (.putfield 69, 3) := by decide +kernel
theorem d_Hb_init_227 : decode c_Hb_init 227 = .ok (.return_, 1) := by decide +kernel
theorem d_Hb_land_0 : decode c_Hb_land 0 = .ok (.aload_n 0, 1) := by decide +kernel
theorem d_Hb_land_1 : decode c_Hb_land 1 = .ok (.iload_n 1, 1) := by decide +kernel
theorem d_Hb_land_2 : decode c_Hb_land 2 = .ok (.invokevirtual 73, 3) := by decide +kernel
theorem d_Hb_land_5 : decode c_Hb_land 5 = .ok (.istore_n 2, 1) := by decide +kernel
theorem d_Hb_land_6 : decode c_Hb_land 6 = .ok (.iload_n 2, 1) := by decide +kernel
theorem d_Hb_land_7 : decode c_Hb_land 7 = .ok (.ifCond .eq 5, 3) := by decide +kernel
theorem d_Hb_land_10 : decode c_Hb_land 10 = .ok (.iload_n 2, 1) := by decide +kernel
theorem d_Hb_land_11 : decode c_Hb_land 11 = .ok (.ireturn, 1) := by decide +kernel
theorem d_Hb_land_12 : decode c_Hb_land 12 = .ok (.aload_n 0, 1) := by decide +kernel
theorem d_Hb_land_13 : decode c_Hb_land 13 = .ok (.getfield 64, 3) := by decide +kernel
theorem d_Hb_land_16 : decode c_Hb_land 16 = .ok (.iload_n 1, 1) := by decide +kernel
theorem d_Hb_land_17 : decode c_Hb_land 17 = .ok (.aaload, 1) := by decide +kernel
theorem d_Hb_land_18 : decode c_Hb_land 18 = .ok (.astore_n 3, 1) := by decide +kernel
theorem d_Hb_land_19 : decode c_Hb_land 19 = .ok (.aload_n 3, 1) := by decide +kernel
theorem d_Hb_land_20 : decode c_Hb_land 20 = .ok (.getfield 77, 3) := by decide +kernel
theorem d_Hb_land_23 : decode c_Hb_land 23 = .ok (.ifCond .eq 6, 3) := by decide +kernel
theorem d_Hb_land_26 : decode c_Hb_land 26 = .ok (.bipush (-12), 2) := by decide +kernel
theorem d_Hb_land_28 : decode c_Hb_land 28 = .ok (.ireturn, 1) := by decide +kernel
theorem d_Hb_land_29 : decode c_Hb_land 29 = .ok (.aload_n 3, 1) := by decide +kernel
theorem d_Hb_land_30 : decode c_Hb_land 30 = .ok (.invokestatic 81, 3) := by decide +kernel
theorem d_Hb_land_33 : decode c_Hb_land 33 = .ok (.istore 4, 2) := by decide +kernel
theorem d_Hb_land_35 : decode c_Hb_land 35 = .ok (.iload 4, 2) := by decide +kernel
theorem d_Hb_land_37 : decode c_Hb_land 37 = .ok (.iconst (-1), 1) := by decide +kernel
theorem d_Hb_land_38 : decode c_Hb_land 38 = .ok (.if_icmp .eq 10, 3) := by decide +kernel
theorem d_Hb_land_41 : decode c_Hb_land 41 = .ok (.sipush (-1000), 3) := by decide +kernel
theorem d_Hb_land_44 : decode c_Hb_land 44 = .ok (.iload 4, 2) := by decide +kernel
theorem d_Hb_land_46 : decode c_Hb_land 46 = .ok (.isub, 1) := by decide +kernel
theorem d_Hb_land_47 : decode c_Hb_land 47 = .ok (.ireturn, 1) := by decide +kernel
theorem d_Hb_land_48 : decode c_Hb_land 48 = .ok (.aload_n 0, 1) := by decide +kernel
theorem d_Hb_land_49 : decode c_Hb_land 49 = .ok (.getfield 49, 3) := by decide +kernel
theorem d_Hb_land_52 : decode c_Hb_land 52 = .ok (.iconst 0, 1) := by decide +kernel
theorem d_Hb_land_53 : decode c_Hb_land 53 = .ok (.aaload, 1) := by decide +kernel
theorem d_Hb_land_54 : decode c_Hb_land 54 = .ok (.astore 5, 2) := by decide +kernel
theorem d_Hb_land_56 : decode c_Hb_land 56 = .ok (.aload 5, 2) := by decide +kernel
theorem d_Hb_land_58 : decode c_Hb_land 58 = .ok (.aload_n 0, 1) := by decide +kernel
theorem d_Hb_land_59 : decode c_Hb_land 59 = .ok (.getfield 42, 3) := by decide +kernel
theorem d_Hb_land_62 : decode c_Hb_land 62 = .ok (.invokevirtual 85, 3) := by decide +kernel
theorem d_Hb_land_65 : decode c_Hb_land 65 = .ok (.iconst 0, 1) := by decide +kernel
theorem d_Hb_land_66 : decode c_Hb_land 66 = .ok (.istore 6, 2) := by decide +kernel
theorem d_Hb_land_68 : decode c_Hb_land 68 = .ok (.iconst 0, 1) := by decide +kernel
theorem d_Hb_land_69 : decode c_Hb_land 69 = .ok (.istore 7, 2) := by decide +kernel
theorem d_Hb_land_71 : decode c_Hb_land 71 = .ok (.iload 7, 2) := by decide +kernel
theorem d_Hb_land_73 : decode c_Hb_land 73 = .ok (.aload_n 3, 1) := by decide +kernel
theorem d_Hb_land_74 : decode c_Hb_land 74 = .ok (.getfield 89, 3) := by decide +kernel
theorem d_Hb_land_77 : decode c_Hb_land 77 = .ok (.if_icmp .ge 44, 3) := by decide +kernel
theorem d_Hb_land_80 : decode c_Hb_land 80 = .ok (.aload 5, 2) := by decide +kernel
theorem d_Hb_land_82 : decode c_Hb_land 82 = .ok (.aload_n 3, 1) := by decide +kernel
theorem d_Hb_land_83 : decode c_Hb_land 83 = .ok (.iload 7, 2) := by decide +kernel
theorem d_Hb_land_85 : decode c_Hb_land 85 = .ok (.invokevirtual 92, 3) := by decide +kernel
theorem d_Hb_land_88 : decode c_Hb_land 88 = .ok (.ifCond .ne 10, 3) := by decide +kernel
theorem d_Hb_land_91 : decode c_Hb_land 91 = .ok (.sipush (-2000), 3) := by decide +kernel
theorem d_Hb_land_94 : decode c_Hb_land 94 = .ok (.iload 7, 2) := by decide +kernel
theorem d_Hb_land_96 : decode c_Hb_land 96 = .ok (.isub, 1) := by decide +kernel
theorem d_Hb_land_97 : decode c_Hb_land 97 = .ok (.ireturn, 1) := by decide +kernel
theorem d_Hb_land_98 : decode c_Hb_land 98 = .ok (.iinc 6 1, 3) := by decide +kernel
theorem d_Hb_land_101 : decode c_Hb_land 101 = .ok (.iload 7, 2) := by decide +kernel
theorem d_Hb_land_103 : decode c_Hb_land 103 = .ok (.aload_n 3, 1) := by decide +kernel
theorem d_Hb_land_104 : decode c_Hb_land 104 = .ok (.getfield 96, 3) := by decide +kernel
theorem d_Hb_land_107 : decode c_Hb_land 107 = .ok (.iload 7, 2) := by decide +kernel
theorem d_Hb_land_109 : decode c_Hb_land 109 = .ok (.iaload, 1) := by decide +kernel
theorem d_Hb_land_110 : decode c_Hb_land 110 = .ok (.invokestatic 100, 3) := by decide +kernel
theorem d_Hb_land_113 : decode c_Hb_land 113 = .ok (.iconst 2, 1) := by decide +kernel
theorem d_Hb_land_114 : decode c_Hb_land 114 = .ok (.iadd, 1) := by decide +kernel
theorem d_Hb_land_115 : decode c_Hb_land 115 = .ok (.iadd, 1) := by decide +kernel
theorem d_Hb_land_116 : decode c_Hb_land 116 = .ok (.istore 7, 2) := by decide +kernel
theorem d_Hb_land_118 : decode c_Hb_land 118 = .ok (.goto (-47), 3) := by decide +kernel
theorem d_Hb_land_121 : decode c_Hb_land 121 = .ok (.aload_n 0, 1) := by decide +kernel
theorem d_Hb_land_122 : decode c_Hb_land 122 = .ok (.getfield 42, 3) := by decide +kernel
theorem d_Hb_land_125 : decode c_Hb_land 125 = .ok (.aload 5, 2) := by decide +kernel
theorem d_Hb_land_127 : decode c_Hb_land 127 = .ok (.invokevirtual 85, 3) := by decide +kernel
theorem d_Hb_land_130 : decode c_Hb_land 130 = .ok (.iload 6, 2) := by decide +kernel
theorem d_Hb_land_132 : decode c_Hb_land 132 = .ok (.ireturn, 1) := by decide +kernel
theorem d_Hb_horse_0 : decode c_Hb_horse 0 = .ok (.aload_n 0, 1) := by decide +kernel
theorem d_Hb_horse_1 : decode c_Hb_horse 1 = .ok (.iload_n 1, 1) := by decide +kernel
theorem d_Hb_horse_2 : decode c_Hb_horse 2 = .ok (.invokevirtual 103, 3) := by decide +kernel
theorem d_Hb_horse_5 : decode c_Hb_horse 5 = .ok (.ifCond .ne 5, 3) := by decide +kernel
theorem d_Hb_horse_8 : decode c_Hb_horse 8 = .ok (.iconst (-1), 1) := by decide +kernel
theorem d_Hb_horse_9 : decode c_Hb_horse 9 = .ok (.ireturn, 1) := by decide +kernel
theorem d_Hb_horse_10 : decode c_Hb_horse 10 = .ok (.aload_n 0, 1) := by decide +kernel
theorem d_Hb_horse_11 : decode c_Hb_horse 11 = .ok (.getfield 42, 3) := by decide +kernel
theorem d_Hb_horse_14 : decode c_Hb_horse 14 = .ok (.getfield 107, 3) := by decide +kernel
theorem d_Hb_horse_17 : decode c_Hb_horse 17 = .ok (.iload_n 1, 1) := by decide +kernel
theorem d_Hb_horse_18 : decode c_Hb_horse 18 = .ok (.aaload, 1) := by decide +kernel
theorem d_Hb_horse_19 : decode c_Hb_horse 19 = .ok (.astore_n 3, 1) := by decide +kernel
theorem d_Hb_horse_20 : decode c_Hb_horse 20 = .ok (.iload_n 2, 1) := by decide +kernel
theorem d_Hb_horse_21 : decode c_Hb_horse 21 = .ok (.tableswitch 100 0 7 #[47, 55, 60, 65, 70, 75, 87, 92], 47) := by decide +kernel
theorem d_Hb_horse_68 : decode c_Hb_horse 68 = .ok (.aload_n 3, 1) := by decide +kernel
theorem d_Hb_horse_69 : decode c_Hb_horse 69 = .ok (.getfield 111, 3) := by decide +kernel
theorem d_Hb_horse_72 : decode c_Hb_horse 72 = .ok (.invokevirtual 115, 3) := by decide +kernel
theorem d_Hb_horse_75 : decode c_Hb_horse 75 = .ok (.ireturn, 1) := by decide +kernel
theorem d_Hb_horse_76 : decode c_Hb_horse 76 = .ok (.aload_n 3, 1) := by decide +kernel
theorem d_Hb_horse_77 : decode c_Hb_horse 77 = .ok (.getfield 119, 3) := by decide +kernel
theorem d_Hb_horse_80 : decode c_Hb_horse 80 = .ok (.ireturn, 1) := by decide +kernel
theorem d_Hb_horse_81 : decode c_Hb_horse 81 = .ok (.aload_n 3, 1) := by decide +kernel
theorem d_Hb_horse_82 : decode c_Hb_horse 82 = .ok (.getfield 122, 3) := by decide +kernel
theorem d_Hb_horse_85 : decode c_Hb_horse 85 = .ok (.ireturn, 1) := by decide +kernel
theorem d_Hb_horse_86 : decode c_Hb_horse 86 = .ok (.aload_n 3, 1) := by decide +kernel
theorem d_Hb_horse_87 : decode c_Hb_horse 87 = .ok (.getfield 125, 3) := by decide +kernel
theorem d_Hb_horse_90 : decode c_Hb_horse 90 = .ok (.ireturn, 1) := by decide +kernel
theorem d_Hb_horse_91 : decode c_Hb_horse 91 = .ok (.aload_n 3, 1) := by decide +kernel
theorem d_Hb_horse_92 : decode c_Hb_horse 92 = .ok (.getfield 128, 3) := by decide +kernel
theorem d_Hb_horse_95 : decode c_Hb_horse 95 = .ok (.ireturn, 1) := by decide +kernel
theorem d_Hb_horse_96 : decode c_Hb_horse 96 = .ok (.aload_n 3, 1) := by decide +kernel
theorem d_Hb_horse_97 : decode c_Hb_horse 97 = .ok (.aload_n 0, 1) := by decide +kernel
theorem d_Hb_horse_98 : decode c_Hb_horse 98 = .ok (.getfield 42, 3) := by decide +kernel
theorem d_Hb_horse_101 : decode c_Hb_horse 101 = .ok (.getfield 131, 3) := by decide +kernel
theorem d_Hb_horse_104 : decode c_Hb_horse 104 = .ok (.invokevirtual 134, 3) := by decide +kernel
theorem d_Hb_horse_107 : decode c_Hb_horse 107 = .ok (.ireturn, 1) := by decide +kernel
theorem d_Hb_horse_108 : decode c_Hb_horse 108 = .ok (.aload_n 3, 1) := by decide +kernel
theorem d_Hb_horse_109 : decode c_Hb_horse 109 = .ok (.invokevirtual 137, 3) := by decide +kernel
theorem d_Hb_horse_112 : decode c_Hb_horse 112 = .ok (.ireturn, 1) := by decide +kernel
theorem d_Hb_horse_113 : decode c_Hb_horse 113 = .ok (.aload_n 3, 1) := by decide +kernel
theorem d_Hb_horse_114 : decode c_Hb_horse 114 = .ok (.getfield 111, 3) := by decide +kernel
theorem d_Hb_horse_117 : decode c_Hb_horse 117 = .ok (.invokevirtual 140, 3) := by decide +kernel
theorem d_Hb_horse_120 : decode c_Hb_horse 120 = .ok (.ireturn, 1) := by decide +kernel
theorem d_Hb_horse_121 : decode c_Hb_horse 121 = .ok (.iconst (-1), 1) := by decide +kernel
theorem d_Hb_horse_122 : decode c_Hb_horse 122 = .ok (.ireturn, 1) := by decide +kernel
theorem d_Hb_comes_0 : decode c_Hb_comes 0 = .ok (.iload_n 2, 1) := by decide +kernel
theorem d_Hb_comes_1 : decode c_Hb_comes 1 = .ok (.invokestatic 143, 3) := by decide +kernel
theorem d_Hb_comes_4 : decode c_Hb_comes 4 = .ok (.ifCond .eq 10, 3) := by decide +kernel
theorem d_Hb_comes_7 : decode c_Hb_comes 7 = .ok (.iload_n 3, 1) := by decide +kernel
theorem d_Hb_comes_8 : decode c_Hb_comes 8 = .ok (.invokestatic 143, 3) := by decide +kernel
theorem d_Hb_comes_11 : decode c_Hb_comes 11 = .ok (.ifCond .ne 5, 3) := by decide +kernel
theorem d_Hb_comes_14 : decode c_Hb_comes 14 = .ok (.iconst (-1), 1) := by decide +kernel
theorem d_Hb_comes_15 : decode c_Hb_comes 15 = .ok (.ireturn, 1) := by decide +kernel
theorem d_Hb_comes_16 : decode c_Hb_comes 16 = .ok (.aload_n 0, 1) := by decide +kernel
theorem d_Hb_comes_17 : decode c_Hb_comes 17 = .ok (.iload_n 1, 1) := by decide +kernel
theorem d_Hb_comes_18 : decode c_Hb_comes 18 = .ok (.invokevirtual 146, 3) := by decide +kernel
theorem d_Hb_comes_21 : decode c_Hb_comes 21 = .ok (.istore 4, 2) := by decide +kernel
theorem d_Hb_comes_23 : decode c_Hb_comes 23 = .ok (.iload 4, 2) := by decide +kernel
theorem d_Hb_comes_25 : decode c_Hb_comes 25 = .ok (.ifCond .eq 6, 3) := by decide +kernel
theorem d_Hb_comes_28 : decode c_Hb_comes 28 = .ok (.iload 4, 2) := by decide +kernel
theorem d_Hb_comes_30 : decode c_Hb_comes 30 = .ok (.ireturn, 1) := by decide +kernel
theorem d_Hb_comes_31 : decode c_Hb_comes 31 = .ok (.aload_n 0, 1) := by decide +kernel
theorem d_Hb_comes_32 : decode c_Hb_comes 32 = .ok (.getfield 42, 3) := by decide +kernel
theorem d_Hb_comes_35 : decode c_Hb_comes 35 = .ok (.getfield 149, 3) := by decide +kernel
theorem d_Hb_comes_38 : decode c_Hb_comes 38 = .ok (.istore 5, 2) := by decide +kernel
theorem d_Hb_comes_40 : decode c_Hb_comes 40 = .ok (.aload_n 0, 1) := by decide +kernel
theorem d_Hb_comes_41 : decode c_Hb_comes 41 = .ok (.getfield 42, 3) := by decide +kernel
theorem d_Hb_comes_44 : decode c_Hb_comes 44 = .ok (.aload_n 0, 1) := by decide +kernel
theorem d_Hb_comes_45 : decode c_Hb_comes 45 = .ok (.getfield 64, 3) := by decide +kernel
theorem d_Hb_comes_48 : decode c_Hb_comes 48 = .ok (.iload_n 1, 1) := by decide +kernel
theorem d_Hb_comes_49 : decode c_Hb_comes 49 = .ok (.aaload, 1) := by decide +kernel
theorem d_Hb_comes_50 : decode c_Hb_comes 50 = .ok (.getfield 152, 3) := by decide +kernel
theorem d_Hb_comes_53 : decode c_Hb_comes 53 = .ok (.aload_n 0, 1) := by decide +kernel
theorem d_Hb_comes_54 : decode c_Hb_comes 54 = .ok (.getfield 64, 3) := by decide +kernel
theorem d_Hb_comes_57 : decode c_Hb_comes 57 = .ok (.iload_n 1, 1) := by decide +kernel
theorem d_Hb_comes_58 : decode c_Hb_comes 58 = .ok (.aaload, 1) := by decide +kernel
theorem d_Hb_comes_59 : decode c_Hb_comes 59 = .ok (.getfield 153, 3) := by decide +kernel
theorem d_Hb_comes_62 : decode c_Hb_comes 62 = .ok (.iload_n 2, 1) := by decide +kernel
theorem d_Hb_comes_63 : decode c_Hb_comes 63 = .ok (.iload_n 3, 1) := by decide +kernel
theorem d_Hb_comes_64 : decode c_Hb_comes 64 = .ok (.invokevirtual 154, 3) := by decide +kernel
theorem d_Hb_comes_67 : decode c_Hb_comes 67 = .ok (.ifCond .eq 8, 3) := by decide +kernel
theorem d_Hb_comes_70 : decode c_Hb_comes 70 = .ok (.iload 5, 2) := by decide +kernel
theorem d_Hb_comes_72 : decode c_Hb_comes 72 = .ok (.goto 5, 3) := by decide +kernel
theorem d_Hb_comes_75 : decode c_Hb_comes 75 = .ok (.bipush (-2), 2) := by decide +kernel
theorem d_Hb_comes_77 : decode c_Hb_comes 77 = .ok (.ireturn, 1) := by decide +kernel
theorem d_Hb_rides_0 : decode c_Hb_rides 0 = .ok (.aload_n 0, 1) := by decide +kernel
theorem d_Hb_rides_1 : decode c_Hb_rides 1 = .ok (.iload_n 1, 1) := by decide +kernel
theorem d_Hb_rides_2 : decode c_Hb_rides 2 = .ok (.invokevirtual 103, 3) := by decide +kernel
theorem d_Hb_rides_5 : decode c_Hb_rides 5 = .ok (.ifCond .eq 10, 3) := by decide +kernel
theorem d_Hb_rides_8 : decode c_Hb_rides 8 = .ok (.iload_n 2, 1) := by decide +kernel
theorem d_Hb_rides_9 : decode c_Hb_rides 9 = .ok (.invokestatic 143, 3) := by decide +kernel
theorem d_Hb_rides_12 : decode c_Hb_rides 12 = .ok (.ifCond .ne 5, 3) := by decide +kernel
theorem d_Hb_rides_15 : decode c_Hb_rides 15 = .ok (.iconst (-1), 1) := by decide +kernel
theorem d_Hb_rides_16 : decode c_Hb_rides 16 = .ok (.ireturn, 1) := by decide +kernel
theorem d_Hb_rides_17 : decode c_Hb_rides 17 = .ok (.aload_n 0, 1) := by decide +kernel
theorem d_Hb_rides_18 : decode c_Hb_rides 18 = .ok (.getfield 42, 3) := by decide +kernel
theorem d_Hb_rides_21 : decode c_Hb_rides 21 = .ok (.aload_n 0, 1) := by decide +kernel
theorem d_Hb_rides_22 : decode c_Hb_rides 22 = .ok (.aload_n 0, 1) := by decide +kernel
theorem d_Hb_rides_23 : decode c_Hb_rides 23 = .ok (.getfield 42, 3) := by decide +kernel
theorem d_Hb_rides_26 : decode c_Hb_rides 26 = .ok (.getfield 107, 3) := by decide +kernel
theorem d_Hb_rides_29 : decode c_Hb_rides 29 = .ok (.iload_n 1, 1) := by decide +kernel
theorem d_Hb_rides_30 : decode c_Hb_rides 30 = .ok (.aaload, 1) := by decide +kernel
theorem d_Hb_rides_31 : decode c_Hb_rides 31 = .ok (.iload_n 2, 1) := by decide +kernel
theorem d_Hb_rides_32 : decode c_Hb_rides 32 = .ok (.invokevirtual 158, 3) := by decide +kernel
theorem d_Hb_rides_35 : decode c_Hb_rides 35 = .ok (.invokevirtual 162, 3) := by decide +kernel
theorem d_Hb_rides_38 : decode c_Hb_rides 38 = .ok (.ifCond .ne 6, 3) := by decide +kernel
theorem d_Hb_rides_41 : decode c_Hb_rides 41 = .ok (.bipush (-3), 2) := by decide +kernel
theorem d_Hb_rides_43 : decode c_Hb_rides 43 = .ok (.ireturn, 1) := by decide +kernel
theorem d_Hb_rides_44 : decode c_Hb_rides 44 = .ok (.aload_n 0, 1) := by decide +kernel
theorem d_Hb_rides_45 : decode c_Hb_rides 45 = .ok (.getfield 42, 3) := by decide +kernel
theorem d_Hb_rides_48 : decode c_Hb_rides 48 = .ok (.iload_n 1, 1) := by decide +kernel
theorem d_Hb_rides_49 : decode c_Hb_rides 49 = .ok (.iload_n 2, 1) := by decide +kernel
theorem d_Hb_rides_50 : decode c_Hb_rides 50 = .ok (.invokevirtual 165, 3) := by decide +kernel
theorem d_Hb_rides_53 : decode c_Hb_rides 53 = .ok (.ireturn, 1) := by decide +kernel
theorem d_Hb_taken_0 : decode c_Hb_taken 0 = .ok (.aload_n 0, 1) := by decide +kernel
theorem d_Hb_taken_1 : decode c_Hb_taken 1 = .ok (.iload_n 1, 1) := by decide +kernel
theorem d_Hb_taken_2 : decode c_Hb_taken 2 = .ok (.invokevirtual 103, 3) := by decide +kernel
theorem d_Hb_taken_5 : decode c_Hb_taken 5 = .ok (.ifCond .eq 10, 3) := by decide +kernel
theorem d_Hb_taken_8 : decode c_Hb_taken 8 = .ok (.iload_n 2, 1) := by decide +kernel
theorem d_Hb_taken_9 : decode c_Hb_taken 9 = .ok (.invokestatic 143, 3) := by decide +kernel
theorem d_Hb_taken_12 : decode c_Hb_taken 12 = .ok (.ifCond .ne 5, 3) := by decide +kernel
theorem d_Hb_taken_15 : decode c_Hb_taken 15 = .ok (.iconst (-1), 1) := by decide +kernel
theorem d_Hb_taken_16 : decode c_Hb_taken 16 = .ok (.ireturn, 1) := by decide +kernel
theorem d_Hb_taken_17 : decode c_Hb_taken 17 = .ok (.aload_n 0, 1) := by decide +kernel
theorem d_Hb_taken_18 : decode c_Hb_taken 18 = .ok (.getfield 42, 3) := by decide +kernel
theorem d_Hb_taken_21 : decode c_Hb_taken 21 = .ok (.getfield 107, 3) := by decide +kernel
theorem d_Hb_taken_24 : decode c_Hb_taken 24 = .ok (.iload_n 1, 1) := by decide +kernel
theorem d_Hb_taken_25 : decode c_Hb_taken 25 = .ok (.aaload, 1) := by decide +kernel
theorem d_Hb_taken_26 : decode c_Hb_taken 26 = .ok (.getfield 125, 3) := by decide +kernel
theorem d_Hb_taken_29 : decode c_Hb_taken 29 = .ok (.istore_n 3, 1) := by decide +kernel
theorem d_Hb_taken_30 : decode c_Hb_taken 30 = .ok (.aload_n 0, 1) := by decide +kernel
theorem d_Hb_taken_31 : decode c_Hb_taken 31 = .ok (.getfield 42, 3) := by decide +kernel
theorem d_Hb_taken_34 : decode c_Hb_taken 34 = .ok (.getfield 107, 3) := by decide +kernel
theorem d_Hb_taken_37 : decode c_Hb_taken 37 = .ok (.iload_n 1, 1) := by decide +kernel
theorem d_Hb_taken_38 : decode c_Hb_taken 38 = .ok (.aaload, 1) := by decide +kernel
theorem d_Hb_taken_39 : decode c_Hb_taken 39 = .ok (.iload_n 2, 1) := by decide +kernel
theorem d_Hb_taken_40 : decode c_Hb_taken 40 = .ok (.putfield 125, 3) := by decide +kernel
theorem d_Hb_taken_43 : decode c_Hb_taken 43 = .ok (.iload_n 3, 1) := by decide +kernel
theorem d_Hb_taken_44 : decode c_Hb_taken 44 = .ok (.ireturn, 1) := by decide +kernel
theorem d_Hb_longs_0 : decode c_Hb_longs 0 = .ok (.aload_n 0, 1) := by decide +kernel
theorem d_Hb_longs_1 : decode c_Hb_longs 1 = .ok (.iload_n 1, 1) := by decide +kernel
theorem d_Hb_longs_2 : decode c_Hb_longs 2 = .ok (.invokevirtual 103, 3) := by decide +kernel
theorem d_Hb_longs_5 : decode c_Hb_longs 5 = .ok (.ifCond .eq 13, 3) := by decide +kernel
theorem d_Hb_longs_8 : decode c_Hb_longs 8 = .ok (.iload_n 2, 1) := by decide +kernel
theorem d_Hb_longs_9 : decode c_Hb_longs 9 = .ok (.iconst 0, 1) := by decide +kernel
theorem d_Hb_longs_10 : decode c_Hb_longs 10 = .ok (.bipush 99, 2) := by decide +kernel
theorem d_Hb_longs_12 : decode c_Hb_longs 12 = .ok (.invokestatic 169, 3) := by decide +kernel
theorem d_Hb_longs_15 : decode c_Hb_longs 15 = .ok (.ifCond .ne 5, 3) := by decide +kernel
theorem d_Hb_longs_18 : decode c_Hb_longs 18 = .ok (.iconst (-1), 1) := by decide +kernel
theorem d_Hb_longs_19 : decode c_Hb_longs 19 = .ok (.ireturn, 1) := by decide +kernel
theorem d_Hb_longs_20 : decode c_Hb_longs 20 = .ok (.aload_n 0, 1) := by decide +kernel
theorem d_Hb_longs_21 : decode c_Hb_longs 21 = .ok (.getfield 42, 3) := by decide +kernel
theorem d_Hb_longs_24 : decode c_Hb_longs 24 = .ok (.getfield 107, 3) := by decide +kernel
theorem d_Hb_longs_27 : decode c_Hb_longs 27 = .ok (.iload_n 1, 1) := by decide +kernel
theorem d_Hb_longs_28 : decode c_Hb_longs 28 = .ok (.aaload, 1) := by decide +kernel
theorem d_Hb_longs_29 : decode c_Hb_longs 29 = .ok (.getfield 128, 3) := by decide +kernel
theorem d_Hb_longs_32 : decode c_Hb_longs 32 = .ok (.istore_n 3, 1) := by decide +kernel
theorem d_Hb_longs_33 : decode c_Hb_longs 33 = .ok (.aload_n 0, 1) := by decide +kernel
theorem d_Hb_longs_34 : decode c_Hb_longs 34 = .ok (.getfield 42, 3) := by decide +kernel
theorem d_Hb_longs_37 : decode c_Hb_longs 37 = .ok (.getfield 107, 3) := by decide +kernel
theorem d_Hb_longs_40 : decode c_Hb_longs 40 = .ok (.iload_n 1, 1) := by decide +kernel
theorem d_Hb_longs_41 : decode c_Hb_longs 41 = .ok (.aaload, 1) := by decide +kernel
theorem d_Hb_longs_42 : decode c_Hb_longs 42 = .ok (.iload_n 2, 1) := by decide +kernel
theorem d_Hb_longs_43 : decode c_Hb_longs 43 = .ok (.putfield 128, 3) := by decide +kernel
theorem d_Hb_longs_46 : decode c_Hb_longs 46 = .ok (.iload_n 3, 1) := by decide +kernel
theorem d_Hb_longs_47 : decode c_Hb_longs 47 = .ok (.ireturn, 1) := by decide +kernel
theorem d_Hb_hangs_0 : decode c_Hb_hangs 0 = .ok (.iload_n 1, 1) := by decide +kernel
theorem d_Hb_hangs_1 : decode c_Hb_hangs 1 = .ok (.invokestatic 143, 3) := by decide +kernel
theorem d_Hb_hangs_4 : decode c_Hb_hangs 4 = .ok (.ifCond .ne 5, 3) := by decide +kernel
theorem d_Hb_hangs_7 : decode c_Hb_hangs 7 = .ok (.iconst (-1), 1) := by decide +kernel
theorem d_Hb_hangs_8 : decode c_Hb_hangs 8 = .ok (.ireturn, 1) := by decide +kernel
theorem d_Hb_hangs_9 : decode c_Hb_hangs 9 = .ok (.aload_n 0, 1) := by decide +kernel
theorem d_Hb_hangs_10 : decode c_Hb_hangs 10 = .ok (.getfield 42, 3) := by decide +kernel
theorem d_Hb_hangs_13 : decode c_Hb_hangs 13 = .ok (.getfield 131, 3) := by decide +kernel
theorem d_Hb_hangs_16 : decode c_Hb_hangs 16 = .ok (.istore_n 2, 1) := by decide +kernel
theorem d_Hb_hangs_17 : decode c_Hb_hangs 17 = .ok (.aload_n 0, 1) := by decide +kernel
theorem d_Hb_hangs_18 : decode c_Hb_hangs 18 = .ok (.getfield 42, 3) := by decide +kernel
theorem d_Hb_hangs_21 : decode c_Hb_hangs 21 = .ok (.iload_n 1, 1) := by decide +kernel
theorem d_Hb_hangs_22 : decode c_Hb_hangs 22 = .ok (.putfield 131, 3) := by decide +kernel
theorem d_Hb_hangs_25 : decode c_Hb_hangs 25 = .ok (.iload_n 2, 1) := by decide +kernel
theorem d_Hb_hangs_26 : decode c_Hb_hangs 26 = .ok (.ireturn, 1) := by decide +kernel
theorem d_Hb_days_0 : decode c_Hb_days 0 = .ok (.iload_n 1, 1) := by decide +kernel
theorem d_Hb_days_1 : decode c_Hb_days 1 = .ok (.iconst 1, 1) := by decide +kernel
theorem d_Hb_days_2 : decode c_Hb_days 2 = .ok (.bipush 60, 2) := by decide +kernel
theorem d_Hb_days_4 : decode c_Hb_days 4 = .ok (.invokestatic 169, 3) := by decide +kernel
theorem d_Hb_days_7 : decode c_Hb_days 7 = .ok (.ifCond .ne 5, 3) := by decide +kernel
theorem d_Hb_days_10 : decode c_Hb_days 10 = .ok (.iconst (-1), 1) := by decide +kernel
theorem d_Hb_days_11 : decode c_Hb_days 11 = .ok (.ireturn, 1) := by decide +kernel
theorem d_Hb_days_12 : decode c_Hb_days 12 = .ok (.aload_n 0, 1) := by decide +kernel
theorem d_Hb_days_13 : decode c_Hb_days 13 = .ok (.getfield 42, 3) := by decide +kernel
theorem d_Hb_days_16 : decode c_Hb_days 16 = .ok (.iload_n 1, 1) := by decide +kernel
theorem d_Hb_days_17 : decode c_Hb_days 17 = .ok (.invokevirtual 162, 3) := by decide +kernel
theorem d_Hb_days_20 : decode c_Hb_days 20 = .ok (.ifCond .ne 6, 3) := by decide +kernel
theorem d_Hb_days_23 : decode c_Hb_days 23 = .ok (.bipush (-3), 2) := by decide +kernel
theorem d_Hb_days_25 : decode c_Hb_days 25 = .ok (.ireturn, 1) := by decide +kernel
theorem d_Hb_days_26 : decode c_Hb_days 26 = .ok (.aload_n 0, 1) := by decide +kernel
theorem d_Hb_days_27 : decode c_Hb_days 27 = .ok (.getfield 42, 3) := by decide +kernel
theorem d_Hb_days_30 : decode c_Hb_days 30 = .ok (.iload_n 1, 1) := by decide +kernel
theorem d_Hb_days_31 : decode c_Hb_days 31 = .ok (.invokevirtual 173, 3) := by decide +kernel
theorem d_Hb_days_34 : decode c_Hb_days 34 = .ok (.aload_n 0, 1) := by decide +kernel
theorem d_Hb_days_35 : decode c_Hb_days 35 = .ok (.getfield 42, 3) := by decide +kernel
theorem d_Hb_days_38 : decode c_Hb_days 38 = .ok (.invokevirtual 177, 3) := by decide +kernel
theorem d_Hb_days_41 : decode c_Hb_days 41 = .ok (.ireturn, 1) := by decide +kernel
theorem d_Hb_howLong_0 : decode c_Hb_howLong 0 = .ok (.aload_n 0, 1) := by decide +kernel
theorem d_Hb_howLong_1 : decode c_Hb_howLong 1 = .ok (.iload_n 1, 1) := by decide +kernel
theorem d_Hb_howLong_2 : decode c_Hb_howLong 2 = .ok (.invokevirtual 103, 3) := by decide +kernel
theorem d_Hb_howLong_5 : decode c_Hb_howLong 5 = .ok (.ifCond .eq 10, 3) := by decide +kernel
theorem d_Hb_howLong_8 : decode c_Hb_howLong 8 = .ok (.iload_n 2, 1) := by decide +kernel
theorem d_Hb_howLong_9 : decode c_Hb_howLong 9 = .ok (.invokestatic 143, 3) := by decide +kernel
theorem d_Hb_howLong_12 : decode c_Hb_howLong 12 = .ok (.ifCond .ne 5, 3) := by decide +kernel
theorem d_Hb_howLong_15 : decode c_Hb_howLong 15 = .ok (.iconst (-1), 1) := by decide +kernel
theorem d_Hb_howLong_16 : decode c_Hb_howLong 16 = .ok (.ireturn, 1) := by decide +kernel
theorem d_Hb_howLong_17 : decode c_Hb_howLong 17 = .ok (.aload_n 0, 1) := by decide +kernel
theorem d_Hb_howLong_18 : decode c_Hb_howLong 18 = .ok (.aload_n 0, 1) := by decide +kernel
theorem d_Hb_howLong_19 : decode c_Hb_howLong 19 = .ok (.getfield 42, 3) := by decide +kernel
theorem d_Hb_howLong_22 : decode c_Hb_howLong 22 = .ok (.getfield 107, 3) := by decide +kernel
theorem d_Hb_howLong_25 : decode c_Hb_howLong 25 = .ok (.iload_n 1, 1) := by decide +kernel
theorem d_Hb_howLong_26 : decode c_Hb_howLong 26 = .ok (.aaload, 1) := by decide +kernel
theorem d_Hb_howLong_27 : decode c_Hb_howLong 27 = .ok (.iload_n 2, 1) := by decide +kernel
theorem d_Hb_howLong_28 : decode c_Hb_howLong 28 = .ok (.invokevirtual 158, 3) := by decide +kernel
theorem d_Hb_howLong_31 : decode c_Hb_howLong 31 = .ok (.ireturn, 1) := by decide +kernel
theorem d_Hb_behind_0 : decode c_Hb_behind 0 = .ok (.aload_n 0, 1) := by decide +kernel
theorem d_Hb_behind_1 : decode c_Hb_behind 1 = .ok (.iload_n 1, 1) := by decide +kernel
theorem d_Hb_behind_2 : decode c_Hb_behind 2 = .ok (.invokevirtual 103, 3) := by decide +kernel
theorem d_Hb_behind_5 : decode c_Hb_behind 5 = .ok (.ifCond .eq 20, 3) := by decide +kernel
theorem d_Hb_behind_8 : decode c_Hb_behind 8 = .ok (.iload_n 2, 1) := by decide +kernel
theorem d_Hb_behind_9 : decode c_Hb_behind 9 = .ok (.iconst 0, 1) := by decide +kernel
theorem d_Hb_behind_10 : decode c_Hb_behind 10 = .ok (.bipush 60, 2) := by decide +kernel
theorem d_Hb_behind_12 : decode c_Hb_behind 12 = .ok (.invokestatic 169, 3) := by decide +kernel
theorem d_Hb_behind_15 : decode c_Hb_behind 15 = .ok (.ifCond .eq 10, 3) := by decide +kernel
theorem d_Hb_behind_18 : decode c_Hb_behind 18 = .ok (.iload_n 3, 1) := by decide +kernel
theorem d_Hb_behind_19 : decode c_Hb_behind 19 = .ok (.invokestatic 180, 3) := by decide +kernel
theorem d_Hb_behind_22 : decode c_Hb_behind 22 = .ok (.ifCond .ne 5, 3) := by decide +kernel
theorem d_Hb_behind_25 : decode c_Hb_behind 25 = .ok (.iconst (-1), 1) := by decide +kernel
theorem d_Hb_behind_26 : decode c_Hb_behind 26 = .ok (.ireturn, 1) := by decide +kernel
theorem d_Hb_behind_27 : decode c_Hb_behind 27 = .ok (.aload_n 0, 1) := by decide +kernel
theorem d_Hb_behind_28 : decode c_Hb_behind 28 = .ok (.getfield 58, 3) := by decide +kernel
theorem d_Hb_behind_31 : decode c_Hb_behind 31 = .ok (.aload_n 0, 1) := by decide +kernel
theorem d_Hb_behind_32 : decode c_Hb_behind 32 = .ok (.getfield 42, 3) := by decide +kernel
theorem d_Hb_behind_35 : decode c_Hb_behind 35 = .ok (.getfield 107, 3) := by decide +kernel
theorem d_Hb_behind_38 : decode c_Hb_behind 38 = .ok (.iload_n 1, 1) := by decide +kernel
theorem d_Hb_behind_39 : decode c_Hb_behind 39 = .ok (.aaload, 1) := by decide +kernel
theorem d_Hb_behind_40 : decode c_Hb_behind 40 = .ok (.invokevirtual 183, 3) := by decide +kernel
theorem d_Hb_behind_43 : decode c_Hb_behind 43 = .ok (.aload_n 0, 1) := by decide +kernel
theorem d_Hb_behind_44 : decode c_Hb_behind 44 = .ok (.getfield 58, 3) := by decide +kernel
theorem d_Hb_behind_47 : decode c_Hb_behind 47 = .ok (.iload_n 2, 1) := by decide +kernel
theorem d_Hb_behind_48 : decode c_Hb_behind 48 = .ok (.aload_n 0, 1) := by decide +kernel
theorem d_Hb_behind_49 : decode c_Hb_behind 49 = .ok (.getfield 42, 3) := by decide +kernel
theorem d_Hb_behind_52 : decode c_Hb_behind 52 = .ok (.getfield 131, 3) := by decide +kernel
theorem d_Hb_behind_55 : decode c_Hb_behind 55 = .ok (.invokevirtual 186, 3) := by decide +kernel
theorem d_Hb_behind_58 : decode c_Hb_behind 58 = .ok (.iload_n 3, 1) := by decide +kernel
theorem d_Hb_behind_59 : decode c_Hb_behind 59 = .ok (.ifCond .ne 13, 3) := by decide +kernel
theorem d_Hb_behind_62 : decode c_Hb_behind 62 = .ok (.aload_n 0, 1) := by decide +kernel
theorem d_Hb_behind_63 : decode c_Hb_behind 63 = .ok (.getfield 58, 3) := by decide +kernel
theorem d_Hb_behind_66 : decode c_Hb_behind 66 = .ok (.getfield 128, 3) := by decide +kernel
theorem d_Hb_behind_69 : decode c_Hb_behind 69 = .ok (.goto 10, 3) := by decide +kernel
theorem d_Hb_behind_72 : decode c_Hb_behind 72 = .ok (.aload_n 0, 1) := by decide +kernel
theorem d_Hb_behind_73 : decode c_Hb_behind 73 = .ok (.getfield 58, 3) := by decide +kernel
theorem d_Hb_behind_76 : decode c_Hb_behind 76 = .ok (.invokevirtual 137, 3) := by decide +kernel
theorem d_Hb_behind_79 : decode c_Hb_behind 79 = .ok (.ireturn, 1) := by decide +kernel
theorem d_Hb_chain_0 : decode c_Hb_chain 0 = .ok (.iload_n 1, 1) := by decide +kernel
theorem d_Hb_chain_1 : decode c_Hb_chain 1 = .ok (.invokestatic 143, 3) := by decide +kernel
theorem d_Hb_chain_4 : decode c_Hb_chain 4 = .ok (.ifCond .eq 17, 3) := by decide +kernel
theorem d_Hb_chain_7 : decode c_Hb_chain 7 = .ok (.iload_n 2, 1) := by decide +kernel
theorem d_Hb_chain_8 : decode c_Hb_chain 8 = .ok (.invokestatic 143, 3) := by decide +kernel
theorem d_Hb_chain_11 : decode c_Hb_chain 11 = .ok (.ifCond .eq 10, 3) := by decide +kernel
theorem d_Hb_chain_14 : decode c_Hb_chain 14 = .ok (.iload_n 3, 1) := by decide +kernel
theorem d_Hb_chain_15 : decode c_Hb_chain 15 = .ok (.invokestatic 180, 3) := by decide +kernel
theorem d_Hb_chain_18 : decode c_Hb_chain 18 = .ok (.ifCond .ne 5, 3) := by decide +kernel
theorem d_Hb_chain_21 : decode c_Hb_chain 21 = .ok (.iconst (-1), 1) := by decide +kernel
theorem d_Hb_chain_22 : decode c_Hb_chain 22 = .ok (.ireturn, 1) := by decide +kernel
theorem d_Hb_chain_23 : decode c_Hb_chain 23 = .ok (.iload_n 1, 1) := by decide +kernel
theorem d_Hb_chain_24 : decode c_Hb_chain 24 = .ok (.iload_n 2, 1) := by decide +kernel
theorem d_Hb_chain_25 : decode c_Hb_chain 25 = .ok (.if_icmp .ne 14, 3) := by decide +kernel
theorem d_Hb_chain_28 : decode c_Hb_chain 28 = .ok (.iload_n 3, 1) := by decide +kernel
theorem d_Hb_chain_29 : decode c_Hb_chain 29 = .ok (.ifCond .ne 7, 3) := by decide +kernel
theorem d_Hb_chain_32 : decode c_Hb_chain 32 = .ok (.iconst 0, 1) := by decide +kernel
theorem d_Hb_chain_33 : decode c_Hb_chain 33 = .ok (.goto 5, 3) := by decide +kernel
theorem d_Hb_chain_36 : decode c_Hb_chain 36 = .ok (.bipush (-4), 2) := by decide +kernel
theorem d_Hb_chain_38 : decode c_Hb_chain 38 = .ok (.ireturn, 1) := by decide +kernel
theorem d_Hb_chain_39 : decode c_Hb_chain 39 = .ok (.aload_n 0, 1) := by decide +kernel
theorem d_Hb_chain_40 : decode c_Hb_chain 40 = .ok (.getfield 49, 3) := by decide +kernel
theorem d_Hb_chain_43 : decode c_Hb_chain 43 = .ok (.iconst 0, 1) := by decide +kernel
theorem d_Hb_chain_44 : decode c_Hb_chain 44 = .ok (.aaload, 1) := by decide +kernel
theorem d_Hb_chain_45 : decode c_Hb_chain 45 = .ok (.aload_n 0, 1) := by decide +kernel
theorem d_Hb_chain_46 : decode c_Hb_chain 46 = .ok (.getfield 42, 3) := by decide +kernel
theorem d_Hb_chain_49 : decode c_Hb_chain 49 = .ok (.invokevirtual 85, 3) := by decide +kernel
theorem d_Hb_chain_52 : decode c_Hb_chain 52 = .ok (.sipush 1000, 3) := by decide +kernel
theorem d_Hb_chain_55 : decode c_Hb_chain 55 = .ok (.istore 4, 2) := by decide +kernel
theorem d_Hb_chain_57 : decode c_Hb_chain 57 = .ok (.bipush (-4), 2) := by decide +kernel
theorem d_Hb_chain_59 : decode c_Hb_chain 59 = .ok (.istore 5, 2) := by decide +kernel
theorem d_Hb_chain_61 : decode c_Hb_chain 61 = .ok (.iconst 0, 1) := by decide +kernel
theorem d_Hb_chain_62 : decode c_Hb_chain 62 = .ok (.istore 6, 2) := by decide +kernel
theorem d_Hb_chain_64 : decode c_Hb_chain 64 = .ok (.iload 6, 2) := by decide +kernel
theorem d_Hb_chain_66 : decode c_Hb_chain 66 = .ok (.aload_n 0, 1) := by decide +kernel
theorem d_Hb_chain_67 : decode c_Hb_chain 67 = .ok (.getfield 42, 3) := by decide +kernel
theorem d_Hb_chain_70 : decode c_Hb_chain 70 = .ok (.getfield 149, 3) := by decide +kernel
theorem d_Hb_chain_73 : decode c_Hb_chain 73 = .ok (.if_icmp .ge 64, 3) := by decide +kernel
theorem d_Hb_chain_76 : decode c_Hb_chain 76 = .ok (.aload_n 0, 1) := by decide +kernel
theorem d_Hb_chain_77 : decode c_Hb_chain 77 = .ok (.getfield 42, 3) := by decide +kernel
theorem d_Hb_chain_80 : decode c_Hb_chain 80 = .ok (.getfield 107, 3) := by decide +kernel
theorem d_Hb_chain_83 : decode c_Hb_chain 83 = .ok (.iload 6, 2) := by decide +kernel
theorem d_Hb_chain_85 : decode c_Hb_chain 85 = .ok (.aaload, 1) := by decide +kernel
theorem d_Hb_chain_86 : decode c_Hb_chain 86 = .ok (.getfield 125, 3) := by decide +kernel
theorem d_Hb_chain_89 : decode c_Hb_chain 89 = .ok (.iload_n 1, 1) := by decide +kernel
theorem d_Hb_chain_90 : decode c_Hb_chain 90 = .ok (.if_icmp .ne 21, 3) := by decide +kernel
theorem d_Hb_chain_93 : decode c_Hb_chain 93 = .ok (.aload_n 0, 1) := by decide +kernel
theorem d_Hb_chain_94 : decode c_Hb_chain 94 = .ok (.getfield 49, 3) := by decide +kernel
theorem d_Hb_chain_97 : decode c_Hb_chain 97 = .ok (.iconst 0, 1) := by decide +kernel
theorem d_Hb_chain_98 : decode c_Hb_chain 98 = .ok (.iload 6, 2) := by decide +kernel
theorem d_Hb_chain_100 : decode c_Hb_chain 100 = .ok (.iload_n 2, 1) := by decide +kernel
theorem d_Hb_chain_101 : decode c_Hb_chain 101 = .ok (.iconst 1, 1) := by decide +kernel
theorem d_Hb_chain_102 : decode c_Hb_chain 102 = .ok (.iload 6, 2) := by decide +kernel
theorem d_Hb_chain_104 : decode c_Hb_chain 104 = .ok (.ishl, 1) := by decide +kernel
theorem d_Hb_chain_105 : decode c_Hb_chain 105 = .ok (.invokestatic 190, 3) := by decide +kernel
theorem d_Hb_chain_108 : decode c_Hb_chain 108 = .ok (.goto 6, 3) := by decide +kernel
theorem d_Hb_chain_111 : decode c_Hb_chain 111 = .ok (.sipush 1000, 3) := by decide +kernel
theorem d_Hb_chain_114 : decode c_Hb_chain 114 = .ok (.istore 7, 2) := by decide +kernel
theorem d_Hb_chain_116 : decode c_Hb_chain 116 = .ok (.iload 7, 2) := by decide +kernel
theorem d_Hb_chain_118 : decode c_Hb_chain 118 = .ok (.iload 4, 2) := by decide +kernel
theorem d_Hb_chain_120 : decode c_Hb_chain 120 = .ok (.if_icmp .ge 11, 3) := by decide +kernel
theorem d_Hb_chain_123 : decode c_Hb_chain 123 = .ok (.iload 7, 2) := by decide +kernel
theorem d_Hb_chain_125 : decode c_Hb_chain 125 = .ok (.istore 4, 2) := by decide +kernel
theorem d_Hb_chain_127 : decode c_Hb_chain 127 = .ok (.iload 6, 2) := by decide +kernel
theorem d_Hb_chain_129 : decode c_Hb_chain 129 = .ok (.istore 5, 2) := by decide +kernel
theorem d_Hb_chain_131 : decode c_Hb_chain 131 = .ok (.iinc 6 1, 3) := by decide +kernel
theorem d_Hb_chain_134 : decode c_Hb_chain 134 = .ok (.goto (-70), 3) := by decide +kernel
theorem d_Hb_chain_137 : decode c_Hb_chain 137 = .ok (.iload 4, 2) := by decide +kernel
theorem d_Hb_chain_139 : decode c_Hb_chain 139 = .ok (.sipush 1000, 3) := by decide +kernel
theorem d_Hb_chain_142 : decode c_Hb_chain 142 = .ok (.if_icmp .lt 6, 3) := by decide +kernel
theorem d_Hb_chain_145 : decode c_Hb_chain 145 = .ok (.bipush (-4), 2) := by decide +kernel
theorem d_Hb_chain_147 : decode c_Hb_chain 147 = .ok (.ireturn, 1) := by decide +kernel
theorem d_Hb_chain_148 : decode c_Hb_chain 148 = .ok (.iload_n 3, 1) := by decide +kernel
theorem d_Hb_chain_149 : decode c_Hb_chain 149 = .ok (.ifCond .ne 8, 3) := by decide +kernel
theorem d_Hb_chain_152 : decode c_Hb_chain 152 = .ok (.iload 4, 2) := by decide +kernel
theorem d_Hb_chain_154 : decode c_Hb_chain 154 = .ok (.goto 5, 3) := by decide +kernel
theorem d_Hb_chain_157 : decode c_Hb_chain 157 = .ok (.iload 5, 2) := by decide +kernel
theorem d_Hb_chain_159 : decode c_Hb_chain 159 = .ok (.ireturn, 1) := by decide +kernel
theorem d_Hb_hurry_0 : decode c_Hb_hurry 0 = .ok (.iload_n 1, 1) := by decide +kernel
theorem d_Hb_hurry_1 : decode c_Hb_hurry 1 = .ok (.invokestatic 143, 3) := by decide +kernel
theorem d_Hb_hurry_4 : decode c_Hb_hurry 4 = .ok (.ifCond .eq 10, 3) := by decide +kernel
theorem d_Hb_hurry_7 : decode c_Hb_hurry 7 = .ok (.iload_n 2, 1) := by decide +kernel
theorem d_Hb_hurry_8 : decode c_Hb_hurry 8 = .ok (.invokestatic 180, 3) := by decide +kernel
theorem d_Hb_hurry_11 : decode c_Hb_hurry 11 = .ok (.ifCond .ne 5, 3) := by decide +kernel
theorem d_Hb_hurry_14 : decode c_Hb_hurry 14 = .ok (.iconst (-1), 1) := by decide +kernel
theorem d_Hb_hurry_15 : decode c_Hb_hurry 15 = .ok (.ireturn, 1) := by decide +kernel
theorem d_Hb_hurry_16 : decode c_Hb_hurry 16 = .ok (.bipush (-4), 2) := by decide +kernel
theorem d_Hb_hurry_18 : decode c_Hb_hurry 18 = .ok (.istore_n 3, 1) := by decide +kernel
theorem d_Hb_hurry_19 : decode c_Hb_hurry 19 = .ok (.sipush 1000, 3) := by decide +kernel
theorem d_Hb_hurry_22 : decode c_Hb_hurry 22 = .ok (.istore 4, 2) := by decide +kernel
theorem d_Hb_hurry_24 : decode c_Hb_hurry 24 = .ok (.iconst 0, 1) := by decide +kernel
theorem d_Hb_hurry_25 : decode c_Hb_hurry 25 = .ok (.istore 5, 2) := by decide +kernel
theorem d_Hb_hurry_27 : decode c_Hb_hurry 27 = .ok (.iload 5, 2) := by decide +kernel
theorem d_Hb_hurry_29 : decode c_Hb_hurry 29 = .ok (.aload_n 0, 1) := by decide +kernel
theorem d_Hb_hurry_30 : decode c_Hb_hurry 30 = .ok (.getfield 42, 3) := by decide +kernel
theorem d_Hb_hurry_33 : decode c_Hb_hurry 33 = .ok (.getfield 149, 3) := by decide +kernel
theorem d_Hb_hurry_36 : decode c_Hb_hurry 36 = .ok (.if_icmp .ge 40, 3) := by decide +kernel
theorem d_Hb_hurry_39 : decode c_Hb_hurry 39 = .ok (.aload_n 0, 1) := by decide +kernel
theorem d_Hb_hurry_40 : decode c_Hb_hurry 40 = .ok (.aload_n 0, 1) := by decide +kernel
theorem d_Hb_hurry_41 : decode c_Hb_hurry 41 = .ok (.getfield 42, 3) := by decide +kernel
theorem d_Hb_hurry_44 : decode c_Hb_hurry 44 = .ok (.getfield 107, 3) := by decide +kernel
theorem d_Hb_hurry_47 : decode c_Hb_hurry 47 = .ok (.iload 5, 2) := by decide +kernel
theorem d_Hb_hurry_49 : decode c_Hb_hurry 49 = .ok (.aaload, 1) := by decide +kernel
theorem d_Hb_hurry_50 : decode c_Hb_hurry 50 = .ok (.iload_n 1, 1) := by decide +kernel
theorem d_Hb_hurry_51 : decode c_Hb_hurry 51 = .ok (.invokevirtual 158, 3) := by decide +kernel
theorem d_Hb_hurry_54 : decode c_Hb_hurry 54 = .ok (.istore 6, 2) := by decide +kernel
theorem d_Hb_hurry_56 : decode c_Hb_hurry 56 = .ok (.iload 6, 2) := by decide +kernel
theorem d_Hb_hurry_58 : decode c_Hb_hurry 58 = .ok (.iload 4, 2) := by decide +kernel
theorem d_Hb_hurry_60 : decode c_Hb_hurry 60 = .ok (.if_icmp .ge 10, 3) := by decide +kernel
theorem d_Hb_hurry_63 : decode c_Hb_hurry 63 = .ok (.iload 6, 2) := by decide +kernel
theorem d_Hb_hurry_65 : decode c_Hb_hurry 65 = .ok (.istore 4, 2) := by decide +kernel
theorem d_Hb_hurry_67 : decode c_Hb_hurry 67 = .ok (.iload 5, 2) := by decide +kernel
theorem d_Hb_hurry_69 : decode c_Hb_hurry 69 = .ok (.istore_n 3, 1) := by decide +kernel
theorem d_Hb_hurry_70 : decode c_Hb_hurry 70 = .ok (.iinc 5 1, 3) := by decide +kernel
theorem d_Hb_hurry_73 : decode c_Hb_hurry 73 = .ok (.goto (-46), 3) := by decide +kernel
theorem d_Hb_hurry_76 : decode c_Hb_hurry 76 = .ok (.iload_n 3, 1) := by decide +kernel
theorem d_Hb_hurry_77 : decode c_Hb_hurry 77 = .ok (.bipush (-4), 2) := by decide +kernel
theorem d_Hb_hurry_79 : decode c_Hb_hurry 79 = .ok (.if_icmp .ne 6, 3) := by decide +kernel
theorem d_Hb_hurry_82 : decode c_Hb_hurry 82 = .ok (.bipush (-4), 2) := by decide +kernel
theorem d_Hb_hurry_84 : decode c_Hb_hurry 84 = .ok (.ireturn, 1) := by decide +kernel
theorem d_Hb_hurry_85 : decode c_Hb_hurry 85 = .ok (.iload_n 2, 1) := by decide +kernel
theorem d_Hb_hurry_86 : decode c_Hb_hurry 86 = .ok (.ifCond .ne 7, 3) := by decide +kernel
theorem d_Hb_hurry_89 : decode c_Hb_hurry 89 = .ok (.iload_n 3, 1) := by decide +kernel
theorem d_Hb_hurry_90 : decode c_Hb_hurry 90 = .ok (.goto 5, 3) := by decide +kernel
theorem d_Hb_hurry_93 : decode c_Hb_hurry 93 = .ok (.iload 4, 2) := by decide +kernel
theorem d_Hb_hurry_95 : decode c_Hb_hurry 95 = .ok (.ireturn, 1) := by decide +kernel
theorem d_Hb_fastest_0 : decode c_Hb_fastest 0 = .ok (.iload_n 1, 1) := by decide +kernel
theorem d_Hb_fastest_1 : decode c_Hb_fastest 1 = .ok (.iconst 0, 1) := by decide +kernel
theorem d_Hb_fastest_2 : decode c_Hb_fastest 2 = .ok (.bipush 60, 2) := by decide +kernel
theorem d_Hb_fastest_4 : decode c_Hb_fastest 4 = .ok (.invokestatic 169, 3) := by decide +kernel
theorem d_Hb_fastest_7 : decode c_Hb_fastest 7 = .ok (.ifCond .ne 5, 3) := by decide +kernel
theorem d_Hb_fastest_10 : decode c_Hb_fastest 10 = .ok (.iconst (-1), 1) := by decide +kernel
theorem d_Hb_fastest_11 : decode c_Hb_fastest 11 = .ok (.ireturn, 1) := by decide +kernel
theorem d_Hb_fastest_12 : decode c_Hb_fastest 12 = .ok (.bipush (-4), 2) := by decide +kernel
theorem d_Hb_fastest_14 : decode c_Hb_fastest 14 = .ok (.istore_n 2, 1) := by decide +kernel
theorem d_Hb_fastest_15 : decode c_Hb_fastest 15 = .ok (.iconst 0, 1) := by decide +kernel
theorem d_Hb_fastest_16 : decode c_Hb_fastest 16 = .ok (.istore_n 3, 1) := by decide +kernel
theorem d_Hb_fastest_17 : decode c_Hb_fastest 17 = .ok (.iconst 0, 1) := by decide +kernel
theorem d_Hb_fastest_18 : decode c_Hb_fastest 18 = .ok (.istore 4, 2) := by decide +kernel
theorem d_Hb_fastest_20 : decode c_Hb_fastest 20 = .ok (.iload 4, 2) := by decide +kernel
theorem d_Hb_fastest_22 : decode c_Hb_fastest 22 = .ok (.aload_n 0, 1) := by decide +kernel
theorem d_Hb_fastest_23 : decode c_Hb_fastest 23 = .ok (.getfield 42, 3) := by decide +kernel
theorem d_Hb_fastest_26 : decode c_Hb_fastest 26 = .ok (.getfield 149, 3) := by decide +kernel
theorem d_Hb_fastest_29 : decode c_Hb_fastest 29 = .ok (.if_icmp .ge 63, 3) := by decide +kernel
theorem d_Hb_fastest_32 : decode c_Hb_fastest 32 = .ok (.aload_n 0, 1) := by decide +kernel
theorem d_Hb_fastest_33 : decode c_Hb_fastest 33 = .ok (.getfield 58, 3) := by decide +kernel
theorem d_Hb_fastest_36 : decode c_Hb_fastest 36 = .ok (.aload_n 0, 1) := by decide +kernel
theorem d_Hb_fastest_37 : decode c_Hb_fastest 37 = .ok (.getfield 42, 3) := by decide +kernel
theorem d_Hb_fastest_40 : decode c_Hb_fastest 40 = .ok (.getfield 107, 3) := by decide +kernel
theorem d_Hb_fastest_43 : decode c_Hb_fastest 43 = .ok (.iload 4, 2) := by decide +kernel
theorem d_Hb_fastest_45 : decode c_Hb_fastest 45 = .ok (.aaload, 1) := by decide +kernel
theorem d_Hb_fastest_46 : decode c_Hb_fastest 46 = .ok (.invokevirtual 183, 3) := by decide +kernel
theorem d_Hb_fastest_49 : decode c_Hb_fastest 49 = .ok (.aload_n 0, 1) := by decide +kernel
theorem d_Hb_fastest_50 : decode c_Hb_fastest 50 = .ok (.getfield 58, 3) := by decide +kernel
theorem d_Hb_fastest_53 : decode c_Hb_fastest 53 = .ok (.iload_n 1, 1) := by decide +kernel
theorem d_Hb_fastest_54 : decode c_Hb_fastest 54 = .ok (.aload_n 0, 1) := by decide +kernel
theorem d_Hb_fastest_55 : decode c_Hb_fastest 55 = .ok (.getfield 42, 3) := by decide +kernel
theorem d_Hb_fastest_58 : decode c_Hb_fastest 58 = .ok (.getfield 131, 3) := by decide +kernel
theorem d_Hb_fastest_61 : decode c_Hb_fastest 61 = .ok (.invokevirtual 186, 3) := by decide +kernel
theorem d_Hb_fastest_64 : decode c_Hb_fastest 64 = .ok (.aload_n 0, 1) := by decide +kernel
theorem d_Hb_fastest_65 : decode c_Hb_fastest 65 = .ok (.getfield 58, 3) := by decide +kernel
theorem d_Hb_fastest_68 : decode c_Hb_fastest 68 = .ok (.invokevirtual 137, 3) := by decide +kernel
theorem d_Hb_fastest_71 : decode c_Hb_fastest 71 = .ok (.iload_n 3, 1) := by decide +kernel
theorem d_Hb_fastest_72 : decode c_Hb_fastest 72 = .ok (.if_icmp .le 14, 3) := by decide +kernel
theorem d_Hb_fastest_75 : decode c_Hb_fastest 75 = .ok (.aload_n 0, 1) := by decide +kernel
theorem d_Hb_fastest_76 : decode c_Hb_fastest 76 = .ok (.getfield 58, 3) := by decide +kernel
theorem d_Hb_fastest_79 : decode c_Hb_fastest 79 = .ok (.invokevirtual 137, 3) := by decide +kernel
theorem d_Hb_fastest_82 : decode c_Hb_fastest 82 = .ok (.istore_n 3, 1) := by decide +kernel
theorem d_Hb_fastest_83 : decode c_Hb_fastest 83 = .ok (.iload 4, 2) := by decide +kernel
theorem d_Hb_fastest_85 : decode c_Hb_fastest 85 = .ok (.istore_n 2, 1) := by decide +kernel
theorem d_Hb_fastest_86 : decode c_Hb_fastest 86 = .ok (.iinc 4 1, 3) := by decide +kernel
theorem d_Hb_fastest_89 : decode c_Hb_fastest 89 = .ok (.goto (-69), 3) := by decide +kernel
theorem d_Hb_fastest_92 : decode c_Hb_fastest 92 = .ok (.iload_n 2, 1) := by decide +kernel
theorem d_Hb_fastest_93 : decode c_Hb_fastest 93 = .ok (.ireturn, 1) := by decide +kernel
theorem d_Hb_away_0 : decode c_Hb_away 0 = .ok (.iconst 0, 1) := by decide +kernel
theorem d_Hb_away_1 : decode c_Hb_away 1 = .ok (.istore_n 1, 1) := by decide +kernel
theorem d_Hb_away_2 : decode c_Hb_away 2 = .ok (.iconst 0, 1) := by decide +kernel
theorem d_Hb_away_3 : decode c_Hb_away 3 = .ok (.istore_n 2, 1) := by decide +kernel
theorem d_Hb_away_4 : decode c_Hb_away 4 = .ok (.iload_n 2, 1) := by decide +kernel
theorem d_Hb_away_5 : decode c_Hb_away 5 = .ok (.aload_n 0, 1) := by decide +kernel
theorem d_Hb_away_6 : decode c_Hb_away 6 = .ok (.getfield 42, 3) := by decide +kernel
theorem d_Hb_away_9 : decode c_Hb_away 9 = .ok (.getfield 149, 3) := by decide +kernel
theorem d_Hb_away_12 : decode c_Hb_away 12 = .ok (.if_icmp .ge 37, 3) := by decide +kernel
theorem d_Hb_away_15 : decode c_Hb_away 15 = .ok (.aload_n 0, 1) := by decide +kernel
theorem d_Hb_away_16 : decode c_Hb_away 16 = .ok (.getfield 42, 3) := by decide +kernel
theorem d_Hb_away_19 : decode c_Hb_away 19 = .ok (.getfield 107, 3) := by decide +kernel
theorem d_Hb_away_22 : decode c_Hb_away 22 = .ok (.iload_n 2, 1) := by decide +kernel
theorem d_Hb_away_23 : decode c_Hb_away 23 = .ok (.aaload, 1) := by decide +kernel
theorem d_Hb_away_24 : decode c_Hb_away 24 = .ok (.aload_n 0, 1) := by decide +kernel
theorem d_Hb_away_25 : decode c_Hb_away 25 = .ok (.getfield 42, 3) := by decide +kernel
theorem d_Hb_away_28 : decode c_Hb_away 28 = .ok (.getfield 131, 3) := by decide +kernel
theorem d_Hb_away_31 : decode c_Hb_away 31 = .ok (.invokevirtual 194, 3) := by decide +kernel
theorem d_Hb_away_34 : decode c_Hb_away 34 = .ok (.ifCond .ne 9, 3) := by decide +kernel
theorem d_Hb_away_37 : decode c_Hb_away 37 = .ok (.iload_n 1, 1) := by decide +kernel
theorem d_Hb_away_38 : decode c_Hb_away 38 = .ok (.iconst 1, 1) := by decide +kernel
theorem d_Hb_away_39 : decode c_Hb_away 39 = .ok (.iload_n 2, 1) := by decide +kernel
theorem d_Hb_away_40 : decode c_Hb_away 40 = .ok (.ishl, 1) := by decide +kernel
theorem d_Hb_away_41 : decode c_Hb_away 41 = .ok (.ior, 1) := by decide +kernel
theorem d_Hb_away_42 : decode c_Hb_away 42 = .ok (.istore_n 1, 1) := by decide +kernel
theorem d_Hb_away_43 : decode c_Hb_away 43 = .ok (.iinc 2 1, 3) := by decide +kernel
theorem d_Hb_away_46 : decode c_Hb_away 46 = .ok (.goto (-42), 3) := by decide +kernel
theorem d_Hb_away_49 : decode c_Hb_away 49 = .ok (.iload_n 1, 1) := by decide +kernel
theorem d_Hb_away_50 : decode c_Hb_away 50 = .ok (.ireturn, 1) := by decide +kernel
theorem d_Hb_ripe_0 : decode c_Hb_ripe 0 = .ok (.aload_n 0, 1) := by decide +kernel
theorem d_Hb_ripe_1 : decode c_Hb_ripe 1 = .ok (.iload_n 1, 1) := by decide +kernel
theorem d_Hb_ripe_2 : decode c_Hb_ripe 2 = .ok (.invokevirtual 103, 3) := by decide +kernel
theorem d_Hb_ripe_5 : decode c_Hb_ripe 5 = .ok (.ifCond .eq 13, 3) := by decide +kernel
theorem d_Hb_ripe_8 : decode c_Hb_ripe 8 = .ok (.iload_n 2, 1) := by decide +kernel
theorem d_Hb_ripe_9 : decode c_Hb_ripe 9 = .ok (.iconst 1, 1) := by decide +kernel
theorem d_Hb_ripe_10 : decode c_Hb_ripe 10 = .ok (.bipush 60, 2) := by decide +kernel
theorem d_Hb_ripe_12 : decode c_Hb_ripe 12 = .ok (.invokestatic 169, 3) := by decide +kernel
theorem d_Hb_ripe_15 : decode c_Hb_ripe 15 = .ok (.ifCond .ne 5, 3) := by decide +kernel
theorem d_Hb_ripe_18 : decode c_Hb_ripe 18 = .ok (.iconst (-1), 1) := by decide +kernel
theorem d_Hb_ripe_19 : decode c_Hb_ripe 19 = .ok (.ireturn, 1) := by decide +kernel
theorem d_Hb_ripe_20 : decode c_Hb_ripe 20 = .ok (.aload_n 0, 1) := by decide +kernel
theorem d_Hb_ripe_21 : decode c_Hb_ripe 21 = .ok (.getfield 58, 3) := by decide +kernel
theorem d_Hb_ripe_24 : decode c_Hb_ripe 24 = .ok (.aload_n 0, 1) := by decide +kernel
theorem d_Hb_ripe_25 : decode c_Hb_ripe 25 = .ok (.getfield 42, 3) := by decide +kernel
theorem d_Hb_ripe_28 : decode c_Hb_ripe 28 = .ok (.getfield 107, 3) := by decide +kernel
theorem d_Hb_ripe_31 : decode c_Hb_ripe 31 = .ok (.iload_n 1, 1) := by decide +kernel
theorem d_Hb_ripe_32 : decode c_Hb_ripe 32 = .ok (.aaload, 1) := by decide +kernel
theorem d_Hb_ripe_33 : decode c_Hb_ripe 33 = .ok (.invokevirtual 183, 3) := by decide +kernel
theorem d_Hb_ripe_36 : decode c_Hb_ripe 36 = .ok (.iconst 0, 1) := by decide +kernel
theorem d_Hb_ripe_37 : decode c_Hb_ripe 37 = .ok (.istore_n 3, 1) := by decide +kernel
theorem d_Hb_ripe_38 : decode c_Hb_ripe 38 = .ok (.iload_n 3, 1) := by decide +kernel
theorem d_Hb_ripe_39 : decode c_Hb_ripe 39 = .ok (.bipush 60, 2) := by decide +kernel
theorem d_Hb_ripe_41 : decode c_Hb_ripe 41 = .ok (.if_icmp .gt 37, 3) := by decide +kernel
theorem d_Hb_ripe_44 : decode c_Hb_ripe 44 = .ok (.aload_n 0, 1) := by decide +kernel
theorem d_Hb_ripe_45 : decode c_Hb_ripe 45 = .ok (.getfield 58, 3) := by decide +kernel
theorem d_Hb_ripe_48 : decode c_Hb_ripe 48 = .ok (.invokevirtual 137, 3) := by decide +kernel
theorem d_Hb_ripe_51 : decode c_Hb_ripe 51 = .ok (.iload_n 2, 1) := by decide +kernel
theorem d_Hb_ripe_52 : decode c_Hb_ripe 52 = .ok (.if_icmp .lt 5, 3) := by decide +kernel
theorem d_Hb_ripe_55 : decode c_Hb_ripe 55 = .ok (.iload_n 3, 1) := by decide +kernel
theorem d_Hb_ripe_56 : decode c_Hb_ripe 56 = .ok (.ireturn, 1) := by decide +kernel
theorem d_Hb_ripe_57 : decode c_Hb_ripe 57 = .ok (.aload_n 0, 1) := by decide +kernel
theorem d_Hb_ripe_58 : decode c_Hb_ripe 58 = .ok (.getfield 58, 3) := by decide +kernel
theorem d_Hb_ripe_61 : decode c_Hb_ripe 61 = .ok (.iconst 1, 1) := by decide +kernel
theorem d_Hb_ripe_62 : decode c_Hb_ripe 62 = .ok (.aload_n 0, 1) := by decide +kernel
theorem d_Hb_ripe_63 : decode c_Hb_ripe 63 = .ok (.getfield 42, 3) := by decide +kernel
theorem d_Hb_ripe_66 : decode c_Hb_ripe 66 = .ok (.getfield 131, 3) := by decide +kernel
theorem d_Hb_ripe_69 : decode c_Hb_ripe 69 = .ok (.invokevirtual 186, 3) := by decide +kernel
theorem d_Hb_ripe_72 : decode c_Hb_ripe 72 = .ok (.iinc 3 1, 3) := by decide +kernel
theorem d_Hb_ripe_75 : decode c_Hb_ripe 75 = .ok (.goto (-37), 3) := by decide +kernel
theorem d_Hb_ripe_78 : decode c_Hb_ripe 78 = .ok (.bipush (-4), 2) := by decide +kernel
theorem d_Hb_ripe_80 : decode c_Hb_ripe 80 = .ok (.ireturn, 1) := by decide +kernel
theorem d_Hb_leastLonging_0 : decode c_Hb_leastLonging 0 = .ok (.aload_n 0, 1) := by decide +kernel
theorem d_Hb_leastLonging_1 : decode c_Hb_leastLonging 1 = .ok (.iload_n 1, 1) := by decide +kernel
theorem d_Hb_leastLonging_2 : decode c_Hb_leastLonging 2 = .ok (.invokevirtual 103, 3) := by decide +kernel
theorem d_Hb_leastLonging_5 : decode c_Hb_leastLonging 5 = .ok (.ifCond .eq 20, 3) := by decide +kernel
theorem d_Hb_leastLonging_8 : decode c_Hb_leastLonging 8 = .ok (.iload_n 2, 1) := by decide +kernel
theorem d_Hb_leastLonging_9 : decode c_Hb_leastLonging 9 = .ok (.invokestatic 143, 3) := by decide +kernel
theorem d_Hb_leastLonging_12 : decode c_Hb_leastLonging 12 = .ok (.ifCond .eq 13, 3) := by decide +kernel
theorem d_Hb_leastLonging_15 : decode c_Hb_leastLonging 15 = .ok (.iload_n 3, 1) := by decide +kernel
theorem d_Hb_leastLonging_16 : decode c_Hb_leastLonging 16 = .ok (.iconst 0, 1) := by decide +kernel
theorem d_Hb_leastLonging_17 : decode c_Hb_leastLonging 17 = .ok (.bipush 20, 2) := by decide +kernel
theorem d_Hb_leastLonging_19 : decode c_Hb_leastLonging 19 = .ok (.invokestatic 169, 3) := by decide +kernel
theorem d_Hb_leastLonging_22 : decode c_Hb_leastLonging 22 = .ok (.ifCond .ne 5, 3) := by decide +kernel
theorem d_Hb_leastLonging_25 : decode c_Hb_leastLonging 25 = .ok (.iconst (-1), 1) := by decide +kernel
theorem d_Hb_leastLonging_26 : decode c_Hb_leastLonging 26 = .ok (.ireturn, 1) := by decide +kernel
theorem d_Hb_leastLonging_27 : decode c_Hb_leastLonging 27 = .ok (.iconst 0, 1) := by decide +kernel
theorem d_Hb_leastLonging_28 : decode c_Hb_leastLonging 28 = .ok (.istore 4, 2) := by decide +kernel
theorem d_Hb_leastLonging_30 : decode c_Hb_leastLonging 30 = .ok (.iload 4, 2) := by decide +kernel
theorem d_Hb_leastLonging_32 : decode c_Hb_leastLonging 32 = .ok (.bipush 99, 2) := by decide +kernel
theorem d_Hb_leastLonging_34 : decode c_Hb_leastLonging 34 = .ok (.if_icmp .gt 56, 3) := by decide +kernel
theorem d_Hb_leastLonging_37 : decode c_Hb_leastLonging 37 = .ok (.aload_n 0, 1) := by decide +kernel
theorem d_Hb_leastLonging_38 : decode c_Hb_leastLonging 38 = .ok (.getfield 58, 3) := by decide +kernel
theorem d_Hb_leastLonging_41 : decode c_Hb_leastLonging 41 = .ok (.aload_n 0, 1) := by decide +kernel
theorem d_Hb_leastLonging_42 : decode c_Hb_leastLonging 42 = .ok (.getfield 42, 3) := by decide +kernel
theorem d_Hb_leastLonging_45 : decode c_Hb_leastLonging 45 = .ok (.getfield 107, 3) := by decide +kernel
theorem d_Hb_leastLonging_48 : decode c_Hb_leastLonging 48 = .ok (.iload_n 1, 1) := by decide +kernel
theorem d_Hb_leastLonging_49 : decode c_Hb_leastLonging 49 = .ok (.aaload, 1) := by decide +kernel
theorem d_Hb_leastLonging_50 : decode c_Hb_leastLonging 50 = .ok (.invokevirtual 183, 3) := by decide +kernel
theorem d_Hb_leastLonging_53 : decode c_Hb_leastLonging 53 = .ok (.aload_n 0, 1) := by decide +kernel
theorem d_Hb_leastLonging_54 : decode c_Hb_leastLonging 54 = .ok (.getfield 58, 3) := by decide +kernel
theorem d_Hb_leastLonging_57 : decode c_Hb_leastLonging 57 = .ok (.iload 4, 2) := by decide +kernel
theorem d_Hb_leastLonging_59 : decode c_Hb_leastLonging 59 = .ok (.putfield 128, 3) := by decide +kernel
theorem d_Hb_leastLonging_62 : decode c_Hb_leastLonging 62 = .ok (.aload_n 0, 1) := by decide +kernel
theorem d_Hb_leastLonging_63 : decode c_Hb_leastLonging 63 = .ok (.getfield 58, 3) := by decide +kernel
theorem d_Hb_leastLonging_66 : decode c_Hb_leastLonging 66 = .ok (.iload_n 2, 1) := by decide +kernel
theorem d_Hb_leastLonging_67 : decode c_Hb_leastLonging 67 = .ok (.aload_n 0, 1) := by decide +kernel
theorem d_Hb_leastLonging_68 : decode c_Hb_leastLonging 68 = .ok (.getfield 42, 3) := by decide +kernel
theorem d_Hb_leastLonging_71 : decode c_Hb_leastLonging 71 = .ok (.getfield 131, 3) := by decide +kernel
theorem d_Hb_leastLonging_74 : decode c_Hb_leastLonging 74 = .ok (.invokevirtual 197, 3) := by decide +kernel
theorem d_Hb_leastLonging_77 : decode c_Hb_leastLonging 77 = .ok (.iload_n 3, 1) := by decide +kernel
theorem d_Hb_leastLonging_78 : decode c_Hb_leastLonging 78 = .ok (.if_icmp .gt 6, 3) := by decide +kernel
theorem d_Hb_leastLonging_81 : decode c_Hb_leastLonging 81 = .ok (.iload 4, 2) := by decide +kernel
theorem d_Hb_leastLonging_83 : decode c_Hb_leastLonging 83 = .ok (.ireturn, 1) := by decide +kernel
theorem d_Hb_leastLonging_84 : decode c_Hb_leastLonging 84 = .ok (.iinc 4 1, 3) := by decide +kernel
theorem d_Hb_leastLonging_87 : decode c_Hb_leastLonging 87 = .ok (.goto (-57), 3) := by decide +kernel
theorem d_Hb_leastLonging_90 : decode c_Hb_leastLonging 90 = .ok (.bipush (-4), 2) := by decide +kernel
theorem d_Hb_leastLonging_92 : decode c_Hb_leastLonging 92 = .ok (.ireturn, 1) := by decide +kernel
theorem d_Hb_soonest_0 : decode c_Hb_soonest 0 = .ok (.aload_n 0, 1) := by decide +kernel
theorem d_Hb_soonest_1 : decode c_Hb_soonest 1 = .ok (.iload_n 1, 1) := by decide +kernel
theorem d_Hb_soonest_2 : decode c_Hb_soonest 2 = .ok (.invokevirtual 103, 3) := by decide +kernel
theorem d_Hb_soonest_5 : decode c_Hb_soonest 5 = .ok (.ifCond .eq 17, 3) := by decide +kernel
theorem d_Hb_soonest_8 : decode c_Hb_soonest 8 = .ok (.iload_n 2, 1) := by decide +kernel
theorem d_Hb_soonest_9 : decode c_Hb_soonest 9 = .ok (.invokestatic 143, 3) := by decide +kernel
theorem d_Hb_soonest_12 : decode c_Hb_soonest 12 = .ok (.ifCond .eq 10, 3) := by decide +kernel
theorem d_Hb_soonest_15 : decode c_Hb_soonest 15 = .ok (.iload_n 3, 1) := by decide +kernel
theorem d_Hb_soonest_16 : decode c_Hb_soonest 16 = .ok (.invokestatic 180, 3) := by decide +kernel
theorem d_Hb_soonest_19 : decode c_Hb_soonest 19 = .ok (.ifCond .ne 5, 3) := by decide +kernel
theorem d_Hb_soonest_22 : decode c_Hb_soonest 22 = .ok (.iconst (-1), 1) := by decide +kernel
theorem d_Hb_soonest_23 : decode c_Hb_soonest 23 = .ok (.ireturn, 1) := by decide +kernel
theorem d_Hb_soonest_24 : decode c_Hb_soonest 24 = .ok (.iconst 0, 1) := by decide +kernel
theorem d_Hb_soonest_25 : decode c_Hb_soonest 25 = .ok (.istore 4, 2) := by decide +kernel
theorem d_Hb_soonest_27 : decode c_Hb_soonest 27 = .ok (.sipush 1000, 3) := by decide +kernel
theorem d_Hb_soonest_30 : decode c_Hb_soonest 30 = .ok (.istore 5, 2) := by decide +kernel
theorem d_Hb_soonest_32 : decode c_Hb_soonest 32 = .ok (.iconst 0, 1) := by decide +kernel
theorem d_Hb_soonest_33 : decode c_Hb_soonest 33 = .ok (.istore 6, 2) := by decide +kernel
theorem d_Hb_soonest_35 : decode c_Hb_soonest 35 = .ok (.iload 6, 2) := by decide +kernel
theorem d_Hb_soonest_37 : decode c_Hb_soonest 37 = .ok (.bipush 30, 2) := by decide +kernel
theorem d_Hb_soonest_39 : decode c_Hb_soonest 39 = .ok (.if_icmp .gt 42, 3) := by decide +kernel
theorem d_Hb_soonest_42 : decode c_Hb_soonest 42 = .ok (.aload_n 0, 1) := by decide +kernel
theorem d_Hb_soonest_43 : decode c_Hb_soonest 43 = .ok (.aload_n 0, 1) := by decide +kernel
theorem d_Hb_soonest_44 : decode c_Hb_soonest 44 = .ok (.getfield 42, 3) := by decide +kernel
theorem d_Hb_soonest_47 : decode c_Hb_soonest 47 = .ok (.getfield 107, 3) := by decide +kernel
theorem d_Hb_soonest_50 : decode c_Hb_soonest 50 = .ok (.iload_n 1, 1) := by decide +kernel
theorem d_Hb_soonest_51 : decode c_Hb_soonest 51 = .ok (.aaload, 1) := by decide +kernel
theorem d_Hb_soonest_52 : decode c_Hb_soonest 52 = .ok (.iload 6, 2) := by decide +kernel
theorem d_Hb_soonest_54 : decode c_Hb_soonest 54 = .ok (.iload_n 2, 1) := by decide +kernel
theorem d_Hb_soonest_55 : decode c_Hb_soonest 55 = .ok (.invokevirtual 198, 3) := by decide +kernel
theorem d_Hb_soonest_58 : decode c_Hb_soonest 58 = .ok (.istore 7, 2) := by decide +kernel
theorem d_Hb_soonest_60 : decode c_Hb_soonest 60 = .ok (.iload 7, 2) := by decide +kernel
theorem d_Hb_soonest_62 : decode c_Hb_soonest 62 = .ok (.iload 5, 2) := by decide +kernel
theorem d_Hb_soonest_64 : decode c_Hb_soonest 64 = .ok (.if_icmp .ge 11, 3) := by decide +kernel
theorem d_Hb_soonest_67 : decode c_Hb_soonest 67 = .ok (.iload 7, 2) := by decide +kernel
theorem d_Hb_soonest_69 : decode c_Hb_soonest 69 = .ok (.istore 5, 2) := by decide +kernel
theorem d_Hb_soonest_71 : decode c_Hb_soonest 71 = .ok (.iload 6, 2) := by decide +kernel
theorem d_Hb_soonest_73 : decode c_Hb_soonest 73 = .ok (.istore 4, 2) := by decide +kernel
theorem d_Hb_soonest_75 : decode c_Hb_soonest 75 = .ok (.iinc 6 1, 3) := by decide +kernel
theorem d_Hb_soonest_78 : decode c_Hb_soonest 78 = .ok (.goto (-43), 3) := by decide +kernel
theorem d_Hb_soonest_81 : decode c_Hb_soonest 81 = .ok (.iload_n 3, 1) := by decide +kernel
theorem d_Hb_soonest_82 : decode c_Hb_soonest 82 = .ok (.ifCond .ne 8, 3) := by decide +kernel
theorem d_Hb_soonest_85 : decode c_Hb_soonest 85 = .ok (.iload 4, 2) := by decide +kernel
theorem d_Hb_soonest_87 : decode c_Hb_soonest 87 = .ok (.goto 5, 3) := by decide +kernel
theorem d_Hb_soonest_90 : decode c_Hb_soonest 90 = .ok (.iload 5, 2) := by decide +kernel
theorem d_Hb_soonest_92 : decode c_Hb_soonest 92 = .ok (.ireturn, 1) := by decide +kernel
theorem d_Hb_race_0 : decode c_Hb_race 0 = .ok (.aload_n 0, 1) := by decide +kernel
theorem d_Hb_race_1 : decode c_Hb_race 1 = .ok (.iload_n 1, 1) := by decide +kernel
theorem d_Hb_race_2 : decode c_Hb_race 2 = .ok (.invokevirtual 103, 3) := by decide +kernel
theorem d_Hb_race_5 : decode c_Hb_race 5 = .ok (.ifCond .eq 23, 3) := by decide +kernel
theorem d_Hb_race_8 : decode c_Hb_race 8 = .ok (.aload_n 0, 1) := by decide +kernel
theorem d_Hb_race_9 : decode c_Hb_race 9 = .ok (.iload_n 2, 1) := by decide +kernel
theorem d_Hb_race_10 : decode c_Hb_race 10 = .ok (.invokevirtual 103, 3) := by decide +kernel
theorem d_Hb_race_13 : decode c_Hb_race 13 = .ok (.ifCond .eq 15, 3) := by decide +kernel
theorem d_Hb_race_16 : decode c_Hb_race 16 = .ok (.iload_n 1, 1) := by decide +kernel
theorem d_Hb_race_17 : decode c_Hb_race 17 = .ok (.iload_n 2, 1) := by decide +kernel
theorem d_Hb_race_18 : decode c_Hb_race 18 = .ok (.if_icmp .eq 10, 3) := by decide +kernel
theorem d_Hb_race_21 : decode c_Hb_race 21 = .ok (.iload_n 3, 1) := by decide +kernel
theorem d_Hb_race_22 : decode c_Hb_race 22 = .ok (.invokestatic 143, 3) := by decide +kernel
theorem d_Hb_race_25 : decode c_Hb_race 25 = .ok (.ifCond .ne 5, 3) := by decide +kernel
theorem d_Hb_race_28 : decode c_Hb_race 28 = .ok (.iconst (-1), 1) := by decide +kernel
theorem d_Hb_race_29 : decode c_Hb_race 29 = .ok (.ireturn, 1) := by decide +kernel
theorem d_Hb_race_30 : decode c_Hb_race 30 = .ok (.aload_n 0, 1) := by decide +kernel
theorem d_Hb_race_31 : decode c_Hb_race 31 = .ok (.aload_n 0, 1) := by decide +kernel
theorem d_Hb_race_32 : decode c_Hb_race 32 = .ok (.getfield 42, 3) := by decide +kernel
theorem d_Hb_race_35 : decode c_Hb_race 35 = .ok (.getfield 107, 3) := by decide +kernel
theorem d_Hb_race_38 : decode c_Hb_race 38 = .ok (.iload_n 1, 1) := by decide +kernel
theorem d_Hb_race_39 : decode c_Hb_race 39 = .ok (.aaload, 1) := by decide +kernel
theorem d_Hb_race_40 : decode c_Hb_race 40 = .ok (.iload_n 3, 1) := by decide +kernel
theorem d_Hb_race_41 : decode c_Hb_race 41 = .ok (.invokevirtual 158, 3) := by decide +kernel
theorem d_Hb_race_44 : decode c_Hb_race 44 = .ok (.istore 4, 2) := by decide +kernel
theorem d_Hb_race_46 : decode c_Hb_race 46 = .ok (.aload_n 0, 1) := by decide +kernel
theorem d_Hb_race_47 : decode c_Hb_race 47 = .ok (.aload_n 0, 1) := by decide +kernel
theorem d_Hb_race_48 : decode c_Hb_race 48 = .ok (.getfield 42, 3) := by decide +kernel
theorem d_Hb_race_51 : decode c_Hb_race 51 = .ok (.getfield 107, 3) := by decide +kernel
theorem d_Hb_race_54 : decode c_Hb_race 54 = .ok (.iload_n 2, 1) := by decide +kernel
theorem d_Hb_race_55 : decode c_Hb_race 55 = .ok (.aaload, 1) := by decide +kernel
theorem d_Hb_race_56 : decode c_Hb_race 56 = .ok (.iload_n 3, 1) := by decide +kernel
theorem d_Hb_race_57 : decode c_Hb_race 57 = .ok (.invokevirtual 158, 3) := by decide +kernel
theorem d_Hb_race_60 : decode c_Hb_race 60 = .ok (.istore 5, 2) := by decide +kernel
theorem d_Hb_race_62 : decode c_Hb_race 62 = .ok (.iload 4, 2) := by decide +kernel
theorem d_Hb_race_64 : decode c_Hb_race 64 = .ok (.iload 5, 2) := by decide +kernel
theorem d_Hb_race_66 : decode c_Hb_race 66 = .ok (.if_icmp .ne 6, 3) := by decide +kernel
theorem d_Hb_race_69 : decode c_Hb_race 69 = .ok (.bipush (-4), 2) := by decide +kernel
theorem d_Hb_race_71 : decode c_Hb_race 71 = .ok (.ireturn, 1) := by decide +kernel
theorem d_Hb_race_72 : decode c_Hb_race 72 = .ok (.iload 4, 2) := by decide +kernel
theorem d_Hb_race_74 : decode c_Hb_race 74 = .ok (.iload 5, 2) := by decide +kernel
theorem d_Hb_race_76 : decode c_Hb_race 76 = .ok (.if_icmp .ge 7, 3) := by decide +kernel
theorem d_Hb_race_79 : decode c_Hb_race 79 = .ok (.iload_n 1, 1) := by decide +kernel
theorem d_Hb_race_80 : decode c_Hb_race 80 = .ok (.goto 4, 3) := by decide +kernel
theorem d_Hb_race_83 : decode c_Hb_race 83 = .ok (.iload_n 2, 1) := by decide +kernel
theorem d_Hb_race_84 : decode c_Hb_race 84 = .ok (.ireturn, 1) := by decide +kernel
theorem d_Hb_walkAhead_0 : decode c_Hb_walkAhead 0 = .ok (.aload_n 0, 1) := by decide +kernel
theorem d_Hb_walkAhead_1 : decode c_Hb_walkAhead 1 = .ok (.iload_n 1, 1) := by decide +kernel
theorem d_Hb_walkAhead_2 : decode c_Hb_walkAhead 2 = .ok (.invokevirtual 103, 3) := by decide +kernel
theorem d_Hb_walkAhead_5 : decode c_Hb_walkAhead 5 = .ok (.ifCond .eq 28, 3) := by decide +kernel
theorem d_Hb_walkAhead_8 : decode c_Hb_walkAhead 8 = .ok (.iload_n 2, 1) := by decide +kernel
theorem d_Hb_walkAhead_9 : decode c_Hb_walkAhead 9 = .ok (.invokestatic 143, 3) := by decide +kernel
theorem d_Hb_walkAhead_12 : decode c_Hb_walkAhead 12 = .ok (.ifCond .eq 21, 3) := by decide +kernel
theorem d_Hb_walkAhead_15 : decode c_Hb_walkAhead 15 = .ok (.iload_n 3, 1) := by decide +kernel
theorem d_Hb_walkAhead_16 : decode c_Hb_walkAhead 16 = .ok (.iconst 0, 1) := by decide +kernel
theorem d_Hb_walkAhead_17 : decode c_Hb_walkAhead 17 = .ok (.bipush 30, 2) := by decide +kernel
theorem d_Hb_walkAhead_19 : decode c_Hb_walkAhead 19 = .ok (.invokestatic 169, 3) := by decide +kernel
theorem d_Hb_walkAhead_22 : decode c_Hb_walkAhead 22 = .ok (.ifCond .eq 11, 3) := by decide +kernel
theorem d_Hb_walkAhead_25 : decode c_Hb_walkAhead 25 = .ok (.iload 4, 2) := by decide +kernel
theorem d_Hb_walkAhead_27 : decode c_Hb_walkAhead 27 = .ok (.invokestatic 180, 3) := by decide +kernel
theorem d_Hb_walkAhead_30 : decode c_Hb_walkAhead 30 = .ok (.ifCond .ne 5, 3) := by decide +kernel
theorem d_Hb_walkAhead_33 : decode c_Hb_walkAhead 33 = .ok (.iconst (-1), 1) := by decide +kernel
theorem d_Hb_walkAhead_34 : decode c_Hb_walkAhead 34 = .ok (.ireturn, 1) := by decide +kernel
theorem d_Hb_walkAhead_35 : decode c_Hb_walkAhead 35 = .ok (.iconst 0, 1) := by decide +kernel
theorem d_Hb_walkAhead_36 : decode c_Hb_walkAhead 36 = .ok (.istore 5, 2) := by decide +kernel
theorem d_Hb_walkAhead_38 : decode c_Hb_walkAhead 38 = .ok (.sipush 1000, 3) := by decide +kernel
theorem d_Hb_walkAhead_41 : decode c_Hb_walkAhead 41 = .ok (.istore 6, 2) := by decide +kernel
theorem d_Hb_walkAhead_43 : decode c_Hb_walkAhead 43 = .ok (.iconst 0, 1) := by decide +kernel
theorem d_Hb_walkAhead_44 : decode c_Hb_walkAhead 44 = .ok (.istore 7, 2) := by decide +kernel
theorem d_Hb_walkAhead_46 : decode c_Hb_walkAhead 46 = .ok (.iload 7, 2) := by decide +kernel
theorem d_Hb_walkAhead_48 : decode c_Hb_walkAhead 48 = .ok (.bipush 21, 2) := by decide +kernel
theorem d_Hb_walkAhead_50 : decode c_Hb_walkAhead 50 = .ok (.if_icmp .ge 81, 3) := by decide +kernel
theorem d_Hb_walkAhead_53 : decode c_Hb_walkAhead 53 = .ok (.aload_n 0, 1) := by decide +kernel
theorem d_Hb_walkAhead_54 : decode c_Hb_walkAhead 54 = .ok (.getfield 58, 3) := by decide +kernel
theorem d_Hb_walkAhead_57 : decode c_Hb_walkAhead 57 = .ok (.aload_n 0, 1) := by decide +kernel
theorem d_Hb_walkAhead_58 : decode c_Hb_walkAhead 58 = .ok (.getfield 42, 3) := by decide +kernel
theorem d_Hb_walkAhead_61 : decode c_Hb_walkAhead 61 = .ok (.getfield 107, 3) := by decide +kernel
theorem d_Hb_walkAhead_64 : decode c_Hb_walkAhead 64 = .ok (.iload_n 1, 1) := by decide +kernel
theorem d_Hb_walkAhead_65 : decode c_Hb_walkAhead 65 = .ok (.aaload, 1) := by decide +kernel
theorem d_Hb_walkAhead_66 : decode c_Hb_walkAhead 66 = .ok (.invokevirtual 183, 3) := by decide +kernel
theorem d_Hb_walkAhead_69 : decode c_Hb_walkAhead 69 = .ok (.aload_n 0, 1) := by decide +kernel
theorem d_Hb_walkAhead_70 : decode c_Hb_walkAhead 70 = .ok (.getfield 58, 3) := by decide +kernel
theorem d_Hb_walkAhead_73 : decode c_Hb_walkAhead 73 = .ok (.iload 7, 2) := by decide +kernel
theorem d_Hb_walkAhead_75 : decode c_Hb_walkAhead 75 = .ok (.putfield 125, 3) := by decide +kernel
theorem d_Hb_walkAhead_78 : decode c_Hb_walkAhead 78 = .ok (.aload_n 0, 1) := by decide +kernel
theorem d_Hb_walkAhead_79 : decode c_Hb_walkAhead 79 = .ok (.getfield 58, 3) := by decide +kernel
theorem d_Hb_walkAhead_82 : decode c_Hb_walkAhead 82 = .ok (.iload_n 3, 1) := by decide +kernel
theorem d_Hb_walkAhead_83 : decode c_Hb_walkAhead 83 = .ok (.aload_n 0, 1) := by decide +kernel
theorem d_Hb_walkAhead_84 : decode c_Hb_walkAhead 84 = .ok (.getfield 42, 3) := by decide +kernel
theorem d_Hb_walkAhead_87 : decode c_Hb_walkAhead 87 = .ok (.getfield 131, 3) := by decide +kernel
theorem d_Hb_walkAhead_90 : decode c_Hb_walkAhead 90 = .ok (.invokevirtual 186, 3) := by decide +kernel
theorem d_Hb_walkAhead_93 : decode c_Hb_walkAhead 93 = .ok (.aload_n 0, 1) := by decide +kernel
theorem d_Hb_walkAhead_94 : decode c_Hb_walkAhead 94 = .ok (.getfield 58, 3) := by decide +kernel
theorem d_Hb_walkAhead_97 : decode c_Hb_walkAhead 97 = .ok (.iload_n 2, 1) := by decide +kernel
theorem d_Hb_walkAhead_98 : decode c_Hb_walkAhead 98 = .ok (.aload_n 0, 1) := by decide +kernel
theorem d_Hb_walkAhead_99 : decode c_Hb_walkAhead 99 = .ok (.getfield 42, 3) := by decide +kernel
theorem d_Hb_walkAhead_102 : decode c_Hb_walkAhead 102 = .ok (.getfield 131, 3) := by decide +kernel
theorem d_Hb_walkAhead_105 : decode c_Hb_walkAhead 105 = .ok (.invokevirtual 197, 3) := by decide +kernel
theorem d_Hb_walkAhead_108 : decode c_Hb_walkAhead 108 = .ok (.istore 8, 2) := by decide +kernel
theorem d_Hb_walkAhead_110 : decode c_Hb_walkAhead 110 = .ok (.iload 8, 2) := by decide +kernel
theorem d_Hb_walkAhead_112 : decode c_Hb_walkAhead 112 = .ok (.iload 6, 2) := by decide +kernel
theorem d_Hb_walkAhead_114 : decode c_Hb_walkAhead 114 = .ok (.if_icmp .ge 11, 3) := by decide +kernel
theorem d_Hb_walkAhead_117 : decode c_Hb_walkAhead 117 = .ok (.iload 8, 2) := by decide +kernel
theorem d_Hb_walkAhead_119 : decode c_Hb_walkAhead 119 = .ok (.istore 6, 2) := by decide +kernel
theorem d_Hb_walkAhead_121 : decode c_Hb_walkAhead 121 = .ok (.iload 7, 2) := by decide +kernel
theorem d_Hb_walkAhead_123 : decode c_Hb_walkAhead 123 = .ok (.istore 5, 2) := by decide +kernel
theorem d_Hb_walkAhead_125 : decode c_Hb_walkAhead 125 = .ok (.iinc 7 1, 3) := by decide +kernel
theorem d_Hb_walkAhead_128 : decode c_Hb_walkAhead 128 = .ok (.goto (-82), 3) := by decide +kernel
theorem d_Hb_walkAhead_131 : decode c_Hb_walkAhead 131 = .ok (.iload 4, 2) := by decide +kernel
theorem d_Hb_walkAhead_133 : decode c_Hb_walkAhead 133 = .ok (.ifCond .ne 8, 3) := by decide +kernel
theorem d_Hb_walkAhead_136 : decode c_Hb_walkAhead 136 = .ok (.iload 5, 2) := by decide +kernel
theorem d_Hb_walkAhead_138 : decode c_Hb_walkAhead 138 = .ok (.goto 5, 3) := by decide +kernel
theorem d_Hb_walkAhead_141 : decode c_Hb_walkAhead 141 = .ok (.iload 6, 2) := by decide +kernel
theorem d_Hb_walkAhead_143 : decode c_Hb_walkAhead 143 = .ok (.ireturn, 1) := by decide +kernel
theorem d_Hb_hang_0 : decode c_Hb_hang 0 = .ok (.iload_n 1, 1) := by decide +kernel
theorem d_Hb_hang_1 : decode c_Hb_hang 1 = .ok (.iconst 0, 1) := by decide +kernel
theorem d_Hb_hang_2 : decode c_Hb_hang 2 = .ok (.bipush 60, 2) := by decide +kernel
theorem d_Hb_hang_4 : decode c_Hb_hang 4 = .ok (.invokestatic 169, 3) := by decide +kernel
theorem d_Hb_hang_7 : decode c_Hb_hang 7 = .ok (.ifCond .eq 10, 3) := by decide +kernel
theorem d_Hb_hang_10 : decode c_Hb_hang 10 = .ok (.iload_n 2, 1) := by decide +kernel
theorem d_Hb_hang_11 : decode c_Hb_hang 11 = .ok (.invokestatic 180, 3) := by decide +kernel
theorem d_Hb_hang_14 : decode c_Hb_hang 14 = .ok (.ifCond .ne 5, 3) := by decide +kernel
theorem d_Hb_hang_17 : decode c_Hb_hang 17 = .ok (.iconst (-1), 1) := by decide +kernel
theorem d_Hb_hang_18 : decode c_Hb_hang 18 = .ok (.ireturn, 1) := by decide +kernel
theorem d_Hb_hang_19 : decode c_Hb_hang 19 = .ok (.aload_n 0, 1) := by decide +kernel
theorem d_Hb_hang_20 : decode c_Hb_hang 20 = .ok (.getfield 49, 3) := by decide +kernel
theorem d_Hb_hang_23 : decode c_Hb_hang 23 = .ok (.iconst 0, 1) := by decide +kernel
theorem d_Hb_hang_24 : decode c_Hb_hang 24 = .ok (.aaload, 1) := by decide +kernel
theorem d_Hb_hang_25 : decode c_Hb_hang 25 = .ok (.astore_n 3, 1) := by decide +kernel
theorem d_Hb_hang_26 : decode c_Hb_hang 26 = .ok (.iconst 0, 1) := by decide +kernel
theorem d_Hb_hang_27 : decode c_Hb_hang 27 = .ok (.istore 4, 2) := by decide +kernel
theorem d_Hb_hang_29 : decode c_Hb_hang 29 = .ok (.iconst (-1), 1) := by decide +kernel
theorem d_Hb_hang_30 : decode c_Hb_hang 30 = .ok (.istore 5, 2) := by decide +kernel
theorem d_Hb_hang_32 : decode c_Hb_hang 32 = .ok (.iconst 0, 1) := by decide +kernel
theorem d_Hb_hang_33 : decode c_Hb_hang 33 = .ok (.istore 6, 2) := by decide +kernel
theorem d_Hb_hang_35 : decode c_Hb_hang 35 = .ok (.iload 6, 2) := by decide +kernel
theorem d_Hb_hang_37 : decode c_Hb_hang 37 = .ok (.bipush 21, 2) := by decide +kernel
theorem d_Hb_hang_39 : decode c_Hb_hang 39 = .ok (.if_icmp .ge 47, 3) := by decide +kernel
theorem d_Hb_hang_42 : decode c_Hb_hang 42 = .ok (.aload_n 3, 1) := by decide +kernel
theorem d_Hb_hang_43 : decode c_Hb_hang 43 = .ok (.aload_n 0, 1) := by decide +kernel
theorem d_Hb_hang_44 : decode c_Hb_hang 44 = .ok (.getfield 42, 3) := by decide +kernel
theorem d_Hb_hang_47 : decode c_Hb_hang 47 = .ok (.invokevirtual 85, 3) := by decide +kernel
theorem d_Hb_hang_50 : decode c_Hb_hang 50 = .ok (.aload_n 3, 1) := by decide +kernel
theorem d_Hb_hang_51 : decode c_Hb_hang 51 = .ok (.iload 6, 2) := by decide +kernel
theorem d_Hb_hang_53 : decode c_Hb_hang 53 = .ok (.putfield 131, 3) := by decide +kernel
theorem d_Hb_hang_56 : decode c_Hb_hang 56 = .ok (.aload_n 3, 1) := by decide +kernel
theorem d_Hb_hang_57 : decode c_Hb_hang 57 = .ok (.iload_n 1, 1) := by decide +kernel
theorem d_Hb_hang_58 : decode c_Hb_hang 58 = .ok (.invokevirtual 173, 3) := by decide +kernel
theorem d_Hb_hang_61 : decode c_Hb_hang 61 = .ok (.aload_n 3, 1) := by decide +kernel
theorem d_Hb_hang_62 : decode c_Hb_hang 62 = .ok (.invokevirtual 177, 3) := by decide +kernel
theorem d_Hb_hang_65 : decode c_Hb_hang 65 = .ok (.iload 5, 2) := by decide +kernel
theorem d_Hb_hang_67 : decode c_Hb_hang 67 = .ok (.if_icmp .le 13, 3) := by decide +kernel
theorem d_Hb_hang_70 : decode c_Hb_hang 70 = .ok (.aload_n 3, 1) := by decide +kernel
theorem d_Hb_hang_71 : decode c_Hb_hang 71 = .ok (.invokevirtual 177, 3) := by decide +kernel
theorem d_Hb_hang_74 : decode c_Hb_hang 74 = .ok (.istore 5, 2) := by decide +kernel
theorem d_Hb_hang_76 : decode c_Hb_hang 76 = .ok (.iload 6, 2) := by decide +kernel
theorem d_Hb_hang_78 : decode c_Hb_hang 78 = .ok (.istore 4, 2) := by decide +kernel
theorem d_Hb_hang_80 : decode c_Hb_hang 80 = .ok (.iinc 6 1, 3) := by decide +kernel
theorem d_Hb_hang_83 : decode c_Hb_hang 83 = .ok (.goto (-48), 3) := by decide +kernel
theorem d_Hb_hang_86 : decode c_Hb_hang 86 = .ok (.iload_n 2, 1) := by decide +kernel
theorem d_Hb_hang_87 : decode c_Hb_hang 87 = .ok (.ifCond .ne 8, 3) := by decide +kernel
theorem d_Hb_hang_90 : decode c_Hb_hang 90 = .ok (.iload 4, 2) := by decide +kernel
theorem d_Hb_hang_92 : decode c_Hb_hang 92 = .ok (.goto 5, 3) := by decide +kernel
theorem d_Hb_hang_95 : decode c_Hb_hang 95 = .ok (.iload 5, 2) := by decide +kernel
theorem d_Hb_hang_97 : decode c_Hb_hang 97 = .ok (.ireturn, 1) := by decide +kernel
theorem d_Hb_meet_0 : decode c_Hb_meet 0 = .ok (.iload_n 1, 1) := by decide +kernel
theorem d_Hb_meet_1 : decode c_Hb_meet 1 = .ok (.invokestatic 180, 3) := by decide +kernel
theorem d_Hb_meet_4 : decode c_Hb_meet 4 = .ok (.ifCond .ne 5, 3) := by decide +kernel
theorem d_Hb_meet_7 : decode c_Hb_meet 7 = .ok (.iconst (-1), 1) := by decide +kernel
theorem d_Hb_meet_8 : decode c_Hb_meet 8 = .ok (.ireturn, 1) := by decide +kernel
theorem d_Hb_meet_9 : decode c_Hb_meet 9 = .ok (.iconst 0, 1) := by decide +kernel
theorem d_Hb_meet_10 : decode c_Hb_meet 10 = .ok (.istore_n 2, 1) := by decide +kernel
theorem d_Hb_meet_11 : decode c_Hb_meet 11 = .ok (.sipush 1000, 3) := by decide +kernel
theorem d_Hb_meet_14 : decode c_Hb_meet 14 = .ok (.istore_n 3, 1) := by decide +kernel
theorem d_Hb_meet_15 : decode c_Hb_meet 15 = .ok (.iconst 0, 1) := by decide +kernel
theorem d_Hb_meet_16 : decode c_Hb_meet 16 = .ok (.istore 4, 2) := by decide +kernel
theorem d_Hb_meet_18 : decode c_Hb_meet 18 = .ok (.iload 4, 2) := by decide +kernel
theorem d_Hb_meet_20 : decode c_Hb_meet 20 = .ok (.bipush 21, 2) := by decide +kernel
theorem d_Hb_meet_22 : decode c_Hb_meet 22 = .ok (.if_icmp .ge 66, 3) := by decide +kernel
theorem d_Hb_meet_25 : decode c_Hb_meet 25 = .ok (.iconst 0, 1) := by decide +kernel
theorem d_Hb_meet_26 : decode c_Hb_meet 26 = .ok (.istore 5, 2) := by decide +kernel
theorem d_Hb_meet_28 : decode c_Hb_meet 28 = .ok (.iconst 0, 1) := by decide +kernel
theorem d_Hb_meet_29 : decode c_Hb_meet 29 = .ok (.istore 6, 2) := by decide +kernel
theorem d_Hb_meet_31 : decode c_Hb_meet 31 = .ok (.iload 6, 2) := by decide +kernel
theorem d_Hb_meet_33 : decode c_Hb_meet 33 = .ok (.aload_n 0, 1) := by decide +kernel
theorem d_Hb_meet_34 : decode c_Hb_meet 34 = .ok (.getfield 42, 3) := by decide +kernel
theorem d_Hb_meet_37 : decode c_Hb_meet 37 = .ok (.getfield 149, 3) := by decide +kernel
theorem d_Hb_meet_40 : decode c_Hb_meet 40 = .ok (.if_icmp .ge 30, 3) := by decide +kernel
theorem d_Hb_meet_43 : decode c_Hb_meet 43 = .ok (.iload 5, 2) := by decide +kernel
theorem d_Hb_meet_45 : decode c_Hb_meet 45 = .ok (.aload_n 0, 1) := by decide +kernel
theorem d_Hb_meet_46 : decode c_Hb_meet 46 = .ok (.aload_n 0, 1) := by decide +kernel
theorem d_Hb_meet_47 : decode c_Hb_meet 47 = .ok (.getfield 42, 3) := by decide +kernel
theorem d_Hb_meet_50 : decode c_Hb_meet 50 = .ok (.getfield 107, 3) := by decide +kernel
theorem d_Hb_meet_53 : decode c_Hb_meet 53 = .ok (.iload 6, 2) := by decide +kernel
theorem d_Hb_meet_55 : decode c_Hb_meet 55 = .ok (.aaload, 1) := by decide +kernel
theorem d_Hb_meet_56 : decode c_Hb_meet 56 = .ok (.iload 4, 2) := by decide +kernel
theorem d_Hb_meet_58 : decode c_Hb_meet 58 = .ok (.invokevirtual 158, 3) := by decide +kernel
theorem d_Hb_meet_61 : decode c_Hb_meet 61 = .ok (.iadd, 1) := by decide +kernel
theorem d_Hb_meet_62 : decode c_Hb_meet 62 = .ok (.istore 5, 2) := by decide +kernel
theorem d_Hb_meet_64 : decode c_Hb_meet 64 = .ok (.iinc 6 1, 3) := by decide +kernel
theorem d_Hb_meet_67 : decode c_Hb_meet 67 = .ok (.goto (-36), 3) := by decide +kernel
theorem d_Hb_meet_70 : decode c_Hb_meet 70 = .ok (.iload 5, 2) := by decide +kernel
theorem d_Hb_meet_72 : decode c_Hb_meet 72 = .ok (.iload_n 3, 1) := by decide +kernel
theorem d_Hb_meet_73 : decode c_Hb_meet 73 = .ok (.if_icmp .ge 9, 3) := by decide +kernel
theorem d_Hb_meet_76 : decode c_Hb_meet 76 = .ok (.iload 5, 2) := by decide +kernel
theorem d_Hb_meet_78 : decode c_Hb_meet 78 = .ok (.istore_n 3, 1) := by decide +kernel
theorem d_Hb_meet_79 : decode c_Hb_meet 79 = .ok (.iload 4, 2) := by decide +kernel
theorem d_Hb_meet_81 : decode c_Hb_meet 81 = .ok (.istore_n 2, 1) := by decide +kernel
theorem d_Hb_meet_82 : decode c_Hb_meet 82 = .ok (.iinc 4 1, 3) := by decide +kernel
theorem d_Hb_meet_85 : decode c_Hb_meet 85 = .ok (.goto (-67), 3) := by decide +kernel
theorem d_Hb_meet_88 : decode c_Hb_meet 88 = .ok (.iload_n 1, 1) := by decide +kernel
theorem d_Hb_meet_89 : decode c_Hb_meet 89 = .ok (.ifCond .ne 7, 3) := by decide +kernel
theorem d_Hb_meet_92 : decode c_Hb_meet 92 = .ok (.iload_n 2, 1) := by decide +kernel
theorem d_Hb_meet_93 : decode c_Hb_meet 93 = .ok (.goto 4, 3) := by decide +kernel
theorem d_Hb_meet_96 : decode c_Hb_meet 96 = .ok (.iload_n 3, 1) := by decide +kernel
theorem d_Hb_meet_97 : decode c_Hb_meet 97 = .ok (.ireturn, 1) := by decide +kernel
theorem d_Hb_spread_0 : decode c_Hb_spread 0 = .ok (.bipush (-4), 2) := by decide +kernel
theorem d_Hb_spread_2 : decode c_Hb_spread 2 = .ok (.istore_n 1, 1) := by decide +kernel
theorem d_Hb_spread_3 : decode c_Hb_spread 3 = .ok (.iconst (-1), 1) := by decide +kernel
theorem d_Hb_spread_4 : decode c_Hb_spread 4 = .ok (.istore_n 2, 1) := by decide +kernel
theorem d_Hb_spread_5 : decode c_Hb_spread 5 = .ok (.iconst 0, 1) := by decide +kernel
theorem d_Hb_spread_6 : decode c_Hb_spread 6 = .ok (.istore_n 3, 1) := by decide +kernel
theorem d_Hb_spread_7 : decode c_Hb_spread 7 = .ok (.iload_n 3, 1) := by decide +kernel
theorem d_Hb_spread_8 : decode c_Hb_spread 8 = .ok (.aload_n 0, 1) := by decide +kernel
theorem d_Hb_spread_9 : decode c_Hb_spread 9 = .ok (.getfield 42, 3) := by decide +kernel
theorem d_Hb_spread_12 : decode c_Hb_spread 12 = .ok (.getfield 149, 3) := by decide +kernel
theorem d_Hb_spread_15 : decode c_Hb_spread 15 = .ok (.if_icmp .ge 80, 3) := by decide +kernel
theorem d_Hb_spread_18 : decode c_Hb_spread 18 = .ok (.iload_n 3, 1) := by decide +kernel
theorem d_Hb_spread_19 : decode c_Hb_spread 19 = .ok (.iconst 1, 1) := by decide +kernel
theorem d_Hb_spread_20 : decode c_Hb_spread 20 = .ok (.iadd, 1) := by decide +kernel
theorem d_Hb_spread_21 : decode c_Hb_spread 21 = .ok (.istore 4, 2) := by decide +kernel
theorem d_Hb_spread_23 : decode c_Hb_spread 23 = .ok (.iload 4, 2) := by decide +kernel
theorem d_Hb_spread_25 : decode c_Hb_spread 25 = .ok (.aload_n 0, 1) := by decide +kernel
theorem d_Hb_spread_26 : decode c_Hb_spread 26 = .ok (.getfield 42, 3) := by decide +kernel
theorem d_Hb_spread_29 : decode c_Hb_spread 29 = .ok (.getfield 149, 3) := by decide +kernel
theorem d_Hb_spread_32 : decode c_Hb_spread 32 = .ok (.if_icmp .ge 57, 3) := by decide +kernel
theorem d_Hb_spread_35 : decode c_Hb_spread 35 = .ok (.aload_n 0, 1) := by decide +kernel
theorem d_Hb_spread_36 : decode c_Hb_spread 36 = .ok (.getfield 42, 3) := by decide +kernel
theorem d_Hb_spread_39 : decode c_Hb_spread 39 = .ok (.getfield 107, 3) := by decide +kernel
theorem d_Hb_spread_42 : decode c_Hb_spread 42 = .ok (.iload_n 3, 1) := by decide +kernel
theorem d_Hb_spread_43 : decode c_Hb_spread 43 = .ok (.aaload, 1) := by decide +kernel
theorem d_Hb_spread_44 : decode c_Hb_spread 44 = .ok (.getfield 125, 3) := by decide +kernel
theorem d_Hb_spread_47 : decode c_Hb_spread 47 = .ok (.aload_n 0, 1) := by decide +kernel
theorem d_Hb_spread_48 : decode c_Hb_spread 48 = .ok (.getfield 42, 3) := by decide +kernel
theorem d_Hb_spread_51 : decode c_Hb_spread 51 = .ok (.getfield 107, 3) := by decide +kernel
theorem d_Hb_spread_54 : decode c_Hb_spread 54 = .ok (.iload 4, 2) := by decide +kernel
theorem d_Hb_spread_56 : decode c_Hb_spread 56 = .ok (.aaload, 1) := by decide +kernel
theorem d_Hb_spread_57 : decode c_Hb_spread 57 = .ok (.getfield 125, 3) := by decide +kernel
theorem d_Hb_spread_60 : decode c_Hb_spread 60 = .ok (.isub, 1) := by decide +kernel
theorem d_Hb_spread_61 : decode c_Hb_spread 61 = .ok (.invokestatic 202, 3) := by decide +kernel
theorem d_Hb_spread_64 : decode c_Hb_spread 64 = .ok (.istore 5, 2) := by decide +kernel
theorem d_Hb_spread_66 : decode c_Hb_spread 66 = .ok (.iload 5, 2) := by decide +kernel
theorem d_Hb_spread_68 : decode c_Hb_spread 68 = .ok (.iload_n 2, 1) := by decide +kernel
theorem d_Hb_spread_69 : decode c_Hb_spread 69 = .ok (.if_icmp .le 14, 3) := by decide +kernel
theorem d_Hb_spread_72 : decode c_Hb_spread 72 = .ok (.iload 5, 2) := by decide +kernel
theorem d_Hb_spread_74 : decode c_Hb_spread 74 = .ok (.istore_n 2, 1) := by decide +kernel
theorem d_Hb_spread_75 : decode c_Hb_spread 75 = .ok (.bipush 10, 2) := by decide +kernel
theorem d_Hb_spread_77 : decode c_Hb_spread 77 = .ok (.iload_n 3, 1) := by decide +kernel
theorem d_Hb_spread_78 : decode c_Hb_spread 78 = .ok (.imul, 1) := by decide +kernel
theorem d_Hb_spread_79 : decode c_Hb_spread 79 = .ok (.iload 4, 2) := by decide +kernel
theorem d_Hb_spread_81 : decode c_Hb_spread 81 = .ok (.iadd, 1) := by decide +kernel
theorem d_Hb_spread_82 : decode c_Hb_spread 82 = .ok (.istore_n 1, 1) := by decide +kernel
theorem d_Hb_spread_83 : decode c_Hb_spread 83 = .ok (.iinc 4 1, 3) := by decide +kernel
theorem d_Hb_spread_86 : decode c_Hb_spread 86 = .ok (.goto (-63), 3) := by decide +kernel
theorem d_Hb_spread_89 : decode c_Hb_spread 89 = .ok (.iinc 3 1, 3) := by decide +kernel
theorem d_Hb_spread_92 : decode c_Hb_spread 92 = .ok (.goto (-85), 3) := by decide +kernel
theorem d_Hb_spread_95 : decode c_Hb_spread 95 = .ok (.iload_n 1, 1) := by decide +kernel
theorem d_Hb_spread_96 : decode c_Hb_spread 96 = .ok (.ireturn, 1) := by decide +kernel
theorem d_Hb_fees_0 : decode c_Hb_fees 0 = .ok (.iload_n 2, 1) := by decide +kernel
theorem d_Hb_fees_1 : decode c_Hb_fees 1 = .ok (.invokestatic 143, 3) := by decide +kernel
theorem d_Hb_fees_4 : decode c_Hb_fees 4 = .ok (.ifCond .eq 16, 3) := by decide +kernel
theorem d_Hb_fees_7 : decode c_Hb_fees 7 = .ok (.iload_n 1, 1) := by decide +kernel
theorem d_Hb_fees_8 : decode c_Hb_fees 8 = .ok (.iconst (-1), 1) := by decide +kernel
theorem d_Hb_fees_9 : decode c_Hb_fees 9 = .ok (.if_icmp .eq 13, 3) := by decide +kernel
theorem d_Hb_fees_12 : decode c_Hb_fees 12 = .ok (.aload_n 0, 1) := by decide +kernel
theorem d_Hb_fees_13 : decode c_Hb_fees 13 = .ok (.iload_n 1, 1) := by decide +kernel
theorem d_Hb_fees_14 : decode c_Hb_fees 14 = .ok (.invokevirtual 103, 3) := by decide +kernel
theorem d_Hb_fees_17 : decode c_Hb_fees 17 = .ok (.ifCond .ne 5, 3) := by decide +kernel
theorem d_Hb_fees_20 : decode c_Hb_fees 20 = .ok (.iconst (-1), 1) := by decide +kernel
theorem d_Hb_fees_21 : decode c_Hb_fees 21 = .ok (.ireturn, 1) := by decide +kernel
theorem d_Hb_fees_22 : decode c_Hb_fees 22 = .ok (.iload_n 1, 1) := by decide +kernel
theorem d_Hb_fees_23 : decode c_Hb_fees 23 = .ok (.ifCond .lt 18, 3) := by decide +kernel
theorem d_Hb_fees_26 : decode c_Hb_fees 26 = .ok (.aload_n 0, 1) := by decide +kernel
theorem d_Hb_fees_27 : decode c_Hb_fees 27 = .ok (.aload_n 0, 1) := by decide +kernel
theorem d_Hb_fees_28 : decode c_Hb_fees 28 = .ok (.getfield 42, 3) := by decide +kernel
theorem d_Hb_fees_31 : decode c_Hb_fees 31 = .ok (.getfield 107, 3) := by decide +kernel
theorem d_Hb_fees_34 : decode c_Hb_fees 34 = .ok (.iload_n 1, 1) := by decide +kernel
theorem d_Hb_fees_35 : decode c_Hb_fees 35 = .ok (.aaload, 1) := by decide +kernel
theorem d_Hb_fees_36 : decode c_Hb_fees 36 = .ok (.iload_n 2, 1) := by decide +kernel
theorem d_Hb_fees_37 : decode c_Hb_fees 37 = .ok (.invokevirtual 207, 3) := by decide +kernel
theorem d_Hb_fees_40 : decode c_Hb_fees 40 = .ok (.ireturn, 1) := by decide +kernel
theorem d_Hb_fees_41 : decode c_Hb_fees 41 = .ok (.bipush (-4), 2) := by decide +kernel
theorem d_Hb_fees_43 : decode c_Hb_fees 43 = .ok (.istore_n 3, 1) := by decide +kernel
theorem d_Hb_fees_44 : decode c_Hb_fees 44 = .ok (.iconst 0, 1) := by decide +kernel
theorem d_Hb_fees_45 : decode c_Hb_fees 45 = .ok (.istore 4, 2) := by decide +kernel
theorem d_Hb_fees_47 : decode c_Hb_fees 47 = .ok (.iconst 0, 1) := by decide +kernel
theorem d_Hb_fees_48 : decode c_Hb_fees 48 = .ok (.istore 5, 2) := by decide +kernel
theorem d_Hb_fees_50 : decode c_Hb_fees 50 = .ok (.iload 5, 2) := by decide +kernel
theorem d_Hb_fees_52 : decode c_Hb_fees 52 = .ok (.aload_n 0, 1) := by decide +kernel
theorem d_Hb_fees_53 : decode c_Hb_fees 53 = .ok (.getfield 42, 3) := by decide +kernel
theorem d_Hb_fees_56 : decode c_Hb_fees 56 = .ok (.getfield 149, 3) := by decide +kernel
theorem d_Hb_fees_59 : decode c_Hb_fees 59 = .ok (.if_icmp .ge 46, 3) := by decide +kernel
theorem d_Hb_fees_62 : decode c_Hb_fees 62 = .ok (.aload_n 0, 1) := by decide +kernel
theorem d_Hb_fees_63 : decode c_Hb_fees 63 = .ok (.aload_n 0, 1) := by decide +kernel
theorem d_Hb_fees_64 : decode c_Hb_fees 64 = .ok (.getfield 42, 3) := by decide +kernel
theorem d_Hb_fees_67 : decode c_Hb_fees 67 = .ok (.getfield 107, 3) := by decide +kernel
theorem d_Hb_fees_70 : decode c_Hb_fees 70 = .ok (.iload 5, 2) := by decide +kernel
theorem d_Hb_fees_72 : decode c_Hb_fees 72 = .ok (.aaload, 1) := by decide +kernel
theorem d_Hb_fees_73 : decode c_Hb_fees 73 = .ok (.iload_n 2, 1) := by decide +kernel
theorem d_Hb_fees_74 : decode c_Hb_fees 74 = .ok (.invokevirtual 207, 3) := by decide +kernel
theorem d_Hb_fees_77 : decode c_Hb_fees 77 = .ok (.istore 6, 2) := by decide +kernel
theorem d_Hb_fees_79 : decode c_Hb_fees 79 = .ok (.iload_n 3, 1) := by decide +kernel
theorem d_Hb_fees_80 : decode c_Hb_fees 80 = .ok (.bipush (-4), 2) := by decide +kernel
theorem d_Hb_fees_82 : decode c_Hb_fees 82 = .ok (.if_icmp .eq 10, 3) := by decide +kernel
theorem d_Hb_fees_85 : decode c_Hb_fees 85 = .ok (.iload 6, 2) := by decide +kernel
theorem d_Hb_fees_87 : decode c_Hb_fees 87 = .ok (.iload 4, 2) := by decide +kernel
theorem d_Hb_fees_89 : decode c_Hb_fees 89 = .ok (.if_icmp .ge 10, 3) := by decide +kernel
theorem d_Hb_fees_92 : decode c_Hb_fees 92 = .ok (.iload 6, 2) := by decide +kernel
theorem d_Hb_fees_94 : decode c_Hb_fees 94 = .ok (.istore 4, 2) := by decide +kernel
theorem d_Hb_fees_96 : decode c_Hb_fees 96 = .ok (.iload 5, 2) := by decide +kernel
theorem d_Hb_fees_98 : decode c_Hb_fees 98 = .ok (.istore_n 3, 1) := by decide +kernel
theorem d_Hb_fees_99 : decode c_Hb_fees 99 = .ok (.iinc 5 1, 3) := by decide +kernel
theorem d_Hb_fees_102 : decode c_Hb_fees 102 = .ok (.goto (-52), 3) := by decide +kernel
theorem d_Hb_fees_105 : decode c_Hb_fees 105 = .ok (.iload_n 3, 1) := by decide +kernel
theorem d_Hb_fees_106 : decode c_Hb_fees 106 = .ok (.ireturn, 1) := by decide +kernel
theorem d_Hb_homes_0 : decode c_Hb_homes 0 = .ok (.aload_n 0, 1) := by decide +kernel
theorem d_Hb_homes_1 : decode c_Hb_homes 1 = .ok (.iload_n 2, 1) := by decide +kernel
theorem d_Hb_homes_2 : decode c_Hb_homes 2 = .ok (.invokevirtual 103, 3) := by decide +kernel
theorem d_Hb_homes_5 : decode c_Hb_homes 5 = .ok (.ifCond .eq 18, 3) := by decide +kernel
theorem d_Hb_homes_8 : decode c_Hb_homes 8 = .ok (.iload_n 3, 1) := by decide +kernel
theorem d_Hb_homes_9 : decode c_Hb_homes 9 = .ok (.invokestatic 143, 3) := by decide +kernel
theorem d_Hb_homes_12 : decode c_Hb_homes 12 = .ok (.ifCond .eq 11, 3) := by decide +kernel
theorem d_Hb_homes_15 : decode c_Hb_homes 15 = .ok (.iload 4, 2) := by decide +kernel
theorem d_Hb_homes_17 : decode c_Hb_homes 17 = .ok (.invokestatic 180, 3) := by decide +kernel
theorem d_Hb_homes_20 : decode c_Hb_homes 20 = .ok (.ifCond .ne 5, 3) := by decide +kernel
theorem d_Hb_homes_23 : decode c_Hb_homes 23 = .ok (.iconst (-1), 1) := by decide +kernel
theorem d_Hb_homes_24 : decode c_Hb_homes 24 = .ok (.ireturn, 1) := by decide +kernel
theorem d_Hb_homes_25 : decode c_Hb_homes 25 = .ok (.aload_n 0, 1) := by decide +kernel
theorem d_Hb_homes_26 : decode c_Hb_homes 26 = .ok (.iload_n 1, 1) := by decide +kernel
theorem d_Hb_homes_27 : decode c_Hb_homes 27 = .ok (.invokevirtual 73, 3) := by decide +kernel
theorem d_Hb_homes_30 : decode c_Hb_homes 30 = .ok (.istore 5, 2) := by decide +kernel
theorem d_Hb_homes_32 : decode c_Hb_homes 32 = .ok (.iload 5, 2) := by decide +kernel
theorem d_Hb_homes_34 : decode c_Hb_homes 34 = .ok (.ifCond .eq 6, 3) := by decide +kernel
theorem d_Hb_homes_37 : decode c_Hb_homes 37 = .ok (.iload 5, 2) := by decide +kernel
theorem d_Hb_homes_39 : decode c_Hb_homes 39 = .ok (.ireturn, 1) := by decide +kernel
theorem d_Hb_homes_40 : decode c_Hb_homes 40 = .ok (.iconst 0, 1) := by decide +kernel
theorem d_Hb_homes_41 : decode c_Hb_homes 41 = .ok (.istore 6, 2) := by decide +kernel
theorem d_Hb_homes_43 : decode c_Hb_homes 43 = .ok (.iconst 0, 1) := by decide +kernel
theorem d_Hb_homes_44 : decode c_Hb_homes 44 = .ok (.istore 7, 2) := by decide +kernel
theorem d_Hb_homes_46 : decode c_Hb_homes 46 = .ok (.iload 7, 2) := by decide +kernel
theorem d_Hb_homes_48 : decode c_Hb_homes 48 = .ok (.bipush 21, 2) := by decide +kernel
theorem d_Hb_homes_50 : decode c_Hb_homes 50 = .ok (.if_icmp .ge 61, 3) := by decide +kernel
theorem d_Hb_homes_53 : decode c_Hb_homes 53 = .ok (.aload_n 0, 1) := by decide +kernel
theorem d_Hb_homes_54 : decode c_Hb_homes 54 = .ok (.getfield 58, 3) := by decide +kernel
theorem d_Hb_homes_57 : decode c_Hb_homes 57 = .ok (.aload_n 0, 1) := by decide +kernel
theorem d_Hb_homes_58 : decode c_Hb_homes 58 = .ok (.getfield 42, 3) := by decide +kernel
theorem d_Hb_homes_61 : decode c_Hb_homes 61 = .ok (.getfield 107, 3) := by decide +kernel
theorem d_Hb_homes_64 : decode c_Hb_homes 64 = .ok (.iload_n 2, 1) := by decide +kernel
theorem d_Hb_homes_65 : decode c_Hb_homes 65 = .ok (.aaload, 1) := by decide +kernel
theorem d_Hb_homes_66 : decode c_Hb_homes 66 = .ok (.invokevirtual 183, 3) := by decide +kernel
theorem d_Hb_homes_69 : decode c_Hb_homes 69 = .ok (.aload_n 0, 1) := by decide +kernel
theorem d_Hb_homes_70 : decode c_Hb_homes 70 = .ok (.getfield 58, 3) := by decide +kernel
theorem d_Hb_homes_73 : decode c_Hb_homes 73 = .ok (.iload 7, 2) := by decide +kernel
theorem d_Hb_homes_75 : decode c_Hb_homes 75 = .ok (.putfield 122, 3) := by decide +kernel
theorem d_Hb_homes_78 : decode c_Hb_homes 78 = .ok (.aload_n 0, 1) := by decide +kernel
theorem d_Hb_homes_79 : decode c_Hb_homes 79 = .ok (.aload_n 0, 1) := by decide +kernel
theorem d_Hb_homes_80 : decode c_Hb_homes 80 = .ok (.getfield 58, 3) := by decide +kernel
theorem d_Hb_homes_83 : decode c_Hb_homes 83 = .ok (.aload_n 0, 1) := by decide +kernel
theorem d_Hb_homes_84 : decode c_Hb_homes 84 = .ok (.getfield 64, 3) := by decide +kernel
theorem d_Hb_homes_87 : decode c_Hb_homes 87 = .ok (.iload_n 1, 1) := by decide +kernel
theorem d_Hb_homes_88 : decode c_Hb_homes 88 = .ok (.aaload, 1) := by decide +kernel
theorem d_Hb_homes_89 : decode c_Hb_homes 89 = .ok (.iload_n 3, 1) := by decide +kernel
theorem d_Hb_homes_90 : decode c_Hb_homes 90 = .ok (.invokevirtual 210, 3) := by decide +kernel
theorem d_Hb_homes_93 : decode c_Hb_homes 93 = .ok (.ifCond .eq 12, 3) := by decide +kernel
theorem d_Hb_homes_96 : decode c_Hb_homes 96 = .ok (.iload 6, 2) := by decide +kernel
theorem d_Hb_homes_98 : decode c_Hb_homes 98 = .ok (.iconst 1, 1) := by decide +kernel
theorem d_Hb_homes_99 : decode c_Hb_homes 99 = .ok (.iload 7, 2) := by decide +kernel
theorem d_Hb_homes_101 : decode c_Hb_homes 101 = .ok (.ishl, 1) := by decide +kernel
theorem d_Hb_homes_102 : decode c_Hb_homes 102 = .ok (.ior, 1) := by decide +kernel
theorem d_Hb_homes_103 : decode c_Hb_homes 103 = .ok (.istore 6, 2) := by decide +kernel
theorem d_Hb_homes_105 : decode c_Hb_homes 105 = .ok (.iinc 7 1, 3) := by decide +kernel
theorem d_Hb_homes_108 : decode c_Hb_homes 108 = .ok (.goto (-62), 3) := by decide +kernel
theorem d_Hb_homes_111 : decode c_Hb_homes 111 = .ok (.iload 4, 2) := by decide +kernel
theorem d_Hb_homes_113 : decode c_Hb_homes 113 = .ok (.ifCond .ne 8, 3) := by decide +kernel
theorem d_Hb_homes_116 : decode c_Hb_homes 116 = .ok (.iload 6, 2) := by decide +kernel
theorem d_Hb_homes_118 : decode c_Hb_homes 118 = .ok (.goto 8, 3) := by decide +kernel
theorem d_Hb_homes_121 : decode c_Hb_homes 121 = .ok (.iload 6, 2) := by decide +kernel
theorem d_Hb_homes_123 : decode c_Hb_homes 123 = .ok (.invokestatic 214, 3) := by decide +kernel
theorem d_Hb_homes_126 : decode c_Hb_homes 126 = .ok (.ireturn, 1) := by decide +kernel
theorem d_Hb_whatIs_0 : decode c_Hb_whatIs 0 = .ok (.aload_n 0, 1) := by decide +kernel
theorem d_Hb_whatIs_1 : decode c_Hb_whatIs 1 = .ok (.iload_n 2, 1) := by decide +kernel
theorem d_Hb_whatIs_2 : decode c_Hb_whatIs 2 = .ok (.invokevirtual 103, 3) := by decide +kernel
theorem d_Hb_whatIs_5 : decode c_Hb_whatIs 5 = .ok (.ifCond .eq 18, 3) := by decide +kernel
theorem d_Hb_whatIs_8 : decode c_Hb_whatIs 8 = .ok (.iload_n 3, 1) := by decide +kernel
theorem d_Hb_whatIs_9 : decode c_Hb_whatIs 9 = .ok (.invokestatic 143, 3) := by decide +kernel
theorem d_Hb_whatIs_12 : decode c_Hb_whatIs 12 = .ok (.ifCond .eq 11, 3) := by decide +kernel
theorem d_Hb_whatIs_15 : decode c_Hb_whatIs 15 = .ok (.iload 4, 2) := by decide +kernel
theorem d_Hb_whatIs_17 : decode c_Hb_whatIs 17 = .ok (.invokestatic 180, 3) := by decide +kernel
theorem d_Hb_whatIs_20 : decode c_Hb_whatIs 20 = .ok (.ifCond .ne 5, 3) := by decide +kernel
theorem d_Hb_whatIs_23 : decode c_Hb_whatIs 23 = .ok (.iconst (-1), 1) := by decide +kernel
theorem d_Hb_whatIs_24 : decode c_Hb_whatIs 24 = .ok (.ireturn, 1) := by decide +kernel
theorem d_Hb_whatIs_25 : decode c_Hb_whatIs 25 = .ok (.aload_n 0, 1) := by decide +kernel
theorem d_Hb_whatIs_26 : decode c_Hb_whatIs 26 = .ok (.iload_n 1, 1) := by decide +kernel
theorem d_Hb_whatIs_27 : decode c_Hb_whatIs 27 = .ok (.invokevirtual 73, 3) := by decide +kernel
theorem d_Hb_whatIs_30 : decode c_Hb_whatIs 30 = .ok (.istore 5, 2) := by decide +kernel
theorem d_Hb_whatIs_32 : decode c_Hb_whatIs 32 = .ok (.iload 5, 2) := by decide +kernel
theorem d_Hb_whatIs_34 : decode c_Hb_whatIs 34 = .ok (.ifCond .eq 6, 3) := by decide +kernel
theorem d_Hb_whatIs_37 : decode c_Hb_whatIs 37 = .ok (.iload 5, 2) := by decide +kernel
theorem d_Hb_whatIs_39 : decode c_Hb_whatIs 39 = .ok (.ireturn, 1) := by decide +kernel
theorem d_Hb_whatIs_40 : decode c_Hb_whatIs 40 = .ok (.iload 4, 2) := by decide +kernel
theorem d_Hb_whatIs_42 : decode c_Hb_whatIs 42 = .ok (.ifCond .ne 18, 3) := by decide +kernel
theorem d_Hb_whatIs_45 : decode c_Hb_whatIs 45 = .ok (.aload_n 0, 1) := by decide +kernel
theorem d_Hb_whatIs_46 : decode c_Hb_whatIs 46 = .ok (.aload_n 0, 1) := by decide +kernel
theorem d_Hb_whatIs_47 : decode c_Hb_whatIs 47 = .ok (.getfield 64, 3) := by decide +kernel
theorem d_Hb_whatIs_50 : decode c_Hb_whatIs 50 = .ok (.iload_n 1, 1) := by decide +kernel
theorem d_Hb_whatIs_51 : decode c_Hb_whatIs 51 = .ok (.aaload, 1) := by decide +kernel
theorem d_Hb_whatIs_52 : decode c_Hb_whatIs 52 = .ok (.iload_n 2, 1) := by decide +kernel
theorem d_Hb_whatIs_53 : decode c_Hb_whatIs 53 = .ok (.iload_n 3, 1) := by decide +kernel
theorem d_Hb_whatIs_54 : decode c_Hb_whatIs 54 = .ok (.invokevirtual 219, 3) := by decide +kernel
theorem d_Hb_whatIs_57 : decode c_Hb_whatIs 57 = .ok (.goto 15, 3) := by decide +kernel
theorem d_Hb_whatIs_60 : decode c_Hb_whatIs 60 = .ok (.aload_n 0, 1) := by decide +kernel
theorem d_Hb_whatIs_61 : decode c_Hb_whatIs 61 = .ok (.aload_n 0, 1) := by decide +kernel
theorem d_Hb_whatIs_62 : decode c_Hb_whatIs 62 = .ok (.getfield 64, 3) := by decide +kernel
theorem d_Hb_whatIs_65 : decode c_Hb_whatIs 65 = .ok (.iload_n 1, 1) := by decide +kernel
theorem d_Hb_whatIs_66 : decode c_Hb_whatIs 66 = .ok (.aaload, 1) := by decide +kernel
theorem d_Hb_whatIs_67 : decode c_Hb_whatIs 67 = .ok (.iload_n 2, 1) := by decide +kernel
theorem d_Hb_whatIs_68 : decode c_Hb_whatIs 68 = .ok (.iload_n 3, 1) := by decide +kernel
theorem d_Hb_whatIs_69 : decode c_Hb_whatIs 69 = .ok (.invokevirtual 223, 3) := by decide +kernel
theorem d_Hb_whatIs_72 : decode c_Hb_whatIs 72 = .ok (.ireturn, 1) := by decide +kernel
theorem d_Hb_two_0 : decode c_Hb_two 0 = .ok (.aload_n 0, 1) := by decide +kernel
theorem d_Hb_two_1 : decode c_Hb_two 1 = .ok (.iload_n 1, 1) := by decide +kernel
theorem d_Hb_two_2 : decode c_Hb_two 2 = .ok (.invokevirtual 103, 3) := by decide +kernel
theorem d_Hb_two_5 : decode c_Hb_two 5 = .ok (.ifCond .eq 23, 3) := by decide +kernel
theorem d_Hb_two_8 : decode c_Hb_two 8 = .ok (.aload_n 0, 1) := by decide +kernel
theorem d_Hb_two_9 : decode c_Hb_two 9 = .ok (.iload_n 2, 1) := by decide +kernel
theorem d_Hb_two_10 : decode c_Hb_two 10 = .ok (.invokevirtual 103, 3) := by decide +kernel
theorem d_Hb_two_13 : decode c_Hb_two 13 = .ok (.ifCond .eq 15, 3) := by decide +kernel
theorem d_Hb_two_16 : decode c_Hb_two 16 = .ok (.iload_n 1, 1) := by decide +kernel
theorem d_Hb_two_17 : decode c_Hb_two 17 = .ok (.iload_n 2, 1) := by decide +kernel
theorem d_Hb_two_18 : decode c_Hb_two 18 = .ok (.if_icmp .eq 10, 3) := by decide +kernel
theorem d_Hb_two_21 : decode c_Hb_two 21 = .ok (.iload_n 3, 1) := by decide +kernel
theorem d_Hb_two_22 : decode c_Hb_two 22 = .ok (.invokestatic 143, 3) := by decide +kernel
theorem d_Hb_two_25 : decode c_Hb_two 25 = .ok (.ifCond .ne 5, 3) := by decide +kernel
theorem d_Hb_two_28 : decode c_Hb_two 28 = .ok (.iconst (-1), 1) := by decide +kernel
theorem d_Hb_two_29 : decode c_Hb_two 29 = .ok (.ireturn, 1) := by decide +kernel
theorem d_Hb_two_30 : decode c_Hb_two 30 = .ok (.iconst 0, 1) := by decide +kernel
theorem d_Hb_two_31 : decode c_Hb_two 31 = .ok (.istore 4, 2) := by decide +kernel
theorem d_Hb_two_33 : decode c_Hb_two 33 = .ok (.iload 4, 2) := by decide +kernel
theorem d_Hb_two_35 : decode c_Hb_two 35 = .ok (.iconst 4, 1) := by decide +kernel
theorem d_Hb_two_36 : decode c_Hb_two 36 = .ok (.if_icmp .ge 58, 3) := by decide +kernel
theorem d_Hb_two_39 : decode c_Hb_two 39 = .ok (.iload 4, 2) := by decide +kernel
theorem d_Hb_two_41 : decode c_Hb_two 41 = .ok (.iconst 2, 1) := by decide +kernel
theorem d_Hb_two_42 : decode c_Hb_two 42 = .ok (.idiv, 1) := by decide +kernel
theorem d_Hb_two_43 : decode c_Hb_two 43 = .ok (.istore 5, 2) := by decide +kernel
theorem d_Hb_two_45 : decode c_Hb_two 45 = .ok (.iload 4, 2) := by decide +kernel
theorem d_Hb_two_47 : decode c_Hb_two 47 = .ok (.iconst 2, 1) := by decide +kernel
theorem d_Hb_two_48 : decode c_Hb_two 48 = .ok (.irem, 1) := by decide +kernel
theorem d_Hb_two_49 : decode c_Hb_two 49 = .ok (.istore 6, 2) := by decide +kernel
theorem d_Hb_two_51 : decode c_Hb_two 51 = .ok (.aload_n 0, 1) := by decide +kernel
theorem d_Hb_two_52 : decode c_Hb_two 52 = .ok (.iload_n 1, 1) := by decide +kernel
theorem d_Hb_two_53 : decode c_Hb_two 53 = .ok (.iload 5, 2) := by decide +kernel
theorem d_Hb_two_55 : decode c_Hb_two 55 = .ok (.iload_n 2, 1) := by decide +kernel
theorem d_Hb_two_56 : decode c_Hb_two 56 = .ok (.iload 6, 2) := by decide +kernel
theorem d_Hb_two_58 : decode c_Hb_two 58 = .ok (.iload_n 3, 1) := by decide +kernel
theorem d_Hb_two_59 : decode c_Hb_two 59 = .ok (.invokevirtual 226, 3) := by decide +kernel
theorem d_Hb_two_62 : decode c_Hb_two 62 = .ok (.ifCond .eq 26, 3) := by decide +kernel
theorem d_Hb_two_65 : decode c_Hb_two 65 = .ok (.aload_n 0, 1) := by decide +kernel
theorem d_Hb_two_66 : decode c_Hb_two 66 = .ok (.iload_n 2, 1) := by decide +kernel
theorem d_Hb_two_67 : decode c_Hb_two 67 = .ok (.iload 6, 2) := by decide +kernel
theorem d_Hb_two_69 : decode c_Hb_two 69 = .ok (.iload_n 1, 1) := by decide +kernel
theorem d_Hb_two_70 : decode c_Hb_two 70 = .ok (.iload 5, 2) := by decide +kernel
theorem d_Hb_two_72 : decode c_Hb_two 72 = .ok (.iload_n 3, 1) := by decide +kernel
theorem d_Hb_two_73 : decode c_Hb_two 73 = .ok (.invokevirtual 226, 3) := by decide +kernel
theorem d_Hb_two_76 : decode c_Hb_two 76 = .ok (.ifCond .eq 12, 3) := by decide +kernel
theorem d_Hb_two_79 : decode c_Hb_two 79 = .ok (.bipush 10, 2) := by decide +kernel
theorem d_Hb_two_81 : decode c_Hb_two 81 = .ok (.iload 5, 2) := by decide +kernel
theorem d_Hb_two_83 : decode c_Hb_two 83 = .ok (.imul, 1) := by decide +kernel
theorem d_Hb_two_84 : decode c_Hb_two 84 = .ok (.iload 6, 2) := by decide +kernel
theorem d_Hb_two_86 : decode c_Hb_two 86 = .ok (.iadd, 1) := by decide +kernel
theorem d_Hb_two_87 : decode c_Hb_two 87 = .ok (.ireturn, 1) := by decide +kernel
theorem d_Hb_two_88 : decode c_Hb_two 88 = .ok (.iinc 4 1, 3) := by decide +kernel
theorem d_Hb_two_91 : decode c_Hb_two 91 = .ok (.goto (-58), 3) := by decide +kernel
theorem d_Hb_two_94 : decode c_Hb_two 94 = .ok (.bipush (-4), 2) := by decide +kernel
theorem d_Hb_two_96 : decode c_Hb_two 96 = .ok (.ireturn, 1) := by decide +kernel
theorem d_Hb_storm_0 : decode c_Hb_storm 0 = .ok (.aload_n 0, 1) := by decide +kernel
theorem d_Hb_storm_1 : decode c_Hb_storm 1 = .ok (.iload_n 1, 1) := by decide +kernel
theorem d_Hb_storm_2 : decode c_Hb_storm 2 = .ok (.invokevirtual 103, 3) := by decide +kernel
theorem d_Hb_storm_5 : decode c_Hb_storm 5 = .ok (.ifCond .eq 42, 3) := by decide +kernel
theorem d_Hb_storm_8 : decode c_Hb_storm 8 = .ok (.iload_n 2, 1) := by decide +kernel
theorem d_Hb_storm_9 : decode c_Hb_storm 9 = .ok (.iconst 1, 1) := by decide +kernel
theorem d_Hb_storm_10 : decode c_Hb_storm 10 = .ok (.bipush 60, 2) := by decide +kernel
theorem d_Hb_storm_12 : decode c_Hb_storm 12 = .ok (.invokestatic 169, 3) := by decide +kernel
theorem d_Hb_storm_15 : decode c_Hb_storm 15 = .ok (.ifCond .eq 32, 3) := by decide +kernel
theorem d_Hb_storm_18 : decode c_Hb_storm 18 = .ok (.iload_n 3, 1) := by decide +kernel
theorem d_Hb_storm_19 : decode c_Hb_storm 19 = .ok (.iconst 0, 1) := by decide +kernel
theorem d_Hb_storm_20 : decode c_Hb_storm 20 = .ok (.bipush 7, 2) := by decide +kernel
theorem d_Hb_storm_22 : decode c_Hb_storm 22 = .ok (.invokestatic 169, 3) := by decide +kernel
theorem d_Hb_storm_25 : decode c_Hb_storm 25 = .ok (.ifCond .eq 22, 3) := by decide +kernel
theorem d_Hb_storm_28 : decode c_Hb_storm 28 = .ok (.iload 4, 2) := by decide +kernel
theorem d_Hb_storm_30 : decode c_Hb_storm 30 = .ok (.iconst 2, 1) := by decide +kernel
theorem d_Hb_storm_31 : decode c_Hb_storm 31 = .ok (.bipush 20, 2) := by decide +kernel
theorem d_Hb_storm_33 : decode c_Hb_storm 33 = .ok (.invokestatic 169, 3) := by decide +kernel
theorem d_Hb_storm_36 : decode c_Hb_storm 36 = .ok (.ifCond .eq 11, 3) := by decide +kernel
theorem d_Hb_storm_39 : decode c_Hb_storm 39 = .ok (.iload 5, 2) := by decide +kernel
theorem d_Hb_storm_41 : decode c_Hb_storm 41 = .ok (.invokestatic 180, 3) := by decide +kernel
theorem d_Hb_storm_44 : decode c_Hb_storm 44 = .ok (.ifCond .ne 7, 3) := by decide +kernel
theorem d_Hb_storm_47 : decode c_Hb_storm 47 = .ok (.ldc2_w 230, 3) := by decide +kernel
theorem d_Hb_storm_50 : decode c_Hb_storm 50 = .ok (.lreturn, 1) := by decide +kernel
theorem d_Hb_storm_51 : decode c_Hb_storm 51 = .ok (.lconst 0, 1) := by decide +kernel
theorem d_Hb_storm_52 : decode c_Hb_storm 52 = .ok (.lstore 6, 2) := by decide +kernel
theorem d_Hb_storm_54 : decode c_Hb_storm 54 = .ok (.lconst 1, 1) := by decide +kernel
theorem d_Hb_storm_55 : decode c_Hb_storm 55 = .ok (.lstore 8, 2) := by decide +kernel
theorem d_Hb_storm_57 : decode c_Hb_storm 57 = .ok (.lconst 1, 1) := by decide +kernel
theorem d_Hb_storm_58 : decode c_Hb_storm 58 = .ok (.lstore 10, 2) := by decide +kernel
theorem d_Hb_storm_60 : decode c_Hb_storm 60 = .ok (.aload_n 0, 1) := by decide +kernel
theorem d_Hb_storm_61 : decode c_Hb_storm 61 = .ok (.getfield 58, 3) := by decide +kernel
theorem d_Hb_storm_64 : decode c_Hb_storm 64 = .ok (.aload_n 0, 1) := by decide +kernel
theorem d_Hb_storm_65 : decode c_Hb_storm 65 = .ok (.getfield 42, 3) := by decide +kernel
theorem d_Hb_storm_68 : decode c_Hb_storm 68 = .ok (.getfield 107, 3) := by decide +kernel
theorem d_Hb_storm_71 : decode c_Hb_storm 71 = .ok (.iload_n 1, 1) := by decide +kernel
theorem d_Hb_storm_72 : decode c_Hb_storm 72 = .ok (.aaload, 1) := by decide +kernel
theorem d_Hb_storm_73 : decode c_Hb_storm 73 = .ok (.invokevirtual 183, 3) := by decide +kernel
theorem d_Hb_storm_76 : decode c_Hb_storm 76 = .ok (.iconst 0, 1) := by decide +kernel
theorem d_Hb_storm_77 : decode c_Hb_storm 77 = .ok (.istore 12, 2) := by decide +kernel
theorem d_Hb_storm_79 : decode c_Hb_storm 79 = .ok (.iload 12, 2) := by decide +kernel
theorem d_Hb_storm_81 : decode c_Hb_storm 81 = .ok (.iload_n 3, 1) := by decide +kernel
theorem d_Hb_storm_82 : decode c_Hb_storm 82 = .ok (.if_icmp .gt 64, 3) := by decide +kernel
theorem d_Hb_storm_85 : decode c_Hb_storm 85 = .ok (.aload_n 0, 1) := by decide +kernel
theorem d_Hb_storm_86 : decode c_Hb_storm 86 = .ok (.getfield 58, 3) := by decide +kernel
theorem d_Hb_storm_89 : decode c_Hb_storm 89 = .ok (.invokevirtual 137, 3) := by decide +kernel
theorem d_Hb_storm_92 : decode c_Hb_storm 92 = .ok (.iload_n 2, 1) := by decide +kernel
theorem d_Hb_storm_93 : decode c_Hb_storm 93 = .ok (.if_icmp .lt 10, 3) := by decide +kernel
theorem d_Hb_storm_96 : decode c_Hb_storm 96 = .ok (.lload 6, 2) := by decide +kernel
theorem d_Hb_storm_98 : decode c_Hb_storm 98 = .ok (.lload 10, 2) := by decide +kernel
theorem d_Hb_storm_100 : decode c_Hb_storm 100 = .ok (.ladd, 1) := by decide +kernel
theorem d_Hb_storm_101 : decode c_Hb_storm 101 = .ok (.lstore 6, 2) := by decide +kernel
theorem d_Hb_storm_103 : decode c_Hb_storm 103 = .ok (.lload 10, 2) := by decide +kernel
theorem d_Hb_storm_105 : decode c_Hb_storm 105 = .ok (.iload_n 3, 1) := by decide +kernel
theorem d_Hb_storm_106 : decode c_Hb_storm 106 = .ok (.iload 12, 2) := by decide +kernel
theorem d_Hb_storm_108 : decode c_Hb_storm 108 = .ok (.isub, 1) := by decide +kernel
theorem d_Hb_storm_109 : decode c_Hb_storm 109 = .ok (.i2l, 1) := by decide +kernel
theorem d_Hb_storm_110 : decode c_Hb_storm 110 = .ok (.lmul, 1) := by decide +kernel
theorem d_Hb_storm_111 : decode c_Hb_storm 111 = .ok (.iload 4, 2) := by decide +kernel
theorem d_Hb_storm_113 : decode c_Hb_storm 113 = .ok (.iconst 1, 1) := by decide +kernel
theorem d_Hb_storm_114 : decode c_Hb_storm 114 = .ok (.isub, 1) := by decide +kernel
theorem d_Hb_storm_115 : decode c_Hb_storm 115 = .ok (.i2l, 1) := by decide +kernel
theorem d_Hb_storm_116 : decode c_Hb_storm 116 = .ok (.lmul, 1) := by decide +kernel
theorem d_Hb_storm_117 : decode c_Hb_storm 117 = .ok (.iload 12, 2) := by decide +kernel
theorem d_Hb_storm_119 : decode c_Hb_storm 119 = .ok (.iconst 1, 1) := by decide +kernel
theorem d_Hb_storm_120 : decode c_Hb_storm 120 = .ok (.iadd, 1) := by decide +kernel
theorem d_Hb_storm_121 : decode c_Hb_storm 121 = .ok (.i2l, 1) := by decide +kernel
theorem d_Hb_storm_122 : decode c_Hb_storm 122 = .ok (.ldiv, 1) := by decide +kernel
theorem d_Hb_storm_123 : decode c_Hb_storm 123 = .ok (.lstore 10, 2) := by decide +kernel
theorem d_Hb_storm_125 : decode c_Hb_storm 125 = .ok (.aload_n 0, 1) := by decide +kernel
theorem d_Hb_storm_126 : decode c_Hb_storm 126 = .ok (.getfield 58, 3) := by decide +kernel
theorem d_Hb_storm_129 : decode c_Hb_storm 129 = .ok (.iconst 1, 1) := by decide +kernel
theorem d_Hb_storm_130 : decode c_Hb_storm 130 = .ok (.aload_n 0, 1) := by decide +kernel
theorem d_Hb_storm_131 : decode c_Hb_storm 131 = .ok (.getfield 42, 3) := by decide +kernel
theorem d_Hb_storm_134 : decode c_Hb_storm 134 = .ok (.getfield 131, 3) := by decide +kernel
theorem d_Hb_storm_137 : decode c_Hb_storm 137 = .ok (.invokevirtual 186, 3) := by decide +kernel
theorem d_Hb_storm_140 : decode c_Hb_storm 140 = .ok (.iinc 12 1, 3) := by decide +kernel
theorem d_Hb_storm_143 : decode c_Hb_storm 143 = .ok (.goto (-64), 3) := by decide +kernel
theorem d_Hb_storm_146 : decode c_Hb_storm 146 = .ok (.iconst 0, 1) := by decide +kernel
theorem d_Hb_storm_147 : decode c_Hb_storm 147 = .ok (.istore 12, 2) := by decide +kernel
theorem d_Hb_storm_149 : decode c_Hb_storm 149 = .ok (.iload 12, 2) := by decide +kernel
theorem d_Hb_storm_151 : decode c_Hb_storm 151 = .ok (.iload_n 3, 1) := by decide +kernel
theorem d_Hb_storm_152 : decode c_Hb_storm 152 = .ok (.if_icmp .ge 17, 3) := by decide +kernel
theorem d_Hb_storm_155 : decode c_Hb_storm 155 = .ok (.lload 8, 2) := by decide +kernel
theorem d_Hb_storm_157 : decode c_Hb_storm 157 = .ok (.iload 4, 2) := by decide +kernel
theorem d_Hb_storm_159 : decode c_Hb_storm 159 = .ok (.i2l, 1) := by decide +kernel
theorem d_Hb_storm_160 : decode c_Hb_storm 160 = .ok (.lmul, 1) := by decide +kernel
theorem d_Hb_storm_161 : decode c_Hb_storm 161 = .ok (.lstore 8, 2) := by decide +kernel
theorem d_Hb_storm_163 : decode c_Hb_storm 163 = .ok (.iinc 12 1, 3) := by decide +kernel
theorem d_Hb_storm_166 : decode c_Hb_storm 166 = .ok (.goto (-17), 3) := by decide +kernel
theorem d_Hb_storm_169 : decode c_Hb_storm 169 = .ok (.lload 6, 2) := by decide +kernel
theorem d_Hb_storm_171 : decode c_Hb_storm 171 = .ok (.lload 8, 2) := by decide +kernel
theorem d_Hb_storm_173 : decode c_Hb_storm 173 = .ok (.iload 5, 2) := by decide +kernel
theorem d_Hb_storm_175 : decode c_Hb_storm 175 = .ok (.invokestatic 232, 3) := by decide +kernel
theorem d_Hb_storm_178 : decode c_Hb_storm 178 = .ok (.lreturn, 1) := by decide +kernel
theorem d_Hb_mean_0 : decode c_Hb_mean 0 = .ok (.iload_n 1, 1) := by decide +kernel
theorem d_Hb_mean_1 : decode c_Hb_mean 1 = .ok (.invokestatic 180, 3) := by decide +kernel
theorem d_Hb_mean_4 : decode c_Hb_mean 4 = .ok (.ifCond .ne 7, 3) := by decide +kernel
theorem d_Hb_mean_7 : decode c_Hb_mean 7 = .ok (.ldc2_w 230, 3) := by decide +kernel
theorem d_Hb_mean_10 : decode c_Hb_mean 10 = .ok (.lreturn, 1) := by decide +kernel
theorem d_Hb_mean_11 : decode c_Hb_mean 11 = .ok (.aload_n 0, 1) := by decide +kernel
theorem d_Hb_mean_12 : decode c_Hb_mean 12 = .ok (.getfield 42, 3) := by decide +kernel
theorem d_Hb_mean_15 : decode c_Hb_mean 15 = .ok (.invokevirtual 177, 3) := by decide +kernel
theorem d_Hb_mean_18 : decode c_Hb_mean 18 = .ok (.i2l, 1) := by decide +kernel
theorem d_Hb_mean_19 : decode c_Hb_mean 19 = .ok (.iconst 1, 1) := by decide +kernel
theorem d_Hb_mean_20 : decode c_Hb_mean 20 = .ok (.aload_n 0, 1) := by decide +kernel
theorem d_Hb_mean_21 : decode c_Hb_mean 21 = .ok (.getfield 42, 3) := by decide +kernel
theorem d_Hb_mean_24 : decode c_Hb_mean 24 = .ok (.getfield 149, 3) := by decide +kernel
theorem d_Hb_mean_27 : decode c_Hb_mean 27 = .ok (.invokestatic 236, 3) := by decide +kernel
theorem d_Hb_mean_30 : decode c_Hb_mean 30 = .ok (.i2l, 1) := by decide +kernel
theorem d_Hb_mean_31 : decode c_Hb_mean 31 = .ok (.iload_n 1, 1) := by decide +kernel
theorem d_Hb_mean_32 : decode c_Hb_mean 32 = .ok (.invokestatic 232, 3) := by decide +kernel
theorem d_Hb_mean_35 : decode c_Hb_mean 35 = .ok (.lreturn, 1) := by decide +kernel
theorem d_Hb_forged_0 : decode c_Hb_forged 0 = .ok (.aload_n 0, 1) := by decide +kernel
theorem d_Hb_forged_1 : decode c_Hb_forged 1 = .ok (.iload_n 1, 1) := by decide +kernel
theorem d_Hb_forged_2 : decode c_Hb_forged 2 = .ok (.invokevirtual 73, 3) := by decide +kernel
theorem d_Hb_forged_5 : decode c_Hb_forged 5 = .ok (.istore_n 2, 1) := by decide +kernel
theorem d_Hb_forged_6 : decode c_Hb_forged 6 = .ok (.iload_n 2, 1) := by decide +kernel
theorem d_Hb_forged_7 : decode c_Hb_forged 7 = .ok (.ifCond .eq 5, 3) := by decide +kernel
theorem d_Hb_forged_10 : decode c_Hb_forged 10 = .ok (.iload_n 2, 1) := by decide +kernel
theorem d_Hb_forged_11 : decode c_Hb_forged 11 = .ok (.ireturn, 1) := by decide +kernel
theorem d_Hb_forged_12 : decode c_Hb_forged 12 = .ok (.aload_n 0, 1) := by decide +kernel
theorem d_Hb_forged_13 : decode c_Hb_forged 13 = .ok (.getfield 64, 3) := by decide +kernel
theorem d_Hb_forged_16 : decode c_Hb_forged 16 = .ok (.iload_n 1, 1) := by decide +kernel
theorem d_Hb_forged_17 : decode c_Hb_forged 17 = .ok (.aaload, 1) := by decide +kernel
theorem d_Hb_forged_18 : decode c_Hb_forged 18 = .ok (.astore_n 3, 1) := by decide +kernel
theorem d_Hb_forged_19 : decode c_Hb_forged 19 = .ok (.aload_n 3, 1) := by decide +kernel
theorem d_Hb_forged_20 : decode c_Hb_forged 20 = .ok (.getfield 89, 3) := by decide +kernel
theorem d_Hb_forged_23 : decode c_Hb_forged 23 = .ok (.iconst 2, 1) := by decide +kernel
theorem d_Hb_forged_24 : decode c_Hb_forged 24 = .ok (.irem, 1) := by decide +kernel
theorem d_Hb_forged_25 : decode c_Hb_forged 25 = .ok (.ifCond .eq 6, 3) := by decide +kernel
theorem d_Hb_forged_28 : decode c_Hb_forged 28 = .ok (.bipush (-13), 2) := by decide +kernel
theorem d_Hb_forged_30 : decode c_Hb_forged 30 = .ok (.ireturn, 1) := by decide +kernel
theorem d_Hb_forged_31 : decode c_Hb_forged 31 = .ok (.aload_n 0, 1) := by decide +kernel
theorem d_Hb_forged_32 : decode c_Hb_forged 32 = .ok (.getfield 49, 3) := by decide +kernel
theorem d_Hb_forged_35 : decode c_Hb_forged 35 = .ok (.iconst 0, 1) := by decide +kernel
theorem d_Hb_forged_36 : decode c_Hb_forged 36 = .ok (.aaload, 1) := by decide +kernel
theorem d_Hb_forged_37 : decode c_Hb_forged 37 = .ok (.astore 4, 2) := by decide +kernel
theorem d_Hb_forged_39 : decode c_Hb_forged 39 = .ok (.aload 4, 2) := by decide +kernel
theorem d_Hb_forged_41 : decode c_Hb_forged 41 = .ok (.aload_n 0, 1) := by decide +kernel
theorem d_Hb_forged_42 : decode c_Hb_forged 42 = .ok (.getfield 42, 3) := by decide +kernel
theorem d_Hb_forged_45 : decode c_Hb_forged 45 = .ok (.invokevirtual 85, 3) := by decide +kernel
theorem d_Hb_forged_48 : decode c_Hb_forged 48 = .ok (.iconst (-1), 1) := by decide +kernel
theorem d_Hb_forged_49 : decode c_Hb_forged 49 = .ok (.istore 5, 2) := by decide +kernel
theorem d_Hb_forged_51 : decode c_Hb_forged 51 = .ok (.iconst 0, 1) := by decide +kernel
theorem d_Hb_forged_52 : decode c_Hb_forged 52 = .ok (.istore 6, 2) := by decide +kernel
theorem d_Hb_forged_54 : decode c_Hb_forged 54 = .ok (.iload 6, 2) := by decide +kernel
theorem d_Hb_forged_56 : decode c_Hb_forged 56 = .ok (.iconst 1, 1) := by decide +kernel
theorem d_Hb_forged_57 : decode c_Hb_forged 57 = .ok (.iadd, 1) := by decide +kernel
theorem d_Hb_forged_58 : decode c_Hb_forged 58 = .ok (.aload_n 3, 1) := by decide +kernel
theorem d_Hb_forged_59 : decode c_Hb_forged 59 = .ok (.getfield 89, 3) := by decide +kernel
theorem d_Hb_forged_62 : decode c_Hb_forged 62 = .ok (.if_icmp .ge 86, 3) := by decide +kernel
theorem d_Hb_forged_65 : decode c_Hb_forged 65 = .ok (.aload_n 3, 1) := by decide +kernel
theorem d_Hb_forged_66 : decode c_Hb_forged 66 = .ok (.getfield 96, 3) := by decide +kernel
theorem d_Hb_forged_69 : decode c_Hb_forged 69 = .ok (.iload 6, 2) := by decide +kernel
theorem d_Hb_forged_71 : decode c_Hb_forged 71 = .ok (.iaload, 1) := by decide +kernel
theorem d_Hb_forged_72 : decode c_Hb_forged 72 = .ok (.istore 7, 2) := by decide +kernel
theorem d_Hb_forged_74 : decode c_Hb_forged 74 = .ok (.aload_n 3, 1) := by decide +kernel
theorem d_Hb_forged_75 : decode c_Hb_forged 75 = .ok (.getfield 96, 3) := by decide +kernel
theorem d_Hb_forged_78 : decode c_Hb_forged 78 = .ok (.iload 6, 2) := by decide +kernel
theorem d_Hb_forged_80 : decode c_Hb_forged 80 = .ok (.iconst 1, 1) := by decide +kernel
theorem d_Hb_forged_81 : decode c_Hb_forged 81 = .ok (.iadd, 1) := by decide +kernel
theorem d_Hb_forged_82 : decode c_Hb_forged 82 = .ok (.iaload, 1) := by decide +kernel
theorem d_Hb_forged_83 : decode c_Hb_forged 83 = .ok (.istore 8, 2) := by decide +kernel
theorem d_Hb_forged_85 : decode c_Hb_forged 85 = .ok (.aload_n 0, 1) := by decide +kernel
theorem d_Hb_forged_86 : decode c_Hb_forged 86 = .ok (.iload 7, 2) := by decide +kernel
theorem d_Hb_forged_88 : decode c_Hb_forged 88 = .ok (.invokevirtual 103, 3) := by decide +kernel
theorem d_Hb_forged_91 : decode c_Hb_forged 91 = .ok (.ifCond .eq 32, 3) := by decide +kernel
theorem d_Hb_forged_94 : decode c_Hb_forged 94 = .ok (.iload 8, 2) := by decide +kernel
theorem d_Hb_forged_96 : decode c_Hb_forged 96 = .ok (.invokestatic 143, 3) := by decide +kernel
theorem d_Hb_forged_99 : decode c_Hb_forged 99 = .ok (.ifCond .eq 24, 3) := by decide +kernel
theorem d_Hb_forged_102 : decode c_Hb_forged 102 = .ok (.iload 6, 2) := by decide +kernel
theorem d_Hb_forged_104 : decode c_Hb_forged 104 = .ok (.ifCond .le 24, 3) := by decide +kernel
theorem d_Hb_forged_107 : decode c_Hb_forged 107 = .ok (.aload 4, 2) := by decide +kernel
theorem d_Hb_forged_109 : decode c_Hb_forged 109 = .ok (.getfield 107, 3) := by decide +kernel
theorem d_Hb_forged_112 : decode c_Hb_forged 112 = .ok (.iload 7, 2) := by decide +kernel
theorem d_Hb_forged_114 : decode c_Hb_forged 114 = .ok (.aaload, 1) := by decide +kernel
theorem d_Hb_forged_115 : decode c_Hb_forged 115 = .ok (.getfield 125, 3) := by decide +kernel
theorem d_Hb_forged_118 : decode c_Hb_forged 118 = .ok (.iload 5, 2) := by decide +kernel
theorem d_Hb_forged_120 : decode c_Hb_forged 120 = .ok (.if_icmp .eq 8, 3) := by decide +kernel
theorem d_Hb_forged_123 : decode c_Hb_forged 123 = .ok (.iload 6, 2) := by decide +kernel
theorem d_Hb_forged_125 : decode c_Hb_forged 125 = .ok (.iconst 2, 1) := by decide +kernel
theorem d_Hb_forged_126 : decode c_Hb_forged 126 = .ok (.idiv, 1) := by decide +kernel
theorem d_Hb_forged_127 : decode c_Hb_forged 127 = .ok (.ireturn, 1) := by decide +kernel
theorem d_Hb_forged_128 : decode c_Hb_forged 128 = .ok (.aload 4, 2) := by decide +kernel
theorem d_Hb_forged_130 : decode c_Hb_forged 130 = .ok (.iload 7, 2) := by decide +kernel
theorem d_Hb_forged_132 : decode c_Hb_forged 132 = .ok (.iload 8, 2) := by decide +kernel
theorem d_Hb_forged_134 : decode c_Hb_forged 134 = .ok (.invokevirtual 165, 3) := by decide +kernel
theorem d_Hb_forged_137 : decode c_Hb_forged 137 = .ok (.pop, 1) := by decide +kernel
theorem d_Hb_forged_138 : decode c_Hb_forged 138 = .ok (.iload 8, 2) := by decide +kernel
theorem d_Hb_forged_140 : decode c_Hb_forged 140 = .ok (.istore 5, 2) := by decide +kernel
theorem d_Hb_forged_142 : decode c_Hb_forged 142 = .ok (.iinc 6 2, 3) := by decide +kernel
theorem d_Hb_forged_145 : decode c_Hb_forged 145 = .ok (.goto (-91), 3) := by decide +kernel
theorem d_Hb_forged_148 : decode c_Hb_forged 148 = .ok (.bipush (-4), 2) := by decide +kernel
theorem d_Hb_forged_150 : decode c_Hb_forged 150 = .ok (.ireturn, 1) := by decide +kernel
theorem d_Hb_judge_0 : decode c_Hb_judge 0 = .ok (.aload_n 0, 1) := by decide +kernel
theorem d_Hb_judge_1 : decode c_Hb_judge 1 = .ok (.iload_n 1, 1) := by decide +kernel
theorem d_Hb_judge_2 : decode c_Hb_judge 2 = .ok (.invokevirtual 73, 3) := by decide +kernel
theorem d_Hb_judge_5 : decode c_Hb_judge 5 = .ok (.istore_n 2, 1) := by decide +kernel
theorem d_Hb_judge_6 : decode c_Hb_judge 6 = .ok (.iload_n 2, 1) := by decide +kernel
theorem d_Hb_judge_7 : decode c_Hb_judge 7 = .ok (.ifCond .eq 5, 3) := by decide +kernel
theorem d_Hb_judge_10 : decode c_Hb_judge 10 = .ok (.iload_n 2, 1) := by decide +kernel
theorem d_Hb_judge_11 : decode c_Hb_judge 11 = .ok (.ireturn, 1) := by decide +kernel
theorem d_Hb_judge_12 : decode c_Hb_judge 12 = .ok (.aload_n 0, 1) := by decide +kernel
theorem d_Hb_judge_13 : decode c_Hb_judge 13 = .ok (.getfield 49, 3) := by decide +kernel
theorem d_Hb_judge_16 : decode c_Hb_judge 16 = .ok (.iconst 0, 1) := by decide +kernel
theorem d_Hb_judge_17 : decode c_Hb_judge 17 = .ok (.aaload, 1) := by decide +kernel
theorem d_Hb_judge_18 : decode c_Hb_judge 18 = .ok (.astore_n 3, 1) := by decide +kernel
theorem d_Hb_judge_19 : decode c_Hb_judge 19 = .ok (.aload_n 3, 1) := by decide +kernel
theorem d_Hb_judge_20 : decode c_Hb_judge 20 = .ok (.aload_n 0, 1) := by decide +kernel
theorem d_Hb_judge_21 : decode c_Hb_judge 21 = .ok (.getfield 42, 3) := by decide +kernel
theorem d_Hb_judge_24 : decode c_Hb_judge 24 = .ok (.invokevirtual 85, 3) := by decide +kernel
theorem d_Hb_judge_27 : decode c_Hb_judge 27 = .ok (.iconst 0, 1) := by decide +kernel
theorem d_Hb_judge_28 : decode c_Hb_judge 28 = .ok (.istore 4, 2) := by decide +kernel
theorem d_Hb_judge_30 : decode c_Hb_judge 30 = .ok (.iload 4, 2) := by decide +kernel
theorem d_Hb_judge_32 : decode c_Hb_judge 32 = .ok (.aload_n 0, 1) := by decide +kernel
theorem d_Hb_judge_33 : decode c_Hb_judge 33 = .ok (.getfield 64, 3) := by decide +kernel
theorem d_Hb_judge_36 : decode c_Hb_judge 36 = .ok (.iload_n 1, 1) := by decide +kernel
theorem d_Hb_judge_37 : decode c_Hb_judge 37 = .ok (.aaload, 1) := by decide +kernel
theorem d_Hb_judge_38 : decode c_Hb_judge 38 = .ok (.getfield 89, 3) := by decide +kernel
theorem d_Hb_judge_41 : decode c_Hb_judge 41 = .ok (.if_icmp .ge 35, 3) := by decide +kernel
theorem d_Hb_judge_44 : decode c_Hb_judge 44 = .ok (.aload_n 0, 1) := by decide +kernel
theorem d_Hb_judge_45 : decode c_Hb_judge 45 = .ok (.getfield 64, 3) := by decide +kernel
theorem d_Hb_judge_48 : decode c_Hb_judge 48 = .ok (.iload_n 1, 1) := by decide +kernel
theorem d_Hb_judge_49 : decode c_Hb_judge 49 = .ok (.aaload, 1) := by decide +kernel
theorem d_Hb_judge_50 : decode c_Hb_judge 50 = .ok (.iload 4, 2) := by decide +kernel
theorem d_Hb_judge_52 : decode c_Hb_judge 52 = .ok (.aload_n 3, 1) := by decide +kernel
theorem d_Hb_judge_53 : decode c_Hb_judge 53 = .ok (.invokevirtual 177, 3) := by decide +kernel
theorem d_Hb_judge_56 : decode c_Hb_judge 56 = .ok (.invokevirtual 239, 3) := by decide +kernel
theorem d_Hb_judge_59 : decode c_Hb_judge 59 = .ok (.ifCond .ne 6, 3) := by decide +kernel
theorem d_Hb_judge_62 : decode c_Hb_judge 62 = .ok (.iload 4, 2) := by decide +kernel
theorem d_Hb_judge_64 : decode c_Hb_judge 64 = .ok (.ireturn, 1) := by decide +kernel
theorem d_Hb_judge_65 : decode c_Hb_judge 65 = .ok (.aload_n 3, 1) := by decide +kernel
theorem d_Hb_judge_66 : decode c_Hb_judge 66 = .ok (.iconst 1, 1) := by decide +kernel
theorem d_Hb_judge_67 : decode c_Hb_judge 67 = .ok (.invokevirtual 173, 3) := by decide +kernel
theorem d_Hb_judge_70 : decode c_Hb_judge 70 = .ok (.iinc 4 1, 3) := by decide +kernel
theorem d_Hb_judge_73 : decode c_Hb_judge 73 = .ok (.goto (-43), 3) := by decide +kernel
theorem d_Hb_judge_76 : decode c_Hb_judge 76 = .ok (.bipush (-4), 2) := by decide +kernel
theorem d_Hb_judge_78 : decode c_Hb_judge 78 = .ok (.ireturn, 1) := by decide +kernel
theorem d_Hb_lands_0 : decode c_Hb_lands 0 = .ok (.iload_n 1, 1) := by decide +kernel
theorem d_Hb_lands_1 : decode c_Hb_lands 1 = .ok (.iconst 1, 1) := by decide +kernel
theorem d_Hb_lands_2 : decode c_Hb_lands 2 = .ok (.bipush 20, 2) := by decide +kernel
theorem d_Hb_lands_4 : decode c_Hb_lands 4 = .ok (.invokestatic 169, 3) := by decide +kernel
theorem d_Hb_lands_7 : decode c_Hb_lands 7 = .ok (.ifCond .eq 10, 3) := by decide +kernel
theorem d_Hb_lands_10 : decode c_Hb_lands 10 = .ok (.iload_n 3, 1) := by decide +kernel
theorem d_Hb_lands_11 : decode c_Hb_lands 11 = .ok (.invokestatic 180, 3) := by decide +kernel
theorem d_Hb_lands_14 : decode c_Hb_lands 14 = .ok (.ifCond .ne 5, 3) := by decide +kernel
theorem d_Hb_lands_17 : decode c_Hb_lands 17 = .ok (.iconst (-1), 1) := by decide +kernel
theorem d_Hb_lands_18 : decode c_Hb_lands 18 = .ok (.ireturn, 1) := by decide +kernel
theorem d_Hb_lands_19 : decode c_Hb_lands 19 = .ok (.aload_n 0, 1) := by decide +kernel
theorem d_Hb_lands_20 : decode c_Hb_lands 20 = .ok (.getfield 49, 3) := by decide +kernel
theorem d_Hb_lands_23 : decode c_Hb_lands 23 = .ok (.iconst 0, 1) := by decide +kernel
theorem d_Hb_lands_24 : decode c_Hb_lands 24 = .ok (.aaload, 1) := by decide +kernel
theorem d_Hb_lands_25 : decode c_Hb_lands 25 = .ok (.astore 4, 2) := by decide +kernel
theorem d_Hb_lands_27 : decode c_Hb_lands 27 = .ok (.iload_n 2, 1) := by decide +kernel
theorem d_Hb_lands_28 : decode c_Hb_lands 28 = .ok (.istore 5, 2) := by decide +kernel
theorem d_Hb_lands_30 : decode c_Hb_lands 30 = .ok (.iconst 0, 1) := by decide +kernel
theorem d_Hb_lands_31 : decode c_Hb_lands 31 = .ok (.istore 6, 2) := by decide +kernel
theorem d_Hb_lands_33 : decode c_Hb_lands 33 = .ok (.iconst 0, 1) := by decide +kernel
theorem d_Hb_lands_34 : decode c_Hb_lands 34 = .ok (.istore 7, 2) := by decide +kernel
theorem d_Hb_lands_36 : decode c_Hb_lands 36 = .ok (.iconst 0, 1) := by decide +kernel
theorem d_Hb_lands_37 : decode c_Hb_lands 37 = .ok (.istore 8, 2) := by decide +kernel
theorem d_Hb_lands_39 : decode c_Hb_lands 39 = .ok (.iload 8, 2) := by decide +kernel
theorem d_Hb_lands_41 : decode c_Hb_lands 41 = .ok (.iload_n 1, 1) := by decide +kernel
theorem d_Hb_lands_42 : decode c_Hb_lands 42 = .ok (.if_icmp .ge 97, 3) := by decide +kernel
theorem d_Hb_lands_45 : decode c_Hb_lands 45 = .ok (.aload 4, 2) := by decide +kernel
theorem d_Hb_lands_47 : decode c_Hb_lands 47 = .ok (.aload_n 0, 1) := by decide +kernel
theorem d_Hb_lands_48 : decode c_Hb_lands 48 = .ok (.getfield 42, 3) := by decide +kernel
theorem d_Hb_lands_51 : decode c_Hb_lands 51 = .ok (.invokevirtual 85, 3) := by decide +kernel
theorem d_Hb_lands_54 : decode c_Hb_lands 54 = .ok (.iconst 0, 1) := by decide +kernel
theorem d_Hb_lands_55 : decode c_Hb_lands 55 = .ok (.istore 9, 2) := by decide +kernel
theorem d_Hb_lands_57 : decode c_Hb_lands 57 = .ok (.iload 9, 2) := by decide +kernel
theorem d_Hb_lands_59 : decode c_Hb_lands 59 = .ok (.aload 4, 2) := by decide +kernel
theorem d_Hb_lands_61 : decode c_Hb_lands 61 = .ok (.getfield 149, 3) := by decide +kernel
theorem d_Hb_lands_64 : decode c_Hb_lands 64 = .ok (.if_icmp .ge 42, 3) := by decide +kernel
theorem d_Hb_lands_67 : decode c_Hb_lands 67 = .ok (.iload 5, 2) := by decide +kernel
theorem d_Hb_lands_69 : decode c_Hb_lands 69 = .ok (.ldc 243, 2) := by decide +kernel
theorem d_Hb_lands_71 : decode c_Hb_lands 71 = .ok (.imul, 1) := by decide +kernel
theorem d_Hb_lands_72 : decode c_Hb_lands 72 = .ok (.sipush 12345, 3) := by decide +kernel
theorem d_Hb_lands_75 : decode c_Hb_lands 75 = .ok (.iadd, 1) := by decide +kernel
theorem d_Hb_lands_76 : decode c_Hb_lands 76 = .ok (.istore 5, 2) := by decide +kernel
theorem d_Hb_lands_78 : decode c_Hb_lands 78 = .ok (.aload 4, 2) := by decide +kernel
theorem d_Hb_lands_80 : decode c_Hb_lands 80 = .ok (.getfield 107, 3) := by decide +kernel
theorem d_Hb_lands_83 : decode c_Hb_lands 83 = .ok (.iload 9, 2) := by decide +kernel
theorem d_Hb_lands_85 : decode c_Hb_lands 85 = .ok (.aaload, 1) := by decide +kernel
theorem d_Hb_lands_86 : decode c_Hb_lands 86 = .ok (.iload 5, 2) := by decide +kernel
theorem d_Hb_lands_88 : decode c_Hb_lands 88 = .ok (.ldc 244, 2) := by decide +kernel
theorem d_Hb_lands_90 : decode c_Hb_lands 90 = .ok (.iand, 1) := by decide +kernel
theorem d_Hb_lands_91 : decode c_Hb_lands 91 = .ok (.ldc 245, 2) := by decide +kernel
theorem d_Hb_lands_93 : decode c_Hb_lands 93 = .ok (.idiv, 1) := by decide +kernel
theorem d_Hb_lands_94 : decode c_Hb_lands 94 = .ok (.bipush 21, 2) := by decide +kernel
theorem d_Hb_lands_96 : decode c_Hb_lands 96 = .ok (.irem, 1) := by decide +kernel
theorem d_Hb_lands_97 : decode c_Hb_lands 97 = .ok (.putfield 125, 3) := by decide +kernel
theorem d_Hb_lands_100 : decode c_Hb_lands 100 = .ok (.iinc 9 1, 3) := by decide +kernel
theorem d_Hb_lands_103 : decode c_Hb_lands 103 = .ok (.goto (-46), 3) := by decide +kernel
theorem d_Hb_lands_106 : decode c_Hb_lands 106 = .ok (.aload 4, 2) := by decide +kernel
theorem d_Hb_lands_108 : decode c_Hb_lands 108 = .ok (.bipush 10, 2) := by decide +kernel
theorem d_Hb_lands_110 : decode c_Hb_lands 110 = .ok (.invokevirtual 173, 3) := by decide +kernel
theorem d_Hb_lands_113 : decode c_Hb_lands 113 = .ok (.iload 6, 2) := by decide +kernel
theorem d_Hb_lands_115 : decode c_Hb_lands 115 = .ok (.aload 4, 2) := by decide +kernel
theorem d_Hb_lands_117 : decode c_Hb_lands 117 = .ok (.invokevirtual 177, 3) := by decide +kernel
theorem d_Hb_lands_120 : decode c_Hb_lands 120 = .ok (.iadd, 1) := by decide +kernel
theorem d_Hb_lands_121 : decode c_Hb_lands 121 = .ok (.istore 6, 2) := by decide +kernel
theorem d_Hb_lands_123 : decode c_Hb_lands 123 = .ok (.iload 7, 2) := by decide +kernel
theorem d_Hb_lands_125 : decode c_Hb_lands 125 = .ok (.aload 4, 2) := by decide +kernel
theorem d_Hb_lands_127 : decode c_Hb_lands 127 = .ok (.invokevirtual 246, 3) := by decide +kernel
theorem d_Hb_lands_130 : decode c_Hb_lands 130 = .ok (.iadd, 1) := by decide +kernel
theorem d_Hb_lands_131 : decode c_Hb_lands 131 = .ok (.istore 7, 2) := by decide +kernel
theorem d_Hb_lands_133 : decode c_Hb_lands 133 = .ok (.iinc 8 1, 3) := by decide +kernel
theorem d_Hb_lands_136 : decode c_Hb_lands 136 = .ok (.goto (-97), 3) := by decide +kernel
theorem d_Hb_lands_139 : decode c_Hb_lands 139 = .ok (.iload_n 3, 1) := by decide +kernel
theorem d_Hb_lands_140 : decode c_Hb_lands 140 = .ok (.ifCond .ne 8, 3) := by decide +kernel
theorem d_Hb_lands_143 : decode c_Hb_lands 143 = .ok (.iload 6, 2) := by decide +kernel
theorem d_Hb_lands_145 : decode c_Hb_lands 145 = .ok (.goto 5, 3) := by decide +kernel
theorem d_Hb_lands_148 : decode c_Hb_lands 148 = .ok (.iload 7, 2) := by decide +kernel
theorem d_Hb_lands_150 : decode c_Hb_lands 150 = .ok (.ireturn, 1) := by decide +kernel
theorem d_Hb_image_0 : decode c_Hb_image 0 = .ok (.aload_n 0, 1) := by decide +kernel
theorem d_Hb_image_1 : decode c_Hb_image 1 = .ok (.getfield 46, 3) := by decide +kernel
theorem d_Hb_image_4 : decode c_Hb_image 4 = .ok (.aload_n 0, 1) := by decide +kernel
theorem d_Hb_image_5 : decode c_Hb_image 5 = .ok (.getfield 42, 3) := by decide +kernel
theorem d_Hb_image_8 : decode c_Hb_image 8 = .ok (.invokevirtual 85, 3) := by decide +kernel
theorem d_Hb_image_11 : decode c_Hb_image 11 = .ok (.aload_n 0, 1) := by decide +kernel
theorem d_Hb_image_12 : decode c_Hb_image 12 = .ok (.iconst 1, 1) := by decide +kernel
theorem d_Hb_image_13 : decode c_Hb_image 13 = .ok (.putfield 69, 3) := by decide +kernel
theorem d_Hb_image_16 : decode c_Hb_image 16 = .ok (.aload_n 0, 1) := by decide +kernel
theorem d_Hb_image_17 : decode c_Hb_image 17 = .ok (.getfield 42, 3) := by decide +kernel
theorem d_Hb_image_20 : decode c_Hb_image 20 = .ok (.getfield 249, 3) := by decide +kernel
theorem d_Hb_image_23 : decode c_Hb_image 23 = .ok (.ireturn, 1) := by decide +kernel
theorem d_Hb_restore_0 : decode c_Hb_restore 0 = .ok (.aload_n 0, 1) := by decide +kernel
theorem d_Hb_restore_1 : decode c_Hb_restore 1 = .ok (.getfield 69, 3) := by decide +kernel
theorem d_Hb_restore_4 : decode c_Hb_restore 4 = .ok (.ifCond .ne 6, 3) := by decide +kernel
theorem d_Hb_restore_7 : decode c_Hb_restore 7 = .ok (.bipush (-3), 2) := by decide +kernel
theorem d_Hb_restore_9 : decode c_Hb_restore 9 = .ok (.ireturn, 1) := by decide +kernel
theorem d_Hb_restore_10 : decode c_Hb_restore 10 = .ok (.aload_n 0, 1) := by decide +kernel
theorem d_Hb_restore_11 : decode c_Hb_restore 11 = .ok (.getfield 42, 3) := by decide +kernel
theorem d_Hb_restore_14 : decode c_Hb_restore 14 = .ok (.aload_n 0, 1) := by decide +kernel
theorem d_Hb_restore_15 : decode c_Hb_restore 15 = .ok (.getfield 46, 3) := by decide +kernel
theorem d_Hb_restore_18 : decode c_Hb_restore 18 = .ok (.invokevirtual 85, 3) := by decide +kernel
theorem d_Hb_restore_21 : decode c_Hb_restore 21 = .ok (.aload_n 0, 1) := by decide +kernel
theorem d_Hb_restore_22 : decode c_Hb_restore 22 = .ok (.getfield 42, 3) := by decide +kernel
theorem d_Hb_restore_25 : decode c_Hb_restore 25 = .ok (.getfield 249, 3) := by decide +kernel
theorem d_Hb_restore_28 : decode c_Hb_restore 28 = .ok (.ireturn, 1) := by decide +kernel
theorem d_Hb_count_0 : decode c_Hb_count 0 = .ok (.iload_n 1, 1) := by decide +kernel
theorem d_Hb_count_1 : decode c_Hb_count 1 = .ok (.tableswitch 87 0 5 #[39, 47, 55, 63, 71, 79], 39) := by decide +kernel
theorem d_Hb_count_40 : decode c_Hb_count 40 = .ok (.aload_n 0, 1) := by decide +kernel
theorem d_Hb_count_41 : decode c_Hb_count 41 = .ok (.getfield 42, 3) := by decide +kernel
theorem d_Hb_count_44 : decode c_Hb_count 44 = .ok (.getfield 149, 3) := by decide +kernel
theorem d_Hb_count_47 : decode c_Hb_count 47 = .ok (.ireturn, 1) := by decide +kernel
theorem d_Hb_count_48 : decode c_Hb_count 48 = .ok (.aload_n 0, 1) := by decide +kernel
theorem d_Hb_count_49 : decode c_Hb_count 49 = .ok (.getfield 42, 3) := by decide +kernel
theorem d_Hb_count_52 : decode c_Hb_count 52 = .ok (.getfield 131, 3) := by decide +kernel
theorem d_Hb_count_55 : decode c_Hb_count 55 = .ok (.ireturn, 1) := by decide +kernel
theorem d_Hb_count_56 : decode c_Hb_count 56 = .ok (.aload_n 0, 1) := by decide +kernel
theorem d_Hb_count_57 : decode c_Hb_count 57 = .ok (.getfield 42, 3) := by decide +kernel
theorem d_Hb_count_60 : decode c_Hb_count 60 = .ok (.getfield 249, 3) := by decide +kernel
theorem d_Hb_count_63 : decode c_Hb_count 63 = .ok (.ireturn, 1) := by decide +kernel
theorem d_Hb_count_64 : decode c_Hb_count 64 = .ok (.aload_n 0, 1) := by decide +kernel
theorem d_Hb_count_65 : decode c_Hb_count 65 = .ok (.getfield 42, 3) := by decide +kernel
theorem d_Hb_count_68 : decode c_Hb_count 68 = .ok (.invokevirtual 177, 3) := by decide +kernel
theorem d_Hb_count_71 : decode c_Hb_count 71 = .ok (.ireturn, 1) := by decide +kernel
theorem d_Hb_count_72 : decode c_Hb_count 72 = .ok (.aload_n 0, 1) := by decide +kernel
theorem d_Hb_count_73 : decode c_Hb_count 73 = .ok (.getfield 42, 3) := by decide +kernel
theorem d_Hb_count_76 : decode c_Hb_count 76 = .ok (.invokevirtual 246, 3) := by decide +kernel
theorem d_Hb_count_79 : decode c_Hb_count 79 = .ok (.ireturn, 1) := by decide +kernel
theorem d_Hb_count_80 : decode c_Hb_count 80 = .ok (.aload_n 0, 1) := by decide +kernel
theorem d_Hb_count_81 : decode c_Hb_count 81 = .ok (.getfield 42, 3) := by decide +kernel
theorem d_Hb_count_84 : decode c_Hb_count 84 = .ok (.invokevirtual 252, 3) := by decide +kernel
theorem d_Hb_count_87 : decode c_Hb_count 87 = .ok (.ireturn, 1) := by decide +kernel
theorem d_Hb_count_88 : decode c_Hb_count 88 = .ok (.iconst (-1), 1) := by decide +kernel
theorem d_Hb_count_89 : decode c_Hb_count 89 = .ok (.ireturn, 1) := by decide +kernel
theorem d_Hb_keep_0 : decode c_Hb_keep 0 = .ok (.iload_n 1, 1) := by decide +kernel
theorem d_Hb_keep_1 : decode c_Hb_keep 1 = .ok (.invokestatic 255, 3) := by decide +kernel
theorem d_Hb_keep_4 : decode c_Hb_keep 4 = .ok (.ifCond .eq 10, 3) := by decide +kernel
theorem d_Hb_keep_7 : decode c_Hb_keep 7 = .ok (.iload_n 2, 1) := by decide +kernel
theorem d_Hb_keep_8 : decode c_Hb_keep 8 = .ok (.invokestatic 180, 3) := by decide +kernel
theorem d_Hb_keep_11 : decode c_Hb_keep 11 = .ok (.ifCond .ne 5, 3) := by decide +kernel
theorem d_Hb_keep_14 : decode c_Hb_keep 14 = .ok (.iconst (-1), 1) := by decide +kernel
theorem d_Hb_keep_15 : decode c_Hb_keep 15 = .ok (.ireturn, 1) := by decide +kernel
theorem d_Hb_keep_16 : decode c_Hb_keep 16 = .ok (.iload_n 2, 1) := by decide +kernel
theorem d_Hb_keep_17 : decode c_Hb_keep 17 = .ok (.ifCond .ne 15, 3) := by decide +kernel
theorem d_Hb_keep_20 : decode c_Hb_keep 20 = .ok (.aload_n 0, 1) := by decide +kernel
theorem d_Hb_keep_21 : decode c_Hb_keep 21 = .ok (.getfield 64, 3) := by decide +kernel
theorem d_Hb_keep_24 : decode c_Hb_keep 24 = .ok (.iload_n 1, 1) := by decide +kernel
theorem d_Hb_keep_25 : decode c_Hb_keep 25 = .ok (.aaload, 1) := by decide +kernel
theorem d_Hb_keep_26 : decode c_Hb_keep 26 = .ok (.iconst 0, 1) := by decide +kernel
theorem d_Hb_keep_27 : decode c_Hb_keep 27 = .ok (.putfield 258, 3) := by decide +kernel
theorem d_Hb_keep_30 : decode c_Hb_keep 30 = .ok (.iconst 0, 1) := by decide +kernel
theorem d_Hb_keep_31 : decode c_Hb_keep 31 = .ok (.ireturn, 1) := by decide +kernel
theorem d_Hb_keep_32 : decode c_Hb_keep 32 = .ok (.iload_n 3, 1) := by decide +kernel
theorem d_Hb_keep_33 : decode c_Hb_keep 33 = .ok (.invokestatic 261, 3) := by decide +kernel
theorem d_Hb_keep_36 : decode c_Hb_keep 36 = .ok (.ifCond .eq 14, 3) := by decide +kernel
theorem d_Hb_keep_39 : decode c_Hb_keep 39 = .ok (.iload 4, 2) := by decide +kernel
theorem d_Hb_keep_41 : decode c_Hb_keep 41 = .ok (.iconst 0, 1) := by decide +kernel
theorem d_Hb_keep_42 : decode c_Hb_keep 42 = .ok (.bipush 9, 2) := by decide +kernel
theorem d_Hb_keep_44 : decode c_Hb_keep 44 = .ok (.invokestatic 169, 3) := by decide +kernel
theorem d_Hb_keep_47 : decode c_Hb_keep 47 = .ok (.ifCond .ne 5, 3) := by decide +kernel
theorem d_Hb_keep_50 : decode c_Hb_keep 50 = .ok (.iconst (-1), 1) := by decide +kernel
theorem d_Hb_keep_51 : decode c_Hb_keep 51 = .ok (.ireturn, 1) := by decide +kernel
theorem d_Hb_keep_52 : decode c_Hb_keep 52 = .ok (.aload_n 0, 1) := by decide +kernel
theorem d_Hb_keep_53 : decode c_Hb_keep 53 = .ok (.getfield 64, 3) := by decide +kernel
theorem d_Hb_keep_56 : decode c_Hb_keep 56 = .ok (.iload_n 1, 1) := by decide +kernel
theorem d_Hb_keep_57 : decode c_Hb_keep 57 = .ok (.aaload, 1) := by decide +kernel
theorem d_Hb_keep_58 : decode c_Hb_keep 58 = .ok (.iconst 1, 1) := by decide +kernel
theorem d_Hb_keep_59 : decode c_Hb_keep 59 = .ok (.putfield 258, 3) := by decide +kernel
theorem d_Hb_keep_62 : decode c_Hb_keep 62 = .ok (.aload_n 0, 1) := by decide +kernel
theorem d_Hb_keep_63 : decode c_Hb_keep 63 = .ok (.getfield 64, 3) := by decide +kernel
theorem d_Hb_keep_66 : decode c_Hb_keep 66 = .ok (.iload_n 1, 1) := by decide +kernel
theorem d_Hb_keep_67 : decode c_Hb_keep 67 = .ok (.aaload, 1) := by decide +kernel
theorem d_Hb_keep_68 : decode c_Hb_keep 68 = .ok (.aload_n 0, 1) := by decide +kernel
theorem d_Hb_keep_69 : decode c_Hb_keep 69 = .ok (.getfield 31, 3) := by decide +kernel
theorem d_Hb_keep_72 : decode c_Hb_keep 72 = .ok (.iload_n 3, 1) := by decide +kernel
theorem d_Hb_keep_73 : decode c_Hb_keep 73 = .ok (.aaload, 1) := by decide +kernel
theorem d_Hb_keep_74 : decode c_Hb_keep 74 = .ok (.putfield 152, 3) := by decide +kernel
theorem d_Hb_keep_77 : decode c_Hb_keep 77 = .ok (.aload_n 0, 1) := by decide +kernel
theorem d_Hb_keep_78 : decode c_Hb_keep 78 = .ok (.getfield 64, 3) := by decide +kernel
theorem d_Hb_keep_81 : decode c_Hb_keep 81 = .ok (.iload_n 1, 1) := by decide +kernel
theorem d_Hb_keep_82 : decode c_Hb_keep 82 = .ok (.aaload, 1) := by decide +kernel
theorem d_Hb_keep_83 : decode c_Hb_keep 83 = .ok (.iload 4, 2) := by decide +kernel
theorem d_Hb_keep_85 : decode c_Hb_keep 85 = .ok (.putfield 153, 3) := by decide +kernel
theorem d_Hb_keep_88 : decode c_Hb_keep 88 = .ok (.iconst 0, 1) := by decide +kernel
theorem d_Hb_keep_89 : decode c_Hb_keep 89 = .ok (.ireturn, 1) := by decide +kernel
theorem d_Hb_row_0 : decode c_Hb_row 0 = .ok (.iload_n 1, 1) := by decide +kernel
theorem d_Hb_row_1 : decode c_Hb_row 1 = .ok (.invokestatic 255, 3) := by decide +kernel
theorem d_Hb_row_4 : decode c_Hb_row 4 = .ok (.ifCond .eq 18, 3) := by decide +kernel
theorem d_Hb_row_7 : decode c_Hb_row 7 = .ok (.iload_n 2, 1) := by decide +kernel
theorem d_Hb_row_8 : decode c_Hb_row 8 = .ok (.iconst 0, 1) := by decide +kernel
theorem d_Hb_row_9 : decode c_Hb_row 9 = .ok (.iconst 2, 1) := by decide +kernel
theorem d_Hb_row_10 : decode c_Hb_row 10 = .ok (.invokestatic 169, 3) := by decide +kernel
theorem d_Hb_row_13 : decode c_Hb_row 13 = .ok (.ifCond .eq 9, 3) := by decide +kernel
theorem d_Hb_row_16 : decode c_Hb_row 16 = .ok (.iload_n 3, 1) := by decide +kernel
theorem d_Hb_row_17 : decode c_Hb_row 17 = .ok (.bipush 100, 2) := by decide +kernel
theorem d_Hb_row_19 : decode c_Hb_row 19 = .ok (.if_icmp .le 5, 3) := by decide +kernel
theorem d_Hb_row_22 : decode c_Hb_row 22 = .ok (.iconst (-1), 1) := by decide +kernel
theorem d_Hb_row_23 : decode c_Hb_row 23 = .ok (.ireturn, 1) := by decide +kernel
theorem d_Hb_row_24 : decode c_Hb_row 24 = .ok (.iload_n 3, 1) := by decide +kernel
theorem d_Hb_row_25 : decode c_Hb_row 25 = .ok (.ifCond .ge 6, 3) := by decide +kernel
theorem d_Hb_row_28 : decode c_Hb_row 28 = .ok (.bipush (-14), 2) := by decide +kernel
theorem d_Hb_row_30 : decode c_Hb_row 30 = .ok (.ireturn, 1) := by decide +kernel
theorem d_Hb_row_31 : decode c_Hb_row 31 = .ok (.aload_n 0, 1) := by decide +kernel
theorem d_Hb_row_32 : decode c_Hb_row 32 = .ok (.getfield 64, 3) := by decide +kernel
theorem d_Hb_row_35 : decode c_Hb_row 35 = .ok (.iload_n 1, 1) := by decide +kernel
theorem d_Hb_row_36 : decode c_Hb_row 36 = .ok (.aaload, 1) := by decide +kernel
theorem d_Hb_row_37 : decode c_Hb_row 37 = .ok (.iload_n 2, 1) := by decide +kernel
theorem d_Hb_row_38 : decode c_Hb_row 38 = .ok (.iload_n 3, 1) := by decide +kernel
theorem d_Hb_row_39 : decode c_Hb_row 39 = .ok (.invokevirtual 264, 3) := by decide +kernel
theorem d_Hb_row_42 : decode c_Hb_row 42 = .ok (.iconst 0, 1) := by decide +kernel
theorem d_Hb_row_43 : decode c_Hb_row 43 = .ok (.ireturn, 1) := by decide +kernel
theorem d_Hb_put_0 : decode c_Hb_put 0 = .ok (.aload_n 0, 1) := by decide +kernel
theorem d_Hb_put_1 : decode c_Hb_put 1 = .ok (.iload_n 1, 1) := by decide +kernel
theorem d_Hb_put_2 : decode c_Hb_put 2 = .ok (.invokevirtual 73, 3) := by decide +kernel
theorem d_Hb_put_5 : decode c_Hb_put 5 = .ok (.istore 4, 2) := by decide +kernel
theorem d_Hb_put_7 : decode c_Hb_put 7 = .ok (.iload 4, 2) := by decide +kernel
theorem d_Hb_put_9 : decode c_Hb_put 9 = .ok (.ifCond .eq 6, 3) := by decide +kernel
theorem d_Hb_put_12 : decode c_Hb_put 12 = .ok (.iload 4, 2) := by decide +kernel
theorem d_Hb_put_14 : decode c_Hb_put 14 = .ok (.ireturn, 1) := by decide +kernel
theorem d_Hb_put_15 : decode c_Hb_put 15 = .ok (.iload_n 2, 1) := by decide +kernel
theorem d_Hb_put_16 : decode c_Hb_put 16 = .ok (.iconst 0, 1) := by decide +kernel
theorem d_Hb_put_17 : decode c_Hb_put 17 = .ok (.aload_n 0, 1) := by decide +kernel
theorem d_Hb_put_18 : decode c_Hb_put 18 = .ok (.getfield 64, 3) := by decide +kernel
theorem d_Hb_put_21 : decode c_Hb_put 21 = .ok (.iload_n 1, 1) := by decide +kernel
theorem d_Hb_put_22 : decode c_Hb_put 22 = .ok (.aaload, 1) := by decide +kernel
theorem d_Hb_put_23 : decode c_Hb_put 23 = .ok (.getfield 89, 3) := by decide +kernel
theorem d_Hb_put_26 : decode c_Hb_put 26 = .ok (.iconst 1, 1) := by decide +kernel
theorem d_Hb_put_27 : decode c_Hb_put 27 = .ok (.isub, 1) := by decide +kernel
theorem d_Hb_put_28 : decode c_Hb_put 28 = .ok (.invokestatic 169, 3) := by decide +kernel
theorem d_Hb_put_31 : decode c_Hb_put 31 = .ok (.ifCond .ne 6, 3) := by decide +kernel
theorem d_Hb_put_34 : decode c_Hb_put 34 = .ok (.bipush (-13), 2) := by decide +kernel
theorem d_Hb_put_36 : decode c_Hb_put 36 = .ok (.ireturn, 1) := by decide +kernel
theorem d_Hb_put_37 : decode c_Hb_put 37 = .ok (.aload_n 0, 1) := by decide +kernel
theorem d_Hb_put_38 : decode c_Hb_put 38 = .ok (.getfield 64, 3) := by decide +kernel
theorem d_Hb_put_41 : decode c_Hb_put 41 = .ok (.iload_n 1, 1) := by decide +kernel
theorem d_Hb_put_42 : decode c_Hb_put 42 = .ok (.aaload, 1) := by decide +kernel
theorem d_Hb_put_43 : decode c_Hb_put 43 = .ok (.iload_n 2, 1) := by decide +kernel
theorem d_Hb_put_44 : decode c_Hb_put 44 = .ok (.iload_n 3, 1) := by decide +kernel
theorem d_Hb_put_45 : decode c_Hb_put 45 = .ok (.invokevirtual 267, 3) := by decide +kernel
theorem d_Hb_put_48 : decode c_Hb_put 48 = .ok (.iconst 0, 1) := by decide +kernel
theorem d_Hb_put_49 : decode c_Hb_put 49 = .ok (.ireturn, 1) := by decide +kernel
theorem d_Hb_element_0 : decode c_Hb_element 0 = .ok (.iload_n 1, 1) := by decide +kernel
theorem d_Hb_element_1 : decode c_Hb_element 1 = .ok (.invokestatic 255, 3) := by decide +kernel
theorem d_Hb_element_4 : decode c_Hb_element 4 = .ok (.ifCond .ne 14, 3) := by decide +kernel
theorem d_Hb_element_7 : decode c_Hb_element 7 = .ok (.new 270, 3) := by decide +kernel
theorem d_Hb_element_10 : decode c_Hb_element 10 = .ok (.dup, 1) := by decide +kernel
theorem d_Hb_element_11 : decode c_Hb_element 11 = .ok (.ldc_w 272, 3) := by decide +kernel
theorem d_Hb_element_14 : decode c_Hb_element 14 = .ok (.invokespecial 274, 3) := by decide +kernel
theorem d_Hb_element_17 : decode c_Hb_element 17 = .ok (.athrow, 1) := by decide +kernel
theorem d_Hb_element_18 : decode c_Hb_element 18 = .ok (.aload_n 0, 1) := by decide +kernel
theorem d_Hb_element_19 : decode c_Hb_element 19 = .ok (.getfield 64, 3) := by decide +kernel
theorem d_Hb_element_22 : decode c_Hb_element 22 = .ok (.iload_n 1, 1) := by decide +kernel
theorem d_Hb_element_23 : decode c_Hb_element 23 = .ok (.aaload, 1) := by decide +kernel
theorem d_Hb_element_24 : decode c_Hb_element 24 = .ok (.getfield 258, 3) := by decide +kernel
theorem d_Hb_element_27 : decode c_Hb_element 27 = .ok (.iconst 2, 1) := by decide +kernel
theorem d_Hb_element_28 : decode c_Hb_element 28 = .ok (.if_icmp .ne 22, 3) := by decide +kernel
theorem d_Hb_element_31 : decode c_Hb_element 31 = .ok (.iload_n 2, 1) := by decide +kernel
theorem d_Hb_element_32 : decode c_Hb_element 32 = .ok (.iconst 0, 1) := by decide +kernel
theorem d_Hb_element_33 : decode c_Hb_element 33 = .ok (.aload_n 0, 1) := by decide +kernel
theorem d_Hb_element_34 : decode c_Hb_element 34 = .ok (.getfield 64, 3) := by decide +kernel
theorem d_Hb_element_37 : decode c_Hb_element 37 = .ok (.iload_n 1, 1) := by decide +kernel
theorem d_Hb_element_38 : decode c_Hb_element 38 = .ok (.aaload, 1) := by decide +kernel
theorem d_Hb_element_39 : decode c_Hb_element 39 = .ok (.getfield 89, 3) := by decide +kernel
theorem d_Hb_element_42 : decode c_Hb_element 42 = .ok (.iconst 1, 1) := by decide +kernel
theorem d_Hb_element_43 : decode c_Hb_element 43 = .ok (.isub, 1) := by decide +kernel
theorem d_Hb_element_44 : decode c_Hb_element 44 = .ok (.invokestatic 169, 3) := by decide +kernel
theorem d_Hb_element_47 : decode c_Hb_element 47 = .ok (.ifCond .ne 14, 3) := by decide +kernel
theorem d_Hb_element_50 : decode c_Hb_element 50 = .ok (.new 277, 3) := by decide +kernel
theorem d_Hb_element_53 : decode c_Hb_element 53 = .ok (.dup, 1) := by decide +kernel
theorem d_Hb_element_54 : decode c_Hb_element 54 = .ok (.ldc_w 279, 3) := by decide +kernel
theorem d_Hb_element_57 : decode c_Hb_element 57 = .ok (.invokespecial 281, 3) := by decide +kernel
theorem d_Hb_element_60 : decode c_Hb_element 60 = .ok (.athrow, 1) := by decide +kernel
theorem d_Hb_element_61 : decode c_Hb_element 61 = .ok (.aload_n 0, 1) := by decide +kernel
theorem d_Hb_element_62 : decode c_Hb_element 62 = .ok (.getfield 64, 3) := by decide +kernel
theorem d_Hb_element_65 : decode c_Hb_element 65 = .ok (.iload_n 1, 1) := by decide +kernel
theorem d_Hb_element_66 : decode c_Hb_element 66 = .ok (.aaload, 1) := by decide +kernel
theorem d_Hb_element_67 : decode c_Hb_element 67 = .ok (.getfield 96, 3) := by decide +kernel
theorem d_Hb_element_70 : decode c_Hb_element 70 = .ok (.iload_n 2, 1) := by decide +kernel
theorem d_Hb_element_71 : decode c_Hb_element 71 = .ok (.iaload, 1) := by decide +kernel
theorem d_Hb_element_72 : decode c_Hb_element 72 = .ok (.i2l, 1) := by decide +kernel
theorem d_Hb_element_73 : decode c_Hb_element 73 = .ok (.lreturn, 1) := by decide +kernel
theorem d_Hb_copy_0 : decode c_Hb_copy 0 = .ok (.iload_n 1, 1) := by decide +kernel
theorem d_Hb_copy_1 : decode c_Hb_copy 1 = .ok (.invokestatic 255, 3) := by decide +kernel
theorem d_Hb_copy_4 : decode c_Hb_copy 4 = .ok (.ifCond .eq 10, 3) := by decide +kernel
theorem d_Hb_copy_7 : decode c_Hb_copy 7 = .ok (.iload_n 3, 1) := by decide +kernel
theorem d_Hb_copy_8 : decode c_Hb_copy 8 = .ok (.invokestatic 255, 3) := by decide +kernel
theorem d_Hb_copy_11 : decode c_Hb_copy 11 = .ok (.ifCond .ne 5, 3) := by decide +kernel
theorem d_Hb_copy_14 : decode c_Hb_copy 14 = .ok (.iconst (-1), 1) := by decide +kernel
theorem d_Hb_copy_15 : decode c_Hb_copy 15 = .ok (.ireturn, 1) := by decide +kernel
theorem d_Hb_copy_16 : decode c_Hb_copy 16 = .ok (.aload_n 0, 1) := by decide +kernel
theorem d_Hb_copy_17 : decode c_Hb_copy 17 = .ok (.getfield 64, 3) := by decide +kernel
theorem d_Hb_copy_20 : decode c_Hb_copy 20 = .ok (.iload_n 1, 1) := by decide +kernel
theorem d_Hb_copy_21 : decode c_Hb_copy 21 = .ok (.aaload, 1) := by decide +kernel
theorem d_Hb_copy_22 : decode c_Hb_copy 22 = .ok (.astore 6, 2) := by decide +kernel
theorem d_Hb_copy_24 : decode c_Hb_copy 24 = .ok (.aload_n 0, 1) := by decide +kernel
theorem d_Hb_copy_25 : decode c_Hb_copy 25 = .ok (.getfield 64, 3) := by decide +kernel
theorem d_Hb_copy_28 : decode c_Hb_copy 28 = .ok (.iload_n 3, 1) := by decide +kernel
theorem d_Hb_copy_29 : decode c_Hb_copy 29 = .ok (.aaload, 1) := by decide +kernel
theorem d_Hb_copy_30 : decode c_Hb_copy 30 = .ok (.astore 7, 2) := by decide +kernel
theorem d_Hb_copy_32 : decode c_Hb_copy 32 = .ok (.aload 6, 2) := by decide +kernel
theorem d_Hb_copy_34 : decode c_Hb_copy 34 = .ok (.getfield 258, 3) := by decide +kernel
theorem d_Hb_copy_37 : decode c_Hb_copy 37 = .ok (.ifCond .eq 11, 3) := by decide +kernel
theorem d_Hb_copy_40 : decode c_Hb_copy 40 = .ok (.aload 7, 2) := by decide +kernel
theorem d_Hb_copy_42 : decode c_Hb_copy 42 = .ok (.getfield 258, 3) := by decide +kernel
theorem d_Hb_copy_45 : decode c_Hb_copy 45 = .ok (.ifCond .ne 6, 3) := by decide +kernel
theorem d_Hb_copy_48 : decode c_Hb_copy 48 = .ok (.bipush (-11), 2) := by decide +kernel
theorem d_Hb_copy_50 : decode c_Hb_copy 50 = .ok (.ireturn, 1) := by decide +kernel
theorem d_Hb_copy_51 : decode c_Hb_copy 51 = .ok (.aload 6, 2) := by decide +kernel
theorem d_Hb_copy_53 : decode c_Hb_copy 53 = .ok (.getfield 258, 3) := by decide +kernel
theorem d_Hb_copy_56 : decode c_Hb_copy 56 = .ok (.iconst 2, 1) := by decide +kernel
theorem d_Hb_copy_57 : decode c_Hb_copy 57 = .ok (.if_icmp .ne 25, 3) := by decide +kernel
theorem d_Hb_copy_60 : decode c_Hb_copy 60 = .ok (.aload 7, 2) := by decide +kernel
theorem d_Hb_copy_62 : decode c_Hb_copy 62 = .ok (.getfield 258, 3) := by decide +kernel
theorem d_Hb_copy_65 : decode c_Hb_copy 65 = .ok (.iconst 2, 1) := by decide +kernel
theorem d_Hb_copy_66 : decode c_Hb_copy 66 = .ok (.if_icmp .ne 16, 3) := by decide +kernel
theorem d_Hb_copy_69 : decode c_Hb_copy 69 = .ok (.aload 6, 2) := by decide +kernel
theorem d_Hb_copy_71 : decode c_Hb_copy 71 = .ok (.getfield 77, 3) := by decide +kernel
theorem d_Hb_copy_74 : decode c_Hb_copy 74 = .ok (.aload 7, 2) := by decide +kernel
theorem d_Hb_copy_76 : decode c_Hb_copy 76 = .ok (.getfield 77, 3) := by decide +kernel
theorem d_Hb_copy_79 : decode c_Hb_copy 79 = .ok (.if_icmp .eq 6, 3) := by decide +kernel
theorem d_Hb_copy_82 : decode c_Hb_copy 82 = .ok (.bipush (-12), 2) := by decide +kernel
theorem d_Hb_copy_84 : decode c_Hb_copy 84 = .ok (.ireturn, 1) := by decide +kernel
theorem d_Hb_copy_85 : decode c_Hb_copy 85 = .ok (.aload 6, 2) := by decide +kernel
theorem d_Hb_copy_87 : decode c_Hb_copy 87 = .ok (.iload_n 2, 1) := by decide +kernel
theorem d_Hb_copy_88 : decode c_Hb_copy 88 = .ok (.iload 5, 2) := by decide +kernel
theorem d_Hb_copy_90 : decode c_Hb_copy 90 = .ok (.invokevirtual 282, 3) := by decide +kernel
theorem d_Hb_copy_93 : decode c_Hb_copy 93 = .ok (.ifCond .eq 15, 3) := by decide +kernel
theorem d_Hb_copy_96 : decode c_Hb_copy 96 = .ok (.aload 7, 2) := by decide +kernel
theorem d_Hb_copy_98 : decode c_Hb_copy 98 = .ok (.iload 4, 2) := by decide +kernel
theorem d_Hb_copy_100 : decode c_Hb_copy 100 = .ok (.iload 5, 2) := by decide +kernel
theorem d_Hb_copy_102 : decode c_Hb_copy 102 = .ok (.invokevirtual 282, 3) := by decide +kernel
theorem d_Hb_copy_105 : decode c_Hb_copy 105 = .ok (.ifCond .ne 6, 3) := by decide +kernel
theorem d_Hb_copy_108 : decode c_Hb_copy 108 = .ok (.bipush (-13), 2) := by decide +kernel
theorem d_Hb_copy_110 : decode c_Hb_copy 110 = .ok (.ireturn, 1) := by decide +kernel
theorem d_Hb_copy_111 : decode c_Hb_copy 111 = .ok (.aload 6, 2) := by decide +kernel
theorem d_Hb_copy_113 : decode c_Hb_copy 113 = .ok (.getfield 96, 3) := by decide +kernel
theorem d_Hb_copy_116 : decode c_Hb_copy 116 = .ok (.iload_n 2, 1) := by decide +kernel
theorem d_Hb_copy_117 : decode c_Hb_copy 117 = .ok (.aload 7, 2) := by decide +kernel
theorem d_Hb_copy_119 : decode c_Hb_copy 119 = .ok (.getfield 96, 3) := by decide +kernel
theorem d_Hb_copy_122 : decode c_Hb_copy 122 = .ok (.iload 4, 2) := by decide +kernel
theorem d_Hb_copy_124 : decode c_Hb_copy 124 = .ok (.iload 5, 2) := by decide +kernel
theorem d_Hb_copy_126 : decode c_Hb_copy 126 = .ok (.invokestatic 285, 3) := by decide +kernel
theorem d_Hb_copy_129 : decode c_Hb_copy 129 = .ok (.iload 5, 2) := by decide +kernel
theorem d_Hb_copy_131 : decode c_Hb_copy 131 = .ok (.ireturn, 1) := by decide +kernel
theorem d_Hb_cost_0 : decode c_Hb_cost 0 = .ok (.aload_n 0, 1) := by decide +kernel
theorem d_Hb_cost_1 : decode c_Hb_cost 1 = .ok (.iload_n 1, 1) := by decide +kernel
theorem d_Hb_cost_2 : decode c_Hb_cost 2 = .ok (.invokevirtual 146, 3) := by decide +kernel
theorem d_Hb_cost_5 : decode c_Hb_cost 5 = .ok (.istore_n 2, 1) := by decide +kernel
theorem d_Hb_cost_6 : decode c_Hb_cost 6 = .ok (.iload_n 2, 1) := by decide +kernel
theorem d_Hb_cost_7 : decode c_Hb_cost 7 = .ok (.ifCond .eq 5, 3) := by decide +kernel
theorem d_Hb_cost_10 : decode c_Hb_cost 10 = .ok (.iload_n 2, 1) := by decide +kernel
theorem d_Hb_cost_11 : decode c_Hb_cost 11 = .ok (.ireturn, 1) := by decide +kernel
theorem d_Hb_cost_12 : decode c_Hb_cost 12 = .ok (.aload_n 0, 1) := by decide +kernel
theorem d_Hb_cost_13 : decode c_Hb_cost 13 = .ok (.getfield 64, 3) := by decide +kernel
theorem d_Hb_cost_16 : decode c_Hb_cost 16 = .ok (.iload_n 1, 1) := by decide +kernel
theorem d_Hb_cost_17 : decode c_Hb_cost 17 = .ok (.aaload, 1) := by decide +kernel
theorem d_Hb_cost_18 : decode c_Hb_cost 18 = .ok (.getfield 152, 3) := by decide +kernel
theorem d_Hb_cost_21 : decode c_Hb_cost 21 = .ok (.aload_n 0, 1) := by decide +kernel
theorem d_Hb_cost_22 : decode c_Hb_cost 22 = .ok (.getfield 64, 3) := by decide +kernel
theorem d_Hb_cost_25 : decode c_Hb_cost 25 = .ok (.iload_n 1, 1) := by decide +kernel
theorem d_Hb_cost_26 : decode c_Hb_cost 26 = .ok (.aaload, 1) := by decide +kernel
theorem d_Hb_cost_27 : decode c_Hb_cost 27 = .ok (.getfield 153, 3) := by decide +kernel
theorem d_Hb_cost_30 : decode c_Hb_cost 30 = .ok (.invokevirtual 291, 3) := by decide +kernel
theorem d_Hb_cost_33 : decode c_Hb_cost 33 = .ok (.ireturn, 1) := by decide +kernel
theorem d_Hb_toss_0 : decode c_Hb_toss 0 = .ok (.aload_n 0, 1) := by decide +kernel
theorem d_Hb_toss_1 : decode c_Hb_toss 1 = .ok (.iload_n 1, 1) := by decide +kernel
theorem d_Hb_toss_2 : decode c_Hb_toss 2 = .ok (.invokevirtual 146, 3) := by decide +kernel
theorem d_Hb_toss_5 : decode c_Hb_toss 5 = .ok (.istore_n 2, 1) := by decide +kernel
theorem d_Hb_toss_6 : decode c_Hb_toss 6 = .ok (.iload_n 2, 1) := by decide +kernel
theorem d_Hb_toss_7 : decode c_Hb_toss 7 = .ok (.ifCond .eq 5, 3) := by decide +kernel
theorem d_Hb_toss_10 : decode c_Hb_toss 10 = .ok (.iload_n 2, 1) := by decide +kernel
theorem d_Hb_toss_11 : decode c_Hb_toss 11 = .ok (.ireturn, 1) := by decide +kernel
theorem d_Hb_toss_12 : decode c_Hb_toss 12 = .ok (.aload_n 0, 1) := by decide +kernel
theorem d_Hb_toss_13 : decode c_Hb_toss 13 = .ok (.getfield 64, 3) := by decide +kernel
theorem d_Hb_toss_16 : decode c_Hb_toss 16 = .ok (.iload_n 1, 1) := by decide +kernel
theorem d_Hb_toss_17 : decode c_Hb_toss 17 = .ok (.aaload, 1) := by decide +kernel
theorem d_Hb_toss_18 : decode c_Hb_toss 18 = .ok (.getfield 152, 3) := by decide +kernel
theorem d_Hb_toss_21 : decode c_Hb_toss 21 = .ok (.astore_n 3, 1) := by decide +kernel
theorem d_Hb_toss_22 : decode c_Hb_toss 22 = .ok (.aload_n 0, 1) := by decide +kernel
theorem d_Hb_toss_23 : decode c_Hb_toss 23 = .ok (.getfield 64, 3) := by decide +kernel
theorem d_Hb_toss_26 : decode c_Hb_toss 26 = .ok (.iload_n 1, 1) := by decide +kernel
theorem d_Hb_toss_27 : decode c_Hb_toss 27 = .ok (.aaload, 1) := by decide +kernel
theorem d_Hb_toss_28 : decode c_Hb_toss 28 = .ok (.getfield 153, 3) := by decide +kernel
theorem d_Hb_toss_31 : decode c_Hb_toss 31 = .ok (.istore 4, 2) := by decide +kernel
theorem d_Hb_toss_33 : decode c_Hb_toss 33 = .ok (.aload_n 3, 1) := by decide +kernel
theorem d_Hb_toss_34 : decode c_Hb_toss 34 = .ok (.iload 4, 2) := by decide +kernel
theorem d_Hb_toss_36 : decode c_Hb_toss 36 = .ok (.invokevirtual 294, 3) := by decide +kernel
theorem d_Hb_toss_39 : decode c_Hb_toss 39 = .ok (.goto 29, 3) := by decide +kernel
theorem d_Hb_toss_42 : decode c_Hb_toss 42 = .ok (.astore 5, 2) := by decide +kernel
theorem d_Hb_toss_44 : decode c_Hb_toss 44 = .ok (.sipush 200, 3) := by decide +kernel
theorem d_Hb_toss_47 : decode c_Hb_toss 47 = .ok (.aload_n 3, 1) := by decide +kernel
theorem d_Hb_toss_48 : decode c_Hb_toss 48 = .ok (.iload 4, 2) := by decide +kernel
theorem d_Hb_toss_50 : decode c_Hb_toss 50 = .ok (.invokevirtual 291, 3) := by decide +kernel
theorem d_Hb_toss_53 : decode c_Hb_toss 53 = .ok (.iadd, 1) := by decide +kernel
theorem d_Hb_toss_54 : decode c_Hb_toss 54 = .ok (.ireturn, 1) := by decide +kernel
theorem d_Hb_toss_55 : decode c_Hb_toss 55 = .ok (.astore 5, 2) := by decide +kernel
theorem d_Hb_toss_57 : decode c_Hb_toss 57 = .ok (.bipush 100, 2) := by decide +kernel
theorem d_Hb_toss_59 : decode c_Hb_toss 59 = .ok (.iload 4, 2) := by decide +kernel
theorem d_Hb_toss_61 : decode c_Hb_toss 61 = .ok (.iadd, 1) := by decide +kernel
theorem d_Hb_toss_62 : decode c_Hb_toss 62 = .ok (.ireturn, 1) := by decide +kernel
theorem d_Hb_toss_63 : decode c_Hb_toss 63 = .ok (.astore 5, 2) := by decide +kernel
theorem d_Hb_toss_65 : decode c_Hb_toss 65 = .ok (.iload 4, 2) := by decide +kernel
theorem d_Hb_toss_67 : decode c_Hb_toss 67 = .ok (.ireturn, 1) := by decide +kernel
theorem d_Hb_toss_68 : decode c_Hb_toss 68 = .ok (.bipush (-15), 2) := by decide +kernel
theorem d_Hb_toss_70 : decode c_Hb_toss 70 = .ok (.ireturn, 1) := by decide +kernel
theorem d_Hb_isWithin_0 : decode c_Hb_isWithin 0 = .ok (.iload_n 0, 1) := by decide +kernel
theorem d_Hb_isWithin_1 : decode c_Hb_isWithin 1 = .ok (.iload_n 1, 1) := by decide +kernel
theorem d_Hb_isWithin_2 : decode c_Hb_isWithin 2 = .ok (.if_icmp .lt 12, 3) := by decide +kernel
theorem d_Hb_isWithin_5 : decode c_Hb_isWithin 5 = .ok (.iload_n 0, 1) := by decide +kernel
theorem d_Hb_isWithin_6 : decode c_Hb_isWithin 6 = .ok (.iload_n 2, 1) := by decide +kernel
theorem d_Hb_isWithin_7 : decode c_Hb_isWithin 7 = .ok (.if_icmp .gt 7, 3) := by decide +kernel
theorem d_Hb_isWithin_10 : decode c_Hb_isWithin 10 = .ok (.iconst 1, 1) := by decide +kernel
theorem d_Hb_isWithin_11 : decode c_Hb_isWithin 11 = .ok (.goto 4, 3) := by decide +kernel
theorem d_Hb_isWithin_14 : decode c_Hb_isWithin 14 = .ok (.iconst 0, 1) := by decide +kernel
theorem d_Hb_isWithin_15 : decode c_Hb_isWithin 15 = .ok (.ireturn, 1) := by decide +kernel
theorem d_Hb_isEither_0 : decode c_Hb_isEither 0 = .ok (.iload_n 0, 1) := by decide +kernel
theorem d_Hb_isEither_1 : decode c_Hb_isEither 1 = .ok (.ifCond .eq 8, 3) := by decide +kernel
theorem d_Hb_isEither_4 : decode c_Hb_isEither 4 = .ok (.iload_n 0, 1) := by decide +kernel
theorem d_Hb_isEither_5 : decode c_Hb_isEither 5 = .ok (.iconst 1, 1) := by decide +kernel
theorem d_Hb_isEither_6 : decode c_Hb_isEither 6 = .ok (.if_icmp .ne 7, 3) := by decide +kernel
theorem d_Hb_isEither_9 : decode c_Hb_isEither 9 = .ok (.iconst 1, 1) := by decide +kernel
theorem d_Hb_isEither_10 : decode c_Hb_isEither 10 = .ok (.goto 4, 3) := by decide +kernel
theorem d_Hb_isEither_13 : decode c_Hb_isEither 13 = .ok (.iconst 0, 1) := by decide +kernel
theorem d_Hb_isEither_14 : decode c_Hb_isEither 14 = .ok (.ireturn, 1) := by decide +kernel
theorem d_Hb_isYard_0 : decode c_Hb_isYard 0 = .ok (.iload_n 0, 1) := by decide +kernel
theorem d_Hb_isYard_1 : decode c_Hb_isYard 1 = .ok (.iconst 0, 1) := by decide +kernel
theorem d_Hb_isYard_2 : decode c_Hb_isYard 2 = .ok (.bipush 20, 2) := by decide +kernel
theorem d_Hb_isYard_4 : decode c_Hb_isYard 4 = .ok (.invokestatic 169, 3) := by decide +kernel
theorem d_Hb_isYard_7 : decode c_Hb_isYard 7 = .ok (.ireturn, 1) := by decide +kernel
theorem d_Hb_isKind_0 : decode c_Hb_isKind 0 = .ok (.iload_n 0, 1) := by decide +kernel
theorem d_Hb_isKind_1 : decode c_Hb_isKind 1 = .ok (.iconst 0, 1) := by decide +kernel
theorem d_Hb_isKind_2 : decode c_Hb_isKind 2 = .ok (.bipush 7, 2) := by decide +kernel
theorem d_Hb_isKind_4 : decode c_Hb_isKind 4 = .ok (.invokestatic 169, 3) := by decide +kernel
theorem d_Hb_isKind_7 : decode c_Hb_isKind 7 = .ok (.ireturn, 1) := by decide +kernel
theorem d_Hb_isShelf_0 : decode c_Hb_isShelf 0 = .ok (.iload_n 0, 1) := by decide +kernel
theorem d_Hb_isShelf_1 : decode c_Hb_isShelf 1 = .ok (.iconst 0, 1) := by decide +kernel
theorem d_Hb_isShelf_2 : decode c_Hb_isShelf 2 = .ok (.bipush 7, 2) := by decide +kernel
theorem d_Hb_isShelf_4 : decode c_Hb_isShelf 4 = .ok (.invokestatic 169, 3) := by decide +kernel
theorem d_Hb_isShelf_7 : decode c_Hb_isShelf 7 = .ok (.ireturn, 1) := by decide +kernel
theorem d_Hb_isHorse_0 : decode c_Hb_isHorse 0 = .ok (.iload_n 1, 1) := by decide +kernel
theorem d_Hb_isHorse_1 : decode c_Hb_isHorse 1 = .ok (.iconst 0, 1) := by decide +kernel
theorem d_Hb_isHorse_2 : decode c_Hb_isHorse 2 = .ok (.aload_n 0, 1) := by decide +kernel
theorem d_Hb_isHorse_3 : decode c_Hb_isHorse 3 = .ok (.getfield 42, 3) := by decide +kernel
theorem d_Hb_isHorse_6 : decode c_Hb_isHorse 6 = .ok (.getfield 149, 3) := by decide +kernel
theorem d_Hb_isHorse_9 : decode c_Hb_isHorse 9 = .ok (.iconst 1, 1) := by decide +kernel
theorem d_Hb_isHorse_10 : decode c_Hb_isHorse 10 = .ok (.isub, 1) := by decide +kernel
theorem d_Hb_isHorse_11 : decode c_Hb_isHorse 11 = .ok (.invokestatic 169, 3) := by decide +kernel
theorem d_Hb_isHorse_14 : decode c_Hb_isHorse 14 = .ok (.ireturn, 1) := by decide +kernel
theorem d_Hb_refusalOfRow_0 : decode c_Hb_refusalOfRow 0 = .ok (.aload_n 0, 1) := by decide +kernel
theorem d_Hb_refusalOfRow_1 : decode c_Hb_refusalOfRow 1 = .ok (.iload_n 1, 1) := by decide +kernel
theorem d_Hb_refusalOfRow_2 : decode c_Hb_refusalOfRow 2 = .ok (.iconst 2, 1) := by decide +kernel
theorem d_Hb_refusalOfRow_3 : decode c_Hb_refusalOfRow 3 = .ok (.invokevirtual 299, 3) := by decide +kernel
theorem d_Hb_refusalOfRow_6 : decode c_Hb_refusalOfRow 6 = .ok (.ireturn, 1) := by decide +kernel
theorem d_Hb_refusalOfKind_0 : decode c_Hb_refusalOfKind 0 = .ok (.aload_n 0, 1) := by decide +kernel
theorem d_Hb_refusalOfKind_1 : decode c_Hb_refusalOfKind 1 = .ok (.iload_n 1, 1) := by decide +kernel
theorem d_Hb_refusalOfKind_2 : decode c_Hb_refusalOfKind 2 = .ok (.iconst 1, 1) := by decide +kernel
theorem d_Hb_refusalOfKind_3 : decode c_Hb_refusalOfKind 3 = .ok (.invokevirtual 299, 3) := by decide +kernel
theorem d_Hb_refusalOfKind_6 : decode c_Hb_refusalOfKind 6 = .ok (.ireturn, 1) := by decide +kernel
theorem d_Hb_refusalOf_0 : decode c_Hb_refusalOf 0 = .ok (.iload_n 1, 1) := by decide +kernel
theorem d_Hb_refusalOf_1 : decode c_Hb_refusalOf 1 = .ok (.invokestatic 255, 3) := by decide +kernel
theorem d_Hb_refusalOf_4 : decode c_Hb_refusalOf 4 = .ok (.ifCond .ne 5, 3) := by decide +kernel
theorem d_Hb_refusalOf_7 : decode c_Hb_refusalOf 7 = .ok (.iconst (-1), 1) := by decide +kernel
theorem d_Hb_refusalOf_8 : decode c_Hb_refusalOf 8 = .ok (.ireturn, 1) := by decide +kernel
theorem d_Hb_refusalOf_9 : decode c_Hb_refusalOf 9 = .ok (.aload_n 0, 1) := by decide +kernel
theorem d_Hb_refusalOf_10 : decode c_Hb_refusalOf 10 = .ok (.getfield 64, 3) := by decide +kernel
theorem d_Hb_refusalOf_13 : decode c_Hb_refusalOf 13 = .ok (.iload_n 1, 1) := by decide +kernel
theorem d_Hb_refusalOf_14 : decode c_Hb_refusalOf 14 = .ok (.aaload, 1) := by decide +kernel
theorem d_Hb_refusalOf_15 : decode c_Hb_refusalOf 15 = .ok (.getfield 258, 3) := by decide +kernel
theorem d_Hb_refusalOf_18 : decode c_Hb_refusalOf 18 = .ok (.ifCond .ne 6, 3) := by decide +kernel
theorem d_Hb_refusalOf_21 : decode c_Hb_refusalOf 21 = .ok (.bipush (-11), 2) := by decide +kernel
theorem d_Hb_refusalOf_23 : decode c_Hb_refusalOf 23 = .ok (.ireturn, 1) := by decide +kernel
theorem d_Hb_refusalOf_24 : decode c_Hb_refusalOf 24 = .ok (.aload_n 0, 1) := by decide +kernel
theorem d_Hb_refusalOf_25 : decode c_Hb_refusalOf 25 = .ok (.getfield 64, 3) := by decide +kernel
theorem d_Hb_refusalOf_28 : decode c_Hb_refusalOf 28 = .ok (.iload_n 1, 1) := by decide +kernel
theorem d_Hb_refusalOf_29 : decode c_Hb_refusalOf 29 = .ok (.aaload, 1) := by decide +kernel
theorem d_Hb_refusalOf_30 : decode c_Hb_refusalOf 30 = .ok (.getfield 258, 3) := by decide +kernel
theorem d_Hb_refusalOf_33 : decode c_Hb_refusalOf 33 = .ok (.iload_n 2, 1) := by decide +kernel
theorem d_Hb_refusalOf_34 : decode c_Hb_refusalOf 34 = .ok (.if_icmp .ne 7, 3) := by decide +kernel
theorem d_Hb_refusalOf_37 : decode c_Hb_refusalOf 37 = .ok (.iconst 0, 1) := by decide +kernel
theorem d_Hb_refusalOf_38 : decode c_Hb_refusalOf 38 = .ok (.goto 5, 3) := by decide +kernel
theorem d_Hb_refusalOf_41 : decode c_Hb_refusalOf 41 = .ok (.bipush (-12), 2) := by decide +kernel
theorem d_Hb_refusalOf_43 : decode c_Hb_refusalOf 43 = .ok (.ireturn, 1) := by decide +kernel
theorem d_Hb_placeOfLack_0 : decode c_Hb_placeOfLack 0 = .ok (.iconst 0, 1) := by decide +kernel
theorem d_Hb_placeOfLack_1 : decode c_Hb_placeOfLack 1 = .ok (.istore_n 1, 1) := by decide +kernel
theorem d_Hb_placeOfLack_2 : decode c_Hb_placeOfLack 2 = .ok (.aload_n 0, 1) := by decide +kernel
theorem d_Hb_placeOfLack_3 : decode c_Hb_placeOfLack 3 = .ok (.iload_n 1, 1) := by decide +kernel
theorem d_Hb_placeOfLack_4 : decode c_Hb_placeOfLack 4 = .ok (.iconst 1, 1) := by decide +kernel
theorem d_Hb_placeOfLack_5 : decode c_Hb_placeOfLack 5 = .ok (.invokevirtual 282, 3) := by decide +kernel
theorem d_Hb_placeOfLack_8 : decode c_Hb_placeOfLack 8 = .ok (.ifCond .eq 15, 3) := by decide +kernel
theorem d_Hb_placeOfLack_11 : decode c_Hb_placeOfLack 11 = .ok (.aload_n 0, 1) := by decide +kernel
theorem d_Hb_placeOfLack_12 : decode c_Hb_placeOfLack 12 = .ok (.getfield 96, 3) := by decide +kernel
theorem d_Hb_placeOfLack_15 : decode c_Hb_placeOfLack 15 = .ok (.iload_n 1, 1) := by decide +kernel
theorem d_Hb_placeOfLack_16 : decode c_Hb_placeOfLack 16 = .ok (.iaload, 1) := by decide +kernel
theorem d_Hb_placeOfLack_17 : decode c_Hb_placeOfLack 17 = .ok (.invokestatic 100, 3) := by decide +kernel
theorem d_Hb_placeOfLack_20 : decode c_Hb_placeOfLack 20 = .ok (.goto 4, 3) := by decide +kernel
theorem d_Hb_placeOfLack_23 : decode c_Hb_placeOfLack 23 = .ok (.iconst 0, 1) := by decide +kernel
theorem d_Hb_placeOfLack_24 : decode c_Hb_placeOfLack 24 = .ok (.istore_n 2, 1) := by decide +kernel
theorem d_Hb_placeOfLack_25 : decode c_Hb_placeOfLack 25 = .ok (.iload_n 2, 1) := by decide +kernel
theorem d_Hb_placeOfLack_26 : decode c_Hb_placeOfLack 26 = .ok (.ifCond .ne 5, 3) := by decide +kernel
theorem d_Hb_placeOfLack_29 : decode c_Hb_placeOfLack 29 = .ok (.iload_n 1, 1) := by decide +kernel
theorem d_Hb_placeOfLack_30 : decode c_Hb_placeOfLack 30 = .ok (.ireturn, 1) := by decide +kernel
theorem d_Hb_placeOfLack_31 : decode c_Hb_placeOfLack 31 = .ok (.iinc 1 1, 3) := by decide +kernel
theorem d_Hb_placeOfLack_34 : decode c_Hb_placeOfLack 34 = .ok (.iload_n 1, 1) := by decide +kernel
theorem d_Hb_placeOfLack_35 : decode c_Hb_placeOfLack 35 = .ok (.iload_n 2, 1) := by decide +kernel
theorem d_Hb_placeOfLack_36 : decode c_Hb_placeOfLack 36 = .ok (.iadd, 1) := by decide +kernel
theorem d_Hb_placeOfLack_37 : decode c_Hb_placeOfLack 37 = .ok (.istore_n 3, 1) := by decide +kernel
theorem d_Hb_placeOfLack_38 : decode c_Hb_placeOfLack 38 = .ok (.iload_n 1, 1) := by decide +kernel
theorem d_Hb_placeOfLack_39 : decode c_Hb_placeOfLack 39 = .ok (.iload_n 3, 1) := by decide +kernel
theorem d_Hb_placeOfLack_40 : decode c_Hb_placeOfLack 40 = .ok (.if_icmp .ge 36, 3) := by decide +kernel
theorem d_Hb_placeOfLack_43 : decode c_Hb_placeOfLack 43 = .ok (.aload_n 0, 1) := by decide +kernel
theorem d_Hb_placeOfLack_44 : decode c_Hb_placeOfLack 44 = .ok (.iload_n 1, 1) := by decide +kernel
theorem d_Hb_placeOfLack_45 : decode c_Hb_placeOfLack 45 = .ok (.iconst 1, 1) := by decide +kernel
theorem d_Hb_placeOfLack_46 : decode c_Hb_placeOfLack 46 = .ok (.invokevirtual 282, 3) := by decide +kernel
theorem d_Hb_placeOfLack_49 : decode c_Hb_placeOfLack 49 = .ok (.ifCond .eq 19, 3) := by decide +kernel
theorem d_Hb_placeOfLack_52 : decode c_Hb_placeOfLack 52 = .ok (.aload_n 0, 1) := by decide +kernel
theorem d_Hb_placeOfLack_53 : decode c_Hb_placeOfLack 53 = .ok (.getfield 96, 3) := by decide +kernel
theorem d_Hb_placeOfLack_56 : decode c_Hb_placeOfLack 56 = .ok (.iload_n 1, 1) := by decide +kernel
theorem d_Hb_placeOfLack_57 : decode c_Hb_placeOfLack 57 = .ok (.iaload, 1) := by decide +kernel
theorem d_Hb_placeOfLack_58 : decode c_Hb_placeOfLack 58 = .ok (.bipush 48, 2) := by decide +kernel
theorem d_Hb_placeOfLack_60 : decode c_Hb_placeOfLack 60 = .ok (.bipush 57, 2) := by decide +kernel
theorem d_Hb_placeOfLack_62 : decode c_Hb_placeOfLack 62 = .ok (.invokestatic 169, 3) := by decide +kernel
theorem d_Hb_placeOfLack_65 : decode c_Hb_placeOfLack 65 = .ok (.ifCond .ne 5, 3) := by decide +kernel
theorem d_Hb_placeOfLack_68 : decode c_Hb_placeOfLack 68 = .ok (.iload_n 1, 1) := by decide +kernel
theorem d_Hb_placeOfLack_69 : decode c_Hb_placeOfLack 69 = .ok (.ireturn, 1) := by decide +kernel
theorem d_Hb_placeOfLack_70 : decode c_Hb_placeOfLack 70 = .ok (.iinc 1 1, 3) := by decide +kernel
theorem d_Hb_placeOfLack_73 : decode c_Hb_placeOfLack 73 = .ok (.goto (-35), 3) := by decide +kernel
theorem d_Hb_placeOfLack_76 : decode c_Hb_placeOfLack 76 = .ok (.aload_n 0, 1) := by decide +kernel
theorem d_Hb_placeOfLack_77 : decode c_Hb_placeOfLack 77 = .ok (.iload_n 1, 1) := by decide +kernel
theorem d_Hb_placeOfLack_78 : decode c_Hb_placeOfLack 78 = .ok (.iconst 1, 1) := by decide +kernel
theorem d_Hb_placeOfLack_79 : decode c_Hb_placeOfLack 79 = .ok (.invokevirtual 282, 3) := by decide +kernel
theorem d_Hb_placeOfLack_82 : decode c_Hb_placeOfLack 82 = .ok (.ifCond .eq 14, 3) := by decide +kernel
theorem d_Hb_placeOfLack_85 : decode c_Hb_placeOfLack 85 = .ok (.aload_n 0, 1) := by decide +kernel
theorem d_Hb_placeOfLack_86 : decode c_Hb_placeOfLack 86 = .ok (.getfield 96, 3) := by decide +kernel
theorem d_Hb_placeOfLack_89 : decode c_Hb_placeOfLack 89 = .ok (.iload_n 1, 1) := by decide +kernel
theorem d_Hb_placeOfLack_90 : decode c_Hb_placeOfLack 90 = .ok (.iaload, 1) := by decide +kernel
theorem d_Hb_placeOfLack_91 : decode c_Hb_placeOfLack 91 = .ok (.bipush 59, 2) := by decide +kernel
theorem d_Hb_placeOfLack_93 : decode c_Hb_placeOfLack 93 = .ok (.if_icmp .eq 5, 3) := by decide +kernel
theorem d_Hb_placeOfLack_96 : decode c_Hb_placeOfLack 96 = .ok (.iload_n 1, 1) := by decide +kernel
theorem d_Hb_placeOfLack_97 : decode c_Hb_placeOfLack 97 = .ok (.ireturn, 1) := by decide +kernel
theorem d_Hb_placeOfLack_98 : decode c_Hb_placeOfLack 98 = .ok (.iinc 1 1, 3) := by decide +kernel
theorem d_Hb_placeOfLack_101 : decode c_Hb_placeOfLack 101 = .ok (.iload_n 1, 1) := by decide +kernel
theorem d_Hb_placeOfLack_102 : decode c_Hb_placeOfLack 102 = .ok (.aload_n 0, 1) := by decide +kernel
theorem d_Hb_placeOfLack_103 : decode c_Hb_placeOfLack 103 = .ok (.getfield 89, 3) := by decide +kernel
theorem d_Hb_placeOfLack_106 : decode c_Hb_placeOfLack 106 = .ok (.if_icmp .lt (-104), 3) := by decide +kernel
theorem d_Hb_placeOfLack_109 : decode c_Hb_placeOfLack 109 = .ok (.iconst (-1), 1) := by decide +kernel
theorem d_Hb_placeOfLack_110 : decode c_Hb_placeOfLack 110 = .ok (.ireturn, 1) := by decide +kernel
theorem d_Hb_digitsBehind_0 : decode c_Hb_digitsBehind 0 = .ok (.iload_n 0, 1) := by decide +kernel
theorem d_Hb_digitsBehind_1 : decode c_Hb_digitsBehind 1 = .ok (.tableswitch 86 100 114 #[84, 86, 86, 86, 75, 86, 86, 86, 80, 86, 86, 82, 86, 86, 78], 75) := by decide +kernel
theorem d_Hb_digitsBehind_76 : decode c_Hb_digitsBehind 76 = .ok (.bipush 6, 2) := by decide +kernel
theorem d_Hb_digitsBehind_78 : decode c_Hb_digitsBehind 78 = .ok (.ireturn, 1) := by decide +kernel
theorem d_Hb_digitsBehind_79 : decode c_Hb_digitsBehind 79 = .ok (.iconst 3, 1) := by decide +kernel
theorem d_Hb_digitsBehind_80 : decode c_Hb_digitsBehind 80 = .ok (.ireturn, 1) := by decide +kernel
theorem d_Hb_digitsBehind_81 : decode c_Hb_digitsBehind 81 = .ok (.iconst 3, 1) := by decide +kernel
theorem d_Hb_digitsBehind_82 : decode c_Hb_digitsBehind 82 = .ok (.ireturn, 1) := by decide +kernel
theorem d_Hb_digitsBehind_83 : decode c_Hb_digitsBehind 83 = .ok (.iconst 2, 1) := by decide +kernel
theorem d_Hb_digitsBehind_84 : decode c_Hb_digitsBehind 84 = .ok (.ireturn, 1) := by decide +kernel
theorem d_Hb_digitsBehind_85 : decode c_Hb_digitsBehind 85 = .ok (.iconst 2, 1) := by decide +kernel
theorem d_Hb_digitsBehind_86 : decode c_Hb_digitsBehind 86 = .ok (.ireturn, 1) := by decide +kernel
theorem d_Hb_digitsBehind_87 : decode c_Hb_digitsBehind 87 = .ok (.iconst 0, 1) := by decide +kernel
theorem d_Hb_digitsBehind_88 : decode c_Hb_digitsBehind 88 = .ok (.ireturn, 1) := by decide +kernel
theorem d_Hb_daysOfRide_0 : decode c_Hb_daysOfRide 0 = .ok (.aload_n 0, 1) := by decide +kernel
theorem d_Hb_daysOfRide_1 : decode c_Hb_daysOfRide 1 = .ok (.getfield 58, 3) := by decide +kernel
theorem d_Hb_daysOfRide_4 : decode c_Hb_daysOfRide 4 = .ok (.aload_n 1, 1) := by decide +kernel
theorem d_Hb_daysOfRide_5 : decode c_Hb_daysOfRide 5 = .ok (.invokevirtual 183, 3) := by decide +kernel
theorem d_Hb_daysOfRide_8 : decode c_Hb_daysOfRide 8 = .ok (.aload_n 0, 1) := by decide +kernel
theorem d_Hb_daysOfRide_9 : decode c_Hb_daysOfRide 9 = .ok (.getfield 58, 3) := by decide +kernel
theorem d_Hb_daysOfRide_12 : decode c_Hb_daysOfRide 12 = .ok (.iload_n 2, 1) := by decide +kernel
theorem d_Hb_daysOfRide_13 : decode c_Hb_daysOfRide 13 = .ok (.aload_n 0, 1) := by decide +kernel
theorem d_Hb_daysOfRide_14 : decode c_Hb_daysOfRide 14 = .ok (.getfield 42, 3) := by decide +kernel
theorem d_Hb_daysOfRide_17 : decode c_Hb_daysOfRide 17 = .ok (.getfield 131, 3) := by decide +kernel
theorem d_Hb_daysOfRide_20 : decode c_Hb_daysOfRide 20 = .ok (.invokevirtual 197, 3) := by decide +kernel
theorem d_Hb_daysOfRide_23 : decode c_Hb_daysOfRide 23 = .ok (.ireturn, 1) := by decide +kernel
theorem d_Hb_daysOfLaterRide_0 : decode c_Hb_daysOfLaterRide 0 = .ok (.aload_n 0, 1) := by decide +kernel
theorem d_Hb_daysOfLaterRide_1 : decode c_Hb_daysOfLaterRide 1 = .ok (.getfield 58, 3) := by decide +kernel
theorem d_Hb_daysOfLaterRide_4 : decode c_Hb_daysOfLaterRide 4 = .ok (.aload_n 1, 1) := by decide +kernel
theorem d_Hb_daysOfLaterRide_5 : decode c_Hb_daysOfLaterRide 5 = .ok (.invokevirtual 183, 3) := by decide +kernel
theorem d_Hb_daysOfLaterRide_8 : decode c_Hb_daysOfLaterRide 8 = .ok (.aload_n 0, 1) := by decide +kernel
theorem d_Hb_daysOfLaterRide_9 : decode c_Hb_daysOfLaterRide 9 = .ok (.getfield 58, 3) := by decide +kernel
theorem d_Hb_daysOfLaterRide_12 : decode c_Hb_daysOfLaterRide 12 = .ok (.iload_n 2, 1) := by decide +kernel
theorem d_Hb_daysOfLaterRide_13 : decode c_Hb_daysOfLaterRide 13 = .ok (.aload_n 0, 1) := by decide +kernel
theorem d_Hb_daysOfLaterRide_14 : decode c_Hb_daysOfLaterRide 14 = .ok (.getfield 42, 3) := by decide +kernel
theorem d_Hb_daysOfLaterRide_17 : decode c_Hb_daysOfLaterRide 17 = .ok (.getfield 131, 3) := by decide +kernel
theorem d_Hb_daysOfLaterRide_20 : decode c_Hb_daysOfLaterRide 20 = .ok (.invokevirtual 186, 3) := by decide +kernel
theorem d_Hb_daysOfLaterRide_23 : decode c_Hb_daysOfLaterRide 23 = .ok (.iload_n 2, 1) := by decide +kernel
theorem d_Hb_daysOfLaterRide_24 : decode c_Hb_daysOfLaterRide 24 = .ok (.aload_n 0, 1) := by decide +kernel
theorem d_Hb_daysOfLaterRide_25 : decode c_Hb_daysOfLaterRide 25 = .ok (.getfield 58, 3) := by decide +kernel
theorem d_Hb_daysOfLaterRide_28 : decode c_Hb_daysOfLaterRide 28 = .ok (.iload_n 3, 1) := by decide +kernel
theorem d_Hb_daysOfLaterRide_29 : decode c_Hb_daysOfLaterRide 29 = .ok (.aload_n 0, 1) := by decide +kernel
theorem d_Hb_daysOfLaterRide_30 : decode c_Hb_daysOfLaterRide 30 = .ok (.getfield 42, 3) := by decide +kernel
theorem d_Hb_daysOfLaterRide_33 : decode c_Hb_daysOfLaterRide 33 = .ok (.getfield 131, 3) := by decide +kernel
theorem d_Hb_daysOfLaterRide_36 : decode c_Hb_daysOfLaterRide 36 = .ok (.invokevirtual 197, 3) := by decide +kernel
theorem d_Hb_daysOfLaterRide_39 : decode c_Hb_daysOfLaterRide 39 = .ok (.iadd, 1) := by decide +kernel
theorem d_Hb_daysOfLaterRide_40 : decode c_Hb_daysOfLaterRide 40 = .ok (.ireturn, 1) := by decide +kernel
theorem d_Hb_chainWith_0 : decode c_Hb_chainWith 0 = .ok (.iload_n 1, 1) := by decide +kernel
theorem d_Hb_chainWith_1 : decode c_Hb_chainWith 1 = .ok (.iconst 3, 1) := by decide +kernel
theorem d_Hb_chainWith_2 : decode c_Hb_chainWith 2 = .ok (.if_icmp .lt 7, 3) := by decide +kernel
theorem d_Hb_chainWith_5 : decode c_Hb_chainWith 5 = .ok (.sipush 1000, 3) := by decide +kernel
theorem d_Hb_chainWith_8 : decode c_Hb_chainWith 8 = .ok (.ireturn, 1) := by decide +kernel
theorem d_Hb_chainWith_9 : decode c_Hb_chainWith 9 = .ok (.sipush 1000, 3) := by decide +kernel
theorem d_Hb_chainWith_12 : decode c_Hb_chainWith 12 = .ok (.istore 5, 2) := by decide +kernel
theorem d_Hb_chainWith_14 : decode c_Hb_chainWith 14 = .ok (.aload_n 0, 1) := by decide +kernel
theorem d_Hb_chainWith_15 : decode c_Hb_chainWith 15 = .ok (.iload_n 1, 1) := by decide +kernel
theorem d_Hb_chainWith_16 : decode c_Hb_chainWith 16 = .ok (.iconst 1, 1) := by decide +kernel
theorem d_Hb_chainWith_17 : decode c_Hb_chainWith 17 = .ok (.iadd, 1) := by decide +kernel
theorem d_Hb_chainWith_18 : decode c_Hb_chainWith 18 = .ok (.aaload, 1) := by decide +kernel
theorem d_Hb_chainWith_19 : decode c_Hb_chainWith 19 = .ok (.astore 6, 2) := by decide +kernel
theorem d_Hb_chainWith_21 : decode c_Hb_chainWith 21 = .ok (.aload_n 0, 1) := by decide +kernel
theorem d_Hb_chainWith_22 : decode c_Hb_chainWith 22 = .ok (.iload_n 1, 1) := by decide +kernel
theorem d_Hb_chainWith_23 : decode c_Hb_chainWith 23 = .ok (.aaload, 1) := by decide +kernel
theorem d_Hb_chainWith_24 : decode c_Hb_chainWith 24 = .ok (.getfield 107, 3) := by decide +kernel
theorem d_Hb_chainWith_27 : decode c_Hb_chainWith 27 = .ok (.iload_n 2, 1) := by decide +kernel
theorem d_Hb_chainWith_28 : decode c_Hb_chainWith 28 = .ok (.aaload, 1) := by decide +kernel
theorem d_Hb_chainWith_29 : decode c_Hb_chainWith 29 = .ok (.getfield 125, 3) := by decide +kernel
theorem d_Hb_chainWith_32 : decode c_Hb_chainWith 32 = .ok (.istore 7, 2) := by decide +kernel
theorem d_Hb_chainWith_34 : decode c_Hb_chainWith 34 = .ok (.iconst 0, 1) := by decide +kernel
theorem d_Hb_chainWith_35 : decode c_Hb_chainWith 35 = .ok (.istore 8, 2) := by decide +kernel
theorem d_Hb_chainWith_37 : decode c_Hb_chainWith 37 = .ok (.iload 8, 2) := by decide +kernel
theorem d_Hb_chainWith_39 : decode c_Hb_chainWith 39 = .ok (.bipush 21, 2) := by decide +kernel
theorem d_Hb_chainWith_41 : decode c_Hb_chainWith 41 = .ok (.if_icmp .ge 73, 3) := by decide +kernel
theorem d_Hb_chainWith_44 : decode c_Hb_chainWith 44 = .ok (.iload 8, 2) := by decide +kernel
theorem d_Hb_chainWith_46 : decode c_Hb_chainWith 46 = .ok (.iload 7, 2) := by decide +kernel
theorem d_Hb_chainWith_48 : decode c_Hb_chainWith 48 = .ok (.if_icmp .ne 6, 3) := by decide +kernel
theorem d_Hb_chainWith_51 : decode c_Hb_chainWith 51 = .ok (.goto 57, 3) := by decide +kernel
theorem d_Hb_chainWith_54 : decode c_Hb_chainWith 54 = .ok (.aload 6, 2) := by decide +kernel
theorem d_Hb_chainWith_56 : decode c_Hb_chainWith 56 = .ok (.aload_n 0, 1) := by decide +kernel
theorem d_Hb_chainWith_57 : decode c_Hb_chainWith 57 = .ok (.iload_n 1, 1) := by decide +kernel
theorem d_Hb_chainWith_58 : decode c_Hb_chainWith 58 = .ok (.aaload, 1) := by decide +kernel
theorem d_Hb_chainWith_59 : decode c_Hb_chainWith 59 = .ok (.invokevirtual 85, 3) := by decide +kernel
theorem d_Hb_chainWith_62 : decode c_Hb_chainWith 62 = .ok (.aload 6, 2) := by decide +kernel
theorem d_Hb_chainWith_64 : decode c_Hb_chainWith 64 = .ok (.iload_n 2, 1) := by decide +kernel
theorem d_Hb_chainWith_65 : decode c_Hb_chainWith 65 = .ok (.iload 8, 2) := by decide +kernel
theorem d_Hb_chainWith_67 : decode c_Hb_chainWith 67 = .ok (.invokevirtual 165, 3) := by decide +kernel
theorem d_Hb_chainWith_70 : decode c_Hb_chainWith 70 = .ok (.istore 9, 2) := by decide +kernel
theorem d_Hb_chainWith_72 : decode c_Hb_chainWith 72 = .ok (.iload 9, 2) := by decide +kernel
theorem d_Hb_chainWith_74 : decode c_Hb_chainWith 74 = .ok (.iload 8, 2) := by decide +kernel
theorem d_Hb_chainWith_76 : decode c_Hb_chainWith 76 = .ok (.iload_n 3, 1) := by decide +kernel
theorem d_Hb_chainWith_77 : decode c_Hb_chainWith 77 = .ok (.if_icmp .ne 7, 3) := by decide +kernel
theorem d_Hb_chainWith_80 : decode c_Hb_chainWith 80 = .ok (.iconst 0, 1) := by decide +kernel
theorem d_Hb_chainWith_81 : decode c_Hb_chainWith 81 = .ok (.goto 15, 3) := by decide +kernel
theorem d_Hb_chainWith_84 : decode c_Hb_chainWith 84 = .ok (.aload_n 0, 1) := by decide +kernel
theorem d_Hb_chainWith_85 : decode c_Hb_chainWith 85 = .ok (.iload_n 1, 1) := by decide +kernel
theorem d_Hb_chainWith_86 : decode c_Hb_chainWith 86 = .ok (.iconst 1, 1) := by decide +kernel
theorem d_Hb_chainWith_87 : decode c_Hb_chainWith 87 = .ok (.iadd, 1) := by decide +kernel
theorem d_Hb_chainWith_88 : decode c_Hb_chainWith 88 = .ok (.iload 8, 2) := by decide +kernel
theorem d_Hb_chainWith_90 : decode c_Hb_chainWith 90 = .ok (.iload_n 3, 1) := by decide +kernel
theorem d_Hb_chainWith_91 : decode c_Hb_chainWith 91 = .ok (.iload 4, 2) := by decide +kernel
theorem d_Hb_chainWith_93 : decode c_Hb_chainWith 93 = .ok (.invokestatic 302, 3) := by decide +kernel
theorem d_Hb_chainWith_96 : decode c_Hb_chainWith 96 = .ok (.iadd, 1) := by decide +kernel
theorem d_Hb_chainWith_97 : decode c_Hb_chainWith 97 = .ok (.istore 9, 2) := by decide +kernel
theorem d_Hb_chainWith_99 : decode c_Hb_chainWith 99 = .ok (.iload 5, 2) := by decide +kernel
theorem d_Hb_chainWith_101 : decode c_Hb_chainWith 101 = .ok (.iload 9, 2) := by decide +kernel
theorem d_Hb_chainWith_103 : decode c_Hb_chainWith 103 = .ok (.invokestatic 305, 3) := by decide +kernel
theorem d_Hb_chainWith_106 : decode c_Hb_chainWith 106 = .ok (.istore 5, 2) := by decide +kernel
theorem d_Hb_chainWith_108 : decode c_Hb_chainWith 108 = .ok (.iinc 8 1, 3) := by decide +kernel
theorem d_Hb_chainWith_111 : decode c_Hb_chainWith 111 = .ok (.goto (-74), 3) := by decide +kernel
theorem d_Hb_chainWith_114 : decode c_Hb_chainWith 114 = .ok (.iload 5, 2) := by decide +kernel
theorem d_Hb_chainWith_116 : decode c_Hb_chainWith 116 = .ok (.ireturn, 1) := by decide +kernel
theorem d_Hb_chainOn_0 : decode c_Hb_chainOn 0 = .ok (.sipush 1000, 3) := by decide +kernel
theorem d_Hb_chainOn_3 : decode c_Hb_chainOn 3 = .ok (.istore 5, 2) := by decide +kernel
theorem d_Hb_chainOn_5 : decode c_Hb_chainOn 5 = .ok (.aload_n 0, 1) := by decide +kernel
theorem d_Hb_chainOn_6 : decode c_Hb_chainOn 6 = .ok (.iload_n 1, 1) := by decide +kernel
theorem d_Hb_chainOn_7 : decode c_Hb_chainOn 7 = .ok (.aaload, 1) := by decide +kernel
theorem d_Hb_chainOn_8 : decode c_Hb_chainOn 8 = .ok (.astore 6, 2) := by decide +kernel
theorem d_Hb_chainOn_10 : decode c_Hb_chainOn 10 = .ok (.iconst 0, 1) := by decide +kernel
theorem d_Hb_chainOn_11 : decode c_Hb_chainOn 11 = .ok (.istore 7, 2) := by decide +kernel
theorem d_Hb_chainOn_13 : decode c_Hb_chainOn 13 = .ok (.iload 7, 2) := by decide +kernel
theorem d_Hb_chainOn_15 : decode c_Hb_chainOn 15 = .ok (.aload 6, 2) := by decide +kernel
theorem d_Hb_chainOn_17 : decode c_Hb_chainOn 17 = .ok (.getfield 149, 3) := by decide +kernel
theorem d_Hb_chainOn_20 : decode c_Hb_chainOn 20 = .ok (.if_icmp .ge 56, 3) := by decide +kernel
theorem d_Hb_chainOn_23 : decode c_Hb_chainOn 23 = .ok (.iload 4, 2) := by decide +kernel
theorem d_Hb_chainOn_25 : decode c_Hb_chainOn 25 = .ok (.iload 7, 2) := by decide +kernel
theorem d_Hb_chainOn_27 : decode c_Hb_chainOn 27 = .ok (.ishr, 1) := by decide +kernel
theorem d_Hb_chainOn_28 : decode c_Hb_chainOn 28 = .ok (.iconst 1, 1) := by decide +kernel
theorem d_Hb_chainOn_29 : decode c_Hb_chainOn 29 = .ok (.iand, 1) := by decide +kernel
theorem d_Hb_chainOn_30 : decode c_Hb_chainOn 30 = .ok (.ifCond .ne 40, 3) := by decide +kernel
theorem d_Hb_chainOn_33 : decode c_Hb_chainOn 33 = .ok (.aload 6, 2) := by decide +kernel
theorem d_Hb_chainOn_35 : decode c_Hb_chainOn 35 = .ok (.getfield 107, 3) := by decide +kernel
theorem d_Hb_chainOn_38 : decode c_Hb_chainOn 38 = .ok (.iload 7, 2) := by decide +kernel
theorem d_Hb_chainOn_40 : decode c_Hb_chainOn 40 = .ok (.aaload, 1) := by decide +kernel
theorem d_Hb_chainOn_41 : decode c_Hb_chainOn 41 = .ok (.getfield 125, 3) := by decide +kernel
theorem d_Hb_chainOn_44 : decode c_Hb_chainOn 44 = .ok (.iload_n 2, 1) := by decide +kernel
theorem d_Hb_chainOn_45 : decode c_Hb_chainOn 45 = .ok (.if_icmp .ne 25, 3) := by decide +kernel
theorem d_Hb_chainOn_48 : decode c_Hb_chainOn 48 = .ok (.iload 5, 2) := by decide +kernel
theorem d_Hb_chainOn_50 : decode c_Hb_chainOn 50 = .ok (.aload_n 0, 1) := by decide +kernel
theorem d_Hb_chainOn_51 : decode c_Hb_chainOn 51 = .ok (.iload_n 1, 1) := by decide +kernel
theorem d_Hb_chainOn_52 : decode c_Hb_chainOn 52 = .ok (.iload 7, 2) := by decide +kernel
theorem d_Hb_chainOn_54 : decode c_Hb_chainOn 54 = .ok (.iload_n 3, 1) := by decide +kernel
theorem d_Hb_chainOn_55 : decode c_Hb_chainOn 55 = .ok (.iload 4, 2) := by decide +kernel
theorem d_Hb_chainOn_57 : decode c_Hb_chainOn 57 = .ok (.iconst 1, 1) := by decide +kernel
theorem d_Hb_chainOn_58 : decode c_Hb_chainOn 58 = .ok (.iload 7, 2) := by decide +kernel
theorem d_Hb_chainOn_60 : decode c_Hb_chainOn 60 = .ok (.ishl, 1) := by decide +kernel
theorem d_Hb_chainOn_61 : decode c_Hb_chainOn 61 = .ok (.ior, 1) := by decide +kernel
theorem d_Hb_chainOn_62 : decode c_Hb_chainOn 62 = .ok (.invokestatic 190, 3) := by decide +kernel
theorem d_Hb_chainOn_65 : decode c_Hb_chainOn 65 = .ok (.invokestatic 305, 3) := by decide +kernel
theorem d_Hb_chainOn_68 : decode c_Hb_chainOn 68 = .ok (.istore 5, 2) := by decide +kernel
theorem d_Hb_chainOn_70 : decode c_Hb_chainOn 70 = .ok (.iinc 7 1, 3) := by decide +kernel
theorem d_Hb_chainOn_73 : decode c_Hb_chainOn 73 = .ok (.goto (-60), 3) := by decide +kernel
theorem d_Hb_chainOn_76 : decode c_Hb_chainOn 76 = .ok (.iload 5, 2) := by decide +kernel
theorem d_Hb_chainOn_78 : decode c_Hb_chainOn 78 = .ok (.ireturn, 1) := by decide +kernel
theorem d_Hb_feesOf_0 : decode c_Hb_feesOf 0 = .ok (.aload_n 1, 1) := by decide +kernel
theorem d_Hb_feesOf_1 : decode c_Hb_feesOf 1 = .ok (.getfield 111, 3) := by decide +kernel
theorem d_Hb_feesOf_4 : decode c_Hb_feesOf 4 = .ok (.aload_n 1, 1) := by decide +kernel
theorem d_Hb_feesOf_5 : decode c_Hb_feesOf 5 = .ok (.getfield 119, 3) := by decide +kernel
theorem d_Hb_feesOf_8 : decode c_Hb_feesOf 8 = .ok (.invokevirtual 291, 3) := by decide +kernel
theorem d_Hb_feesOf_11 : decode c_Hb_feesOf 11 = .ok (.aload_n 0, 1) := by decide +kernel
theorem d_Hb_feesOf_12 : decode c_Hb_feesOf 12 = .ok (.aload_n 1, 1) := by decide +kernel
theorem d_Hb_feesOf_13 : decode c_Hb_feesOf 13 = .ok (.iload_n 2, 1) := by decide +kernel
theorem d_Hb_feesOf_14 : decode c_Hb_feesOf 14 = .ok (.invokevirtual 158, 3) := by decide +kernel
theorem d_Hb_feesOf_17 : decode c_Hb_feesOf 17 = .ok (.imul, 1) := by decide +kernel
theorem d_Hb_feesOf_18 : decode c_Hb_feesOf 18 = .ok (.ireturn, 1) := by decide +kernel
theorem d_Hb_isTold_0 : decode c_Hb_isTold 0 = .ok (.iconst 0, 1) := by decide +kernel
theorem d_Hb_isTold_1 : decode c_Hb_isTold 1 = .ok (.istore 4, 2) := by decide +kernel
theorem d_Hb_isTold_3 : decode c_Hb_isTold 3 = .ok (.iload 4, 2) := by decide +kernel
theorem d_Hb_isTold_5 : decode c_Hb_isTold 5 = .ok (.aload_n 2, 1) := by decide +kernel
theorem d_Hb_isTold_6 : decode c_Hb_isTold 6 = .ok (.getfield 89, 3) := by decide +kernel
theorem d_Hb_isTold_9 : decode c_Hb_isTold 9 = .ok (.if_icmp .ge 55, 3) := by decide +kernel
theorem d_Hb_isTold_12 : decode c_Hb_isTold 12 = .ok (.aload_n 2, 1) := by decide +kernel
theorem d_Hb_isTold_13 : decode c_Hb_isTold 13 = .ok (.iload 4, 2) := by decide +kernel
theorem d_Hb_isTold_15 : decode c_Hb_isTold 15 = .ok (.aload_n 1, 1) := by decide +kernel
theorem d_Hb_isTold_16 : decode c_Hb_isTold 16 = .ok (.getfield 125, 3) := by decide +kernel
theorem d_Hb_isTold_19 : decode c_Hb_isTold 19 = .ok (.invokevirtual 239, 3) := by decide +kernel
theorem d_Hb_isTold_22 : decode c_Hb_isTold 22 = .ok (.ifCond .ne 5, 3) := by decide +kernel
theorem d_Hb_isTold_25 : decode c_Hb_isTold 25 = .ok (.iconst 0, 1) := by decide +kernel
theorem d_Hb_isTold_26 : decode c_Hb_isTold 26 = .ok (.ireturn, 1) := by decide +kernel
theorem d_Hb_isTold_27 : decode c_Hb_isTold 27 = .ok (.aload_n 1, 1) := by decide +kernel
theorem d_Hb_isTold_28 : decode c_Hb_isTold 28 = .ok (.getfield 125, 3) := by decide +kernel
theorem d_Hb_isTold_31 : decode c_Hb_isTold 31 = .ok (.iload_n 3, 1) := by decide +kernel
theorem d_Hb_isTold_32 : decode c_Hb_isTold 32 = .ok (.if_icmp .eq 26, 3) := by decide +kernel
theorem d_Hb_isTold_35 : decode c_Hb_isTold 35 = .ok (.aload_n 1, 1) := by decide +kernel
theorem d_Hb_isTold_36 : decode c_Hb_isTold 36 = .ok (.iload_n 3, 1) := by decide +kernel
theorem d_Hb_isTold_37 : decode c_Hb_isTold 37 = .ok (.aload_n 0, 1) := by decide +kernel
theorem d_Hb_isTold_38 : decode c_Hb_isTold 38 = .ok (.getfield 42, 3) := by decide +kernel
theorem d_Hb_isTold_41 : decode c_Hb_isTold 41 = .ok (.getfield 131, 3) := by decide +kernel
theorem d_Hb_isTold_44 : decode c_Hb_isTold 44 = .ok (.invokevirtual 308, 3) := by decide +kernel
theorem d_Hb_isTold_47 : decode c_Hb_isTold 47 = .ok (.aload_n 1, 1) := by decide +kernel
theorem d_Hb_isTold_48 : decode c_Hb_isTold 48 = .ok (.aload_n 0, 1) := by decide +kernel
theorem d_Hb_isTold_49 : decode c_Hb_isTold 49 = .ok (.getfield 42, 3) := by decide +kernel
theorem d_Hb_isTold_52 : decode c_Hb_isTold 52 = .ok (.getfield 131, 3) := by decide +kernel
theorem d_Hb_isTold_55 : decode c_Hb_isTold 55 = .ok (.invokevirtual 311, 3) := by decide +kernel
theorem d_Hb_isTold_58 : decode c_Hb_isTold 58 = .ok (.iinc 4 1, 3) := by decide +kernel
theorem d_Hb_isTold_61 : decode c_Hb_isTold 61 = .ok (.goto (-58), 3) := by decide +kernel
theorem d_Hb_isTold_64 : decode c_Hb_isTold 64 = .ok (.iconst 1, 1) := by decide +kernel
theorem d_Hb_isTold_65 : decode c_Hb_isTold 65 = .ok (.ireturn, 1) := by decide +kernel
theorem d_Hb_kindsTold_0 : decode c_Hb_kindsTold 0 = .ok (.iconst 0, 1) := by decide +kernel
theorem d_Hb_kindsTold_1 : decode c_Hb_kindsTold 1 = .ok (.istore 4, 2) := by decide +kernel
theorem d_Hb_kindsTold_3 : decode c_Hb_kindsTold 3 = .ok (.iconst 0, 1) := by decide +kernel
theorem d_Hb_kindsTold_4 : decode c_Hb_kindsTold 4 = .ok (.istore 5, 2) := by decide +kernel
theorem d_Hb_kindsTold_6 : decode c_Hb_kindsTold 6 = .ok (.iload 5, 2) := by decide +kernel
theorem d_Hb_kindsTold_8 : decode c_Hb_kindsTold 8 = .ok (.bipush 8, 2) := by decide +kernel
theorem d_Hb_kindsTold_10 : decode c_Hb_kindsTold 10 = .ok (.if_icmp .ge 61, 3) := by decide +kernel
theorem d_Hb_kindsTold_13 : decode c_Hb_kindsTold 13 = .ok (.aload_n 0, 1) := by decide +kernel
theorem d_Hb_kindsTold_14 : decode c_Hb_kindsTold 14 = .ok (.getfield 58, 3) := by decide +kernel
theorem d_Hb_kindsTold_17 : decode c_Hb_kindsTold 17 = .ok (.aload_n 0, 1) := by decide +kernel
theorem d_Hb_kindsTold_18 : decode c_Hb_kindsTold 18 = .ok (.getfield 42, 3) := by decide +kernel
theorem d_Hb_kindsTold_21 : decode c_Hb_kindsTold 21 = .ok (.getfield 107, 3) := by decide +kernel
theorem d_Hb_kindsTold_24 : decode c_Hb_kindsTold 24 = .ok (.iload_n 2, 1) := by decide +kernel
theorem d_Hb_kindsTold_25 : decode c_Hb_kindsTold 25 = .ok (.aaload, 1) := by decide +kernel
theorem d_Hb_kindsTold_26 : decode c_Hb_kindsTold 26 = .ok (.invokevirtual 183, 3) := by decide +kernel
theorem d_Hb_kindsTold_29 : decode c_Hb_kindsTold 29 = .ok (.aload_n 0, 1) := by decide +kernel
theorem d_Hb_kindsTold_30 : decode c_Hb_kindsTold 30 = .ok (.getfield 58, 3) := by decide +kernel
theorem d_Hb_kindsTold_33 : decode c_Hb_kindsTold 33 = .ok (.aload_n 0, 1) := by decide +kernel
theorem d_Hb_kindsTold_34 : decode c_Hb_kindsTold 34 = .ok (.getfield 31, 3) := by decide +kernel
theorem d_Hb_kindsTold_37 : decode c_Hb_kindsTold 37 = .ok (.iload 5, 2) := by decide +kernel
theorem d_Hb_kindsTold_39 : decode c_Hb_kindsTold 39 = .ok (.aaload, 1) := by decide +kernel
theorem d_Hb_kindsTold_40 : decode c_Hb_kindsTold 40 = .ok (.putfield 111, 3) := by decide +kernel
theorem d_Hb_kindsTold_43 : decode c_Hb_kindsTold 43 = .ok (.aload_n 0, 1) := by decide +kernel
theorem d_Hb_kindsTold_44 : decode c_Hb_kindsTold 44 = .ok (.aload_n 0, 1) := by decide +kernel
theorem d_Hb_kindsTold_45 : decode c_Hb_kindsTold 45 = .ok (.getfield 58, 3) := by decide +kernel
theorem d_Hb_kindsTold_48 : decode c_Hb_kindsTold 48 = .ok (.aload_n 1, 1) := by decide +kernel
theorem d_Hb_kindsTold_49 : decode c_Hb_kindsTold 49 = .ok (.iload_n 3, 1) := by decide +kernel
theorem d_Hb_kindsTold_50 : decode c_Hb_kindsTold 50 = .ok (.invokevirtual 210, 3) := by decide +kernel
theorem d_Hb_kindsTold_53 : decode c_Hb_kindsTold 53 = .ok (.ifCond .eq 12, 3) := by decide +kernel
theorem d_Hb_kindsTold_56 : decode c_Hb_kindsTold 56 = .ok (.iload 4, 2) := by decide +kernel
theorem d_Hb_kindsTold_58 : decode c_Hb_kindsTold 58 = .ok (.iconst 1, 1) := by decide +kernel
theorem d_Hb_kindsTold_59 : decode c_Hb_kindsTold 59 = .ok (.iload 5, 2) := by decide +kernel
theorem d_Hb_kindsTold_61 : decode c_Hb_kindsTold 61 = .ok (.ishl, 1) := by decide +kernel
theorem d_Hb_kindsTold_62 : decode c_Hb_kindsTold 62 = .ok (.ior, 1) := by decide +kernel
theorem d_Hb_kindsTold_63 : decode c_Hb_kindsTold 63 = .ok (.istore 4, 2) := by decide +kernel
theorem d_Hb_kindsTold_65 : decode c_Hb_kindsTold 65 = .ok (.iinc 5 1, 3) := by decide +kernel
theorem d_Hb_kindsTold_68 : decode c_Hb_kindsTold 68 = .ok (.goto (-62), 3) := by decide +kernel
theorem d_Hb_kindsTold_71 : decode c_Hb_kindsTold 71 = .ok (.iload 4, 2) := by decide +kernel
theorem d_Hb_kindsTold_73 : decode c_Hb_kindsTold 73 = .ok (.ireturn, 1) := by decide +kernel
theorem d_Hb_figuresTold_0 : decode c_Hb_figuresTold 0 = .ok (.iconst 0, 1) := by decide +kernel
theorem d_Hb_figuresTold_1 : decode c_Hb_figuresTold 1 = .ok (.istore 4, 2) := by decide +kernel
theorem d_Hb_figuresTold_3 : decode c_Hb_figuresTold 3 = .ok (.iconst 0, 1) := by decide +kernel
theorem d_Hb_figuresTold_4 : decode c_Hb_figuresTold 4 = .ok (.istore 5, 2) := by decide +kernel
theorem d_Hb_figuresTold_6 : decode c_Hb_figuresTold 6 = .ok (.iload 5, 2) := by decide +kernel
theorem d_Hb_figuresTold_8 : decode c_Hb_figuresTold 8 = .ok (.bipush 10, 2) := by decide +kernel
theorem d_Hb_figuresTold_10 : decode c_Hb_figuresTold 10 = .ok (.if_icmp .ge 56, 3) := by decide +kernel
theorem d_Hb_figuresTold_13 : decode c_Hb_figuresTold 13 = .ok (.aload_n 0, 1) := by decide +kernel
theorem d_Hb_figuresTold_14 : decode c_Hb_figuresTold 14 = .ok (.getfield 58, 3) := by decide +kernel
theorem d_Hb_figuresTold_17 : decode c_Hb_figuresTold 17 = .ok (.aload_n 0, 1) := by decide +kernel
theorem d_Hb_figuresTold_18 : decode c_Hb_figuresTold 18 = .ok (.getfield 42, 3) := by decide +kernel
theorem d_Hb_figuresTold_21 : decode c_Hb_figuresTold 21 = .ok (.getfield 107, 3) := by decide +kernel
theorem d_Hb_figuresTold_24 : decode c_Hb_figuresTold 24 = .ok (.iload_n 2, 1) := by decide +kernel
theorem d_Hb_figuresTold_25 : decode c_Hb_figuresTold 25 = .ok (.aaload, 1) := by decide +kernel
theorem d_Hb_figuresTold_26 : decode c_Hb_figuresTold 26 = .ok (.invokevirtual 183, 3) := by decide +kernel
theorem d_Hb_figuresTold_29 : decode c_Hb_figuresTold 29 = .ok (.aload_n 0, 1) := by decide +kernel
theorem d_Hb_figuresTold_30 : decode c_Hb_figuresTold 30 = .ok (.getfield 58, 3) := by decide +kernel
theorem d_Hb_figuresTold_33 : decode c_Hb_figuresTold 33 = .ok (.iload 5, 2) := by decide +kernel
theorem d_Hb_figuresTold_35 : decode c_Hb_figuresTold 35 = .ok (.putfield 119, 3) := by decide +kernel
theorem d_Hb_figuresTold_38 : decode c_Hb_figuresTold 38 = .ok (.aload_n 0, 1) := by decide +kernel
theorem d_Hb_figuresTold_39 : decode c_Hb_figuresTold 39 = .ok (.aload_n 0, 1) := by decide +kernel
theorem d_Hb_figuresTold_40 : decode c_Hb_figuresTold 40 = .ok (.getfield 58, 3) := by decide +kernel
theorem d_Hb_figuresTold_43 : decode c_Hb_figuresTold 43 = .ok (.aload_n 1, 1) := by decide +kernel
theorem d_Hb_figuresTold_44 : decode c_Hb_figuresTold 44 = .ok (.iload_n 3, 1) := by decide +kernel
theorem d_Hb_figuresTold_45 : decode c_Hb_figuresTold 45 = .ok (.invokevirtual 210, 3) := by decide +kernel
theorem d_Hb_figuresTold_48 : decode c_Hb_figuresTold 48 = .ok (.ifCond .eq 12, 3) := by decide +kernel
theorem d_Hb_figuresTold_51 : decode c_Hb_figuresTold 51 = .ok (.iload 4, 2) := by decide +kernel
theorem d_Hb_figuresTold_53 : decode c_Hb_figuresTold 53 = .ok (.iconst 1, 1) := by decide +kernel
theorem d_Hb_figuresTold_54 : decode c_Hb_figuresTold 54 = .ok (.iload 5, 2) := by decide +kernel
theorem d_Hb_figuresTold_56 : decode c_Hb_figuresTold 56 = .ok (.ishl, 1) := by decide +kernel
theorem d_Hb_figuresTold_57 : decode c_Hb_figuresTold 57 = .ok (.ior, 1) := by decide +kernel
theorem d_Hb_figuresTold_58 : decode c_Hb_figuresTold 58 = .ok (.istore 4, 2) := by decide +kernel
theorem d_Hb_figuresTold_60 : decode c_Hb_figuresTold 60 = .ok (.iinc 5 1, 3) := by decide +kernel
theorem d_Hb_figuresTold_63 : decode c_Hb_figuresTold 63 = .ok (.goto (-57), 3) := by decide +kernel
theorem d_Hb_figuresTold_66 : decode c_Hb_figuresTold 66 = .ok (.iload 4, 2) := by decide +kernel
theorem d_Hb_figuresTold_68 : decode c_Hb_figuresTold 68 = .ok (.ireturn, 1) := by decide +kernel
theorem d_Hb_isBest_0 : decode c_Hb_isBest 0 = .ok (.iconst 1, 1) := by decide +kernel
theorem d_Hb_isBest_1 : decode c_Hb_isBest 1 = .ok (.iload_n 2, 1) := by decide +kernel
theorem d_Hb_isBest_2 : decode c_Hb_isBest 2 = .ok (.isub, 1) := by decide +kernel
theorem d_Hb_isBest_3 : decode c_Hb_isBest 3 = .ok (.istore 6, 2) := by decide +kernel
theorem d_Hb_isBest_5 : decode c_Hb_isBest 5 = .ok (.aload_n 0, 1) := by decide +kernel
theorem d_Hb_isBest_6 : decode c_Hb_isBest 6 = .ok (.aload_n 0, 1) := by decide +kernel
theorem d_Hb_isBest_7 : decode c_Hb_isBest 7 = .ok (.getfield 42, 3) := by decide +kernel
theorem d_Hb_isBest_10 : decode c_Hb_isBest 10 = .ok (.getfield 107, 3) := by decide +kernel
theorem d_Hb_isBest_13 : decode c_Hb_isBest 13 = .ok (.iload_n 3, 1) := by decide +kernel
theorem d_Hb_isBest_14 : decode c_Hb_isBest 14 = .ok (.aaload, 1) := by decide +kernel
theorem d_Hb_isBest_15 : decode c_Hb_isBest 15 = .ok (.iload 4, 2) := by decide +kernel
theorem d_Hb_isBest_17 : decode c_Hb_isBest 17 = .ok (.iconst 5, 1) := by decide +kernel
theorem d_Hb_isBest_18 : decode c_Hb_isBest 18 = .ok (.imul, 1) := by decide +kernel
theorem d_Hb_isBest_19 : decode c_Hb_isBest 19 = .ok (.iload 5, 2) := by decide +kernel
theorem d_Hb_isBest_21 : decode c_Hb_isBest 21 = .ok (.invokevirtual 198, 3) := by decide +kernel
theorem d_Hb_isBest_24 : decode c_Hb_isBest 24 = .ok (.istore 7, 2) := by decide +kernel
theorem d_Hb_isBest_26 : decode c_Hb_isBest 26 = .ok (.aload_n 0, 1) := by decide +kernel
theorem d_Hb_isBest_27 : decode c_Hb_isBest 27 = .ok (.aload_n 0, 1) := by decide +kernel
theorem d_Hb_isBest_28 : decode c_Hb_isBest 28 = .ok (.getfield 42, 3) := by decide +kernel
theorem d_Hb_isBest_31 : decode c_Hb_isBest 31 = .ok (.getfield 107, 3) := by decide +kernel
theorem d_Hb_isBest_34 : decode c_Hb_isBest 34 = .ok (.iload_n 1, 1) := by decide +kernel
theorem d_Hb_isBest_35 : decode c_Hb_isBest 35 = .ok (.aaload, 1) := by decide +kernel
theorem d_Hb_isBest_36 : decode c_Hb_isBest 36 = .ok (.iload_n 2, 1) := by decide +kernel
theorem d_Hb_isBest_37 : decode c_Hb_isBest 37 = .ok (.iconst 5, 1) := by decide +kernel
theorem d_Hb_isBest_38 : decode c_Hb_isBest 38 = .ok (.imul, 1) := by decide +kernel
theorem d_Hb_isBest_39 : decode c_Hb_isBest 39 = .ok (.iload 5, 2) := by decide +kernel
theorem d_Hb_isBest_41 : decode c_Hb_isBest 41 = .ok (.invokevirtual 198, 3) := by decide +kernel
theorem d_Hb_isBest_44 : decode c_Hb_isBest 44 = .ok (.istore 8, 2) := by decide +kernel
theorem d_Hb_isBest_46 : decode c_Hb_isBest 46 = .ok (.aload_n 0, 1) := by decide +kernel
theorem d_Hb_isBest_47 : decode c_Hb_isBest 47 = .ok (.aload_n 0, 1) := by decide +kernel
theorem d_Hb_isBest_48 : decode c_Hb_isBest 48 = .ok (.getfield 42, 3) := by decide +kernel
theorem d_Hb_isBest_51 : decode c_Hb_isBest 51 = .ok (.getfield 107, 3) := by decide +kernel
theorem d_Hb_isBest_54 : decode c_Hb_isBest 54 = .ok (.iload_n 1, 1) := by decide +kernel
theorem d_Hb_isBest_55 : decode c_Hb_isBest 55 = .ok (.aaload, 1) := by decide +kernel
theorem d_Hb_isBest_56 : decode c_Hb_isBest 56 = .ok (.iload 6, 2) := by decide +kernel
theorem d_Hb_isBest_58 : decode c_Hb_isBest 58 = .ok (.iconst 5, 1) := by decide +kernel
theorem d_Hb_isBest_59 : decode c_Hb_isBest 59 = .ok (.imul, 1) := by decide +kernel
theorem d_Hb_isBest_60 : decode c_Hb_isBest 60 = .ok (.iload 5, 2) := by decide +kernel
theorem d_Hb_isBest_62 : decode c_Hb_isBest 62 = .ok (.invokevirtual 198, 3) := by decide +kernel
theorem d_Hb_isBest_65 : decode c_Hb_isBest 65 = .ok (.istore 9, 2) := by decide +kernel
theorem d_Hb_isBest_67 : decode c_Hb_isBest 67 = .ok (.iload 8, 2) := by decide +kernel
theorem d_Hb_isBest_69 : decode c_Hb_isBest 69 = .ok (.iload 7, 2) := by decide +kernel
theorem d_Hb_isBest_71 : decode c_Hb_isBest 71 = .ok (.iload_n 2, 1) := by decide +kernel
theorem d_Hb_isBest_72 : decode c_Hb_isBest 72 = .ok (.invokestatic 314, 3) := by decide +kernel
theorem d_Hb_isBest_75 : decode c_Hb_isBest 75 = .ok (.iload 9, 2) := by decide +kernel
theorem d_Hb_isBest_77 : decode c_Hb_isBest 77 = .ok (.iload 7, 2) := by decide +kernel
theorem d_Hb_isBest_79 : decode c_Hb_isBest 79 = .ok (.iload 6, 2) := by decide +kernel
theorem d_Hb_isBest_81 : decode c_Hb_isBest 81 = .ok (.invokestatic 314, 3) := by decide +kernel
theorem d_Hb_isBest_84 : decode c_Hb_isBest 84 = .ok (.if_icmp .lt 7, 3) := by decide +kernel
theorem d_Hb_isBest_87 : decode c_Hb_isBest 87 = .ok (.iconst 1, 1) := by decide +kernel
theorem d_Hb_isBest_88 : decode c_Hb_isBest 88 = .ok (.goto 4, 3) := by decide +kernel
theorem d_Hb_isBest_91 : decode c_Hb_isBest 91 = .ok (.iconst 0, 1) := by decide +kernel
theorem d_Hb_isBest_92 : decode c_Hb_isBest 92 = .ok (.ireturn, 1) := by decide +kernel
theorem d_Hb_gain_0 : decode c_Hb_gain 0 = .ok (.iload_n 0, 1) := by decide +kernel
theorem d_Hb_gain_1 : decode c_Hb_gain 1 = .ok (.iload_n 1, 1) := by decide +kernel
theorem d_Hb_gain_2 : decode c_Hb_gain 2 = .ok (.if_icmp .ge 7, 3) := by decide +kernel
theorem d_Hb_gain_5 : decode c_Hb_gain 5 = .ok (.iconst 3, 1) := by decide +kernel
theorem d_Hb_gain_6 : decode c_Hb_gain 6 = .ok (.goto 4, 3) := by decide +kernel
theorem d_Hb_gain_9 : decode c_Hb_gain 9 = .ok (.iconst 0, 1) := by decide +kernel
theorem d_Hb_gain_10 : decode c_Hb_gain 10 = .ok (.iload_n 2, 1) := by decide +kernel
theorem d_Hb_gain_11 : decode c_Hb_gain 11 = .ok (.iadd, 1) := by decide +kernel
theorem d_Hb_gain_12 : decode c_Hb_gain 12 = .ok (.ireturn, 1) := by decide +kernel
theorem d_Hb_partOf_0 : decode c_Hb_partOf 0 = .ok (.lload_n 2, 1) := by decide +kernel
theorem d_Hb_partOf_1 : decode c_Hb_partOf 1 = .ok (.lstore 5, 2) := by decide +kernel
theorem d_Hb_partOf_3 : decode c_Hb_partOf 3 = .ok (.lload_n 0, 1) := by decide +kernel
theorem d_Hb_partOf_4 : decode c_Hb_partOf 4 = .ok (.lstore 7, 2) := by decide +kernel
theorem d_Hb_partOf_6 : decode c_Hb_partOf 6 = .ok (.iconst 0, 1) := by decide +kernel
theorem d_Hb_partOf_7 : decode c_Hb_partOf 7 = .ok (.istore 9, 2) := by decide +kernel
theorem d_Hb_partOf_9 : decode c_Hb_partOf 9 = .ok (.iload 9, 2) := by decide +kernel
theorem d_Hb_partOf_11 : decode c_Hb_partOf 11 = .ok (.sipush 130, 3) := by decide +kernel
theorem d_Hb_partOf_14 : decode c_Hb_partOf 14 = .ok (.if_icmp .ge 31, 3) := by decide +kernel
theorem d_Hb_partOf_17 : decode c_Hb_partOf 17 = .ok (.lload 7, 2) := by decide +kernel
theorem d_Hb_partOf_19 : decode c_Hb_partOf 19 = .ok (.lconst 0, 1) := by decide +kernel
theorem d_Hb_partOf_20 : decode c_Hb_partOf 20 = .ok (.lcmp, 1) := by decide +kernel
theorem d_Hb_partOf_21 : decode c_Hb_partOf 21 = .ok (.ifCond .eq 24, 3) := by decide +kernel
theorem d_Hb_partOf_24 : decode c_Hb_partOf 24 = .ok (.lload 5, 2) := by decide +kernel
theorem d_Hb_partOf_26 : decode c_Hb_partOf 26 = .ok (.lload 7, 2) := by decide +kernel
theorem d_Hb_partOf_28 : decode c_Hb_partOf 28 = .ok (.lrem, 1) := by decide +kernel
theorem d_Hb_partOf_29 : decode c_Hb_partOf 29 = .ok (.lstore 10, 2) := by decide +kernel
theorem d_Hb_partOf_31 : decode c_Hb_partOf 31 = .ok (.lload 7, 2) := by decide +kernel
theorem d_Hb_partOf_33 : decode c_Hb_partOf 33 = .ok (.lstore 5, 2) := by decide +kernel
theorem d_Hb_partOf_35 : decode c_Hb_partOf 35 = .ok (.lload 10, 2) := by decide +kernel
theorem d_Hb_partOf_37 : decode c_Hb_partOf 37 = .ok (.lstore 7, 2) := by decide +kernel
theorem d_Hb_partOf_39 : decode c_Hb_partOf 39 = .ok (.iinc 9 1, 3) := by decide +kernel
theorem d_Hb_partOf_42 : decode c_Hb_partOf 42 = .ok (.goto (-33), 3) := by decide +kernel
theorem d_Hb_partOf_45 : decode c_Hb_partOf 45 = .ok (.lload 5, 2) := by decide +kernel
theorem d_Hb_partOf_47 : decode c_Hb_partOf 47 = .ok (.lconst 0, 1) := by decide +kernel
theorem d_Hb_partOf_48 : decode c_Hb_partOf 48 = .ok (.lcmp, 1) := by decide +kernel
theorem d_Hb_partOf_49 : decode c_Hb_partOf 49 = .ok (.ifCond .ne 5, 3) := by decide +kernel
theorem d_Hb_partOf_52 : decode c_Hb_partOf 52 = .ok (.lconst 0, 1) := by decide +kernel
theorem d_Hb_partOf_53 : decode c_Hb_partOf 53 = .ok (.lreturn, 1) := by decide +kernel
theorem d_Hb_partOf_54 : decode c_Hb_partOf 54 = .ok (.iload 4, 2) := by decide +kernel
theorem d_Hb_partOf_56 : decode c_Hb_partOf 56 = .ok (.ifCond .ne 10, 3) := by decide +kernel
theorem d_Hb_partOf_59 : decode c_Hb_partOf 59 = .ok (.lload_n 0, 1) := by decide +kernel
theorem d_Hb_partOf_60 : decode c_Hb_partOf 60 = .ok (.lload 5, 2) := by decide +kernel
theorem d_Hb_partOf_62 : decode c_Hb_partOf 62 = .ok (.ldiv, 1) := by decide +kernel
theorem d_Hb_partOf_63 : decode c_Hb_partOf 63 = .ok (.goto 7, 3) := by decide +kernel
theorem d_Hb_partOf_66 : decode c_Hb_partOf 66 = .ok (.lload_n 2, 1) := by decide +kernel
theorem d_Hb_partOf_67 : decode c_Hb_partOf 67 = .ok (.lload 5, 2) := by decide +kernel
theorem d_Hb_partOf_69 : decode c_Hb_partOf 69 = .ok (.ldiv, 1) := by decide +kernel
theorem d_Hb_partOf_70 : decode c_Hb_partOf 70 = .ok (.lreturn, 1) := by decide +kernel
theorem d_In_compare_0 : decode c_In_compare 0 = .ok (.iload_n 0, 1) := by decide +kernel
theorem d_In_compare_1 : decode c_In_compare 1 = .ok (.iload_n 1, 1) := by decide +kernel
theorem d_In_compare_2 : decode c_In_compare 2 = .ok (.if_icmp .ge 7, 3) := by decide +kernel
theorem d_In_compare_5 : decode c_In_compare 5 = .ok (.iconst (-1), 1) := by decide +kernel
theorem d_In_compare_6 : decode c_In_compare 6 = .ok (.goto 13, 3) := by decide +kernel
theorem d_In_compare_9 : decode c_In_compare 9 = .ok (.iload_n 0, 1) := by decide +kernel
theorem d_In_compare_10 : decode c_In_compare 10 = .ok (.iload_n 1, 1) := by decide +kernel
theorem d_In_compare_11 : decode c_In_compare 11 = .ok (.if_icmp .ne 7, 3) := by decide +kernel
theorem d_In_compare_14 : decode c_In_compare 14 = .ok (.iconst 0, 1) := by decide +kernel
theorem d_In_compare_15 : decode c_In_compare 15 = .ok (.goto 4, 3) := by decide +kernel
theorem d_In_compare_18 : decode c_In_compare 18 = .ok (.iconst 1, 1) := by decide +kernel
theorem d_In_compare_19 : decode c_In_compare 19 = .ok (.ireturn, 1) := by decide +kernel
theorem d_In_bitCount_0 : decode c_In_bitCount 0 = .ok (.iload_n 0, 1) := by decide +kernel
theorem d_In_bitCount_1 : decode c_In_bitCount 1 = .ok (.iload_n 0, 1) := by decide +kernel
theorem d_In_bitCount_2 : decode c_In_bitCount 2 = .ok (.iconst 1, 1) := by decide +kernel
theorem d_In_bitCount_3 : decode c_In_bitCount 3 = .ok (.iushr, 1) := by decide +kernel
theorem d_In_bitCount_4 : decode c_In_bitCount 4 = .ok (.ldc_w 265, 3) := by decide +kernel
theorem d_In_bitCount_7 : decode c_In_bitCount 7 = .ok (.iand, 1) := by decide +kernel
theorem d_In_bitCount_8 : decode c_In_bitCount 8 = .ok (.isub, 1) := by decide +kernel
theorem d_In_bitCount_9 : decode c_In_bitCount 9 = .ok (.istore_n 0, 1) := by decide +kernel
theorem d_In_bitCount_10 : decode c_In_bitCount 10 = .ok (.iload_n 0, 1) := by decide +kernel
theorem d_In_bitCount_11 : decode c_In_bitCount 11 = .ok (.ldc_w 266, 3) := by decide +kernel
theorem d_In_bitCount_14 : decode c_In_bitCount 14 = .ok (.iand, 1) := by decide +kernel
theorem d_In_bitCount_15 : decode c_In_bitCount 15 = .ok (.iload_n 0, 1) := by decide +kernel
theorem d_In_bitCount_16 : decode c_In_bitCount 16 = .ok (.iconst 2, 1) := by decide +kernel
theorem d_In_bitCount_17 : decode c_In_bitCount 17 = .ok (.iushr, 1) := by decide +kernel
theorem d_In_bitCount_18 : decode c_In_bitCount 18 = .ok (.ldc_w 266, 3) := by decide +kernel
theorem d_In_bitCount_21 : decode c_In_bitCount 21 = .ok (.iand, 1) := by decide +kernel
theorem d_In_bitCount_22 : decode c_In_bitCount 22 = .ok (.iadd, 1) := by decide +kernel
theorem d_In_bitCount_23 : decode c_In_bitCount 23 = .ok (.istore_n 0, 1) := by decide +kernel
theorem d_In_bitCount_24 : decode c_In_bitCount 24 = .ok (.iload_n 0, 1) := by decide +kernel
theorem d_In_bitCount_25 : decode c_In_bitCount 25 = .ok (.iload_n 0, 1) := by decide +kernel
theorem d_In_bitCount_26 : decode c_In_bitCount 26 = .ok (.iconst 4, 1) := by decide +kernel
theorem d_In_bitCount_27 : decode c_In_bitCount 27 = .ok (.iushr, 1) := by decide +kernel
theorem d_In_bitCount_28 : decode c_In_bitCount 28 = .ok (.iadd, 1) := by decide +kernel
theorem d_In_bitCount_29 : decode c_In_bitCount 29 = .ok (.ldc_w 267, 3) := by decide +kernel
theorem d_In_bitCount_32 : decode c_In_bitCount 32 = .ok (.iand, 1) := by decide +kernel
theorem d_In_bitCount_33 : decode c_In_bitCount 33 = .ok (.istore_n 0, 1) := by decide +kernel
theorem d_In_bitCount_34 : decode c_In_bitCount 34 = .ok (.iload_n 0, 1) := by decide +kernel
theorem d_In_bitCount_35 : decode c_In_bitCount 35 = .ok (.iload_n 0, 1) := by decide +kernel
theorem d_In_bitCount_36 : decode c_In_bitCount 36 = .ok (.bipush 8, 2) := by decide +kernel
theorem d_In_bitCount_38 : decode c_In_bitCount 38 = .ok (.iushr, 1) := by decide +kernel
theorem d_In_bitCount_39 : decode c_In_bitCount 39 = .ok (.iadd, 1) := by decide +kernel
theorem d_In_bitCount_40 : decode c_In_bitCount 40 = .ok (.istore_n 0, 1) := by decide +kernel
theorem d_In_bitCount_41 : decode c_In_bitCount 41 = .ok (.iload_n 0, 1) := by decide +kernel
theorem d_In_bitCount_42 : decode c_In_bitCount 42 = .ok (.iload_n 0, 1) := by decide +kernel
theorem d_In_bitCount_43 : decode c_In_bitCount 43 = .ok (.bipush 16, 2) := by decide +kernel
theorem d_In_bitCount_45 : decode c_In_bitCount 45 = .ok (.iushr, 1) := by decide +kernel
theorem d_In_bitCount_46 : decode c_In_bitCount 46 = .ok (.iadd, 1) := by decide +kernel
theorem d_In_bitCount_47 : decode c_In_bitCount 47 = .ok (.istore_n 0, 1) := by decide +kernel
theorem d_In_bitCount_48 : decode c_In_bitCount 48 = .ok (.iload_n 0, 1) := by decide +kernel
theorem d_In_bitCount_49 : decode c_In_bitCount 49 = .ok (.bipush 63, 2) := by decide +kernel
theorem d_In_bitCount_51 : decode c_In_bitCount 51 = .ok (.iand, 1) := by decide +kernel
theorem d_In_bitCount_52 : decode c_In_bitCount 52 = .ok (.ireturn, 1) := by decide +kernel
