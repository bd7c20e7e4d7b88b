theorem dX4_init_0 : decode cX4_init 0 = .ok (.aload_n 0, 1) := by decide +kernel
theorem dX4_init_1 : decode cX4_init 1 = .ok (.invokespecial 3, 3) := by decide +kernel
theorem dX4_init_4 : decode cX4_init 4 = .ok (.aload_n 0, 1) := by decide +kernel
theorem dX4_init_5 : decode cX4_init 5 = .ok (.bipush 6, 2) := by decide +kernel
theorem dX4_init_7 : decode cX4_init 7 = .ok (.newarray .int, 2) := by decide +kernel
theorem dX4_init_9 : decode cX4_init 9 = .ok (.putfield 9, 3) := by decide +kernel
theorem dX4_init_12 : decode cX4_init 12 = .ok (.aload_n 0, 1) := by decide +kernel
theorem dX4_init_13 : decode cX4_init 13 = .ok (.iconst 5, 1) := by decide +kernel
theorem dX4_init_14 : decode cX4_init 14 = .ok (.newarray .int, 2) := by decide +kernel
theorem dX4_init_16 : decode cX4_init 16 = .ok (.putfield 15, 3) := by decide +kernel
theorem dX4_init_19 : decode cX4_init 19 = .ok (.aload_n 0, 1) := by decide +kernel
theorem dX4_init_20 : decode cX4_init 20 = .ok (.bipush 6, 2) := by decide +kernel
theorem dX4_init_22 : decode cX4_init 22 = .ok (.anewarray 18, 3) := by decide +kernel
theorem dX4_init_25 : decode cX4_init 25 = .ok (.putfield 20, 3) := by decide +kernel
theorem dX4_init_28 : decode cX4_init 28 = .ok (.aload_n 0, 1) := by decide +kernel
theorem dX4_init_29 : decode cX4_init 29 = .ok (.iconst 4, 1) := by decide +kernel
theorem dX4_init_30 : decode cX4_init 30 = .ok (.newarray .int, 2) := by decide +kernel
theorem dX4_init_32 : decode cX4_init 32 = .ok (.putfield 24, 3) := by decide +kernel
theorem dX4_init_35 : decode cX4_init 35 = .ok (.aload_n 0, 1) := by decide +kernel
theorem dX4_init_36 : decode cX4_init 36 = .ok (.iconst 0, 1) := by decide +kernel
theorem dX4_init_37 : decode cX4_init 37 = .ok (.putfield 27, 3) := by decide +kernel
theorem dX4_init_40 : decode cX4_init 40 = .ok (.aload_n 0, 1) := by decide +kernel
theorem dX4_init_41 : decode cX4_init 41 = .ok (.iconst 0, 1) := by decide +kernel
theorem dX4_init_42 : decode cX4_init 42 = .ok (.putfield 31, 3) := by decide +kernel
theorem dX4_init_45 : decode cX4_init 45 = .ok (.aload_n 0, 1) := by decide +kernel
theorem dX4_init_46 : decode cX4_init 46 = .ok (.iconst 0, 1) := by decide +kernel
theorem dX4_init_47 : decode cX4_init 47 = .ok (.putfield 34, 3) := by decide +kernel
theorem dX4_init_50 : decode cX4_init 50 = .ok (.aload_n 0, 1) := by decide +kernel
theorem dX4_init_51 : decode cX4_init 51 = .ok (.iconst 0, 1) := by decide +kernel
theorem dX4_init_52 : decode cX4_init 52 = .ok (.putfield 37, 3) := by decide +kernel
theorem dX4_init_55 : decode cX4_init 55 = .ok (.aload_n 0, 1) := by decide +kernel
theorem dX4_init_56 : decode cX4_init 56 = .ok (.iconst (-1), 1) := by decide +kernel
theorem dX4_init_57 : decode cX4_init 57 = .ok (.putfield 40, 3) := by decide +kernel
theorem dX4_init_60 : decode cX4_init 60 = .ok (.aload_n 0, 1) := by decide +kernel
theorem dX4_init_61 : decode cX4_init 61 = .ok (.getfield 24, 3) := by decide +kernel
theorem dX4_init_64 : decode cX4_init 64 = .ok (.iconst 2, 1) := by decide +kernel
theorem dX4_init_65 : decode cX4_init 65 = .ok (.iconst 1, 1) := by decide +kernel
theorem dX4_init_66 : decode cX4_init 66 = .ok (.iastore, 1) := by decide +kernel
theorem dX4_init_67 : decode cX4_init 67 = .ok (.return_, 1) := by decide +kernel
theorem dX4_becomes_0 : decode cX4_becomes 0 = .ok (.aload_n 1, 1) := by decide +kernel
theorem dX4_becomes_1 : decode cX4_becomes 1 = .ok (.getfield 9, 3) := by decide +kernel
theorem dX4_becomes_4 : decode cX4_becomes 4 = .ok (.iconst 0, 1) := by decide +kernel
theorem dX4_becomes_5 : decode cX4_becomes 5 = .ok (.aload_n 0, 1) := by decide +kernel
theorem dX4_becomes_6 : decode cX4_becomes 6 = .ok (.getfield 9, 3) := by decide +kernel
theorem dX4_becomes_9 : decode cX4_becomes 9 = .ok (.iconst 0, 1) := by decide +kernel
theorem dX4_becomes_10 : decode cX4_becomes 10 = .ok (.bipush 6, 2) := by decide +kernel
theorem dX4_becomes_12 : decode cX4_becomes 12 = .ok (.invokestatic 43, 3) := by decide +kernel
theorem dX4_becomes_15 : decode cX4_becomes 15 = .ok (.aload_n 1, 1) := by decide +kernel
theorem dX4_becomes_16 : decode cX4_becomes 16 = .ok (.getfield 15, 3) := by decide +kernel
theorem dX4_becomes_19 : decode cX4_becomes 19 = .ok (.iconst 0, 1) := by decide +kernel
theorem dX4_becomes_20 : decode cX4_becomes 20 = .ok (.aload_n 0, 1) := by decide +kernel
theorem dX4_becomes_21 : decode cX4_becomes 21 = .ok (.getfield 15, 3) := by decide +kernel
theorem dX4_becomes_24 : decode cX4_becomes 24 = .ok (.iconst 0, 1) := by decide +kernel
theorem dX4_becomes_25 : decode cX4_becomes 25 = .ok (.iconst 5, 1) := by decide +kernel
theorem dX4_becomes_26 : decode cX4_becomes 26 = .ok (.invokestatic 43, 3) := by decide +kernel
theorem dX4_becomes_29 : decode cX4_becomes 29 = .ok (.iconst 0, 1) := by decide +kernel
theorem dX4_becomes_30 : decode cX4_becomes 30 = .ok (.istore_n 2, 1) := by decide +kernel
theorem dX4_becomes_31 : decode cX4_becomes 31 = .ok (.iload_n 2, 1) := by decide +kernel
theorem dX4_becomes_32 : decode cX4_becomes 32 = .ok (.bipush 6, 2) := by decide +kernel
theorem dX4_becomes_34 : decode cX4_becomes 34 = .ok (.if_icmp .ge 21, 3) := by decide +kernel
theorem dX4_becomes_37 : decode cX4_becomes 37 = .ok (.aload_n 0, 1) := by decide +kernel
theorem dX4_becomes_38 : decode cX4_becomes 38 = .ok (.getfield 20, 3) := by decide +kernel
theorem dX4_becomes_41 : decode cX4_becomes 41 = .ok (.iload_n 2, 1) := by decide +kernel
theorem dX4_becomes_42 : decode cX4_becomes 42 = .ok (.aload_n 1, 1) := by decide +kernel
theorem dX4_becomes_43 : decode cX4_becomes 43 = .ok (.getfield 20, 3) := by decide +kernel
theorem dX4_becomes_46 : decode cX4_becomes 46 = .ok (.iload_n 2, 1) := by decide +kernel
theorem dX4_becomes_47 : decode cX4_becomes 47 = .ok (.aaload, 1) := by decide +kernel
theorem dX4_becomes_48 : decode cX4_becomes 48 = .ok (.aastore, 1) := by decide +kernel
theorem dX4_becomes_49 : decode cX4_becomes 49 = .ok (.iinc 2 1, 3) := by decide +kernel
theorem dX4_becomes_52 : decode cX4_becomes 52 = .ok (.goto (-21), 3) := by decide +kernel
theorem dX4_becomes_55 : decode cX4_becomes 55 = .ok (.aload_n 1, 1) := by decide +kernel
theorem dX4_becomes_56 : decode cX4_becomes 56 = .ok (.getfield 24, 3) := by decide +kernel
theorem dX4_becomes_59 : decode cX4_becomes 59 = .ok (.iconst 0, 1) := by decide +kernel
theorem dX4_becomes_60 : decode cX4_becomes 60 = .ok (.aload_n 0, 1) := by decide +kernel
theorem dX4_becomes_61 : decode cX4_becomes 61 = .ok (.getfield 24, 3) := by decide +kernel
theorem dX4_becomes_64 : decode cX4_becomes 64 = .ok (.iconst 0, 1) := by decide +kernel
theorem dX4_becomes_65 : decode cX4_becomes 65 = .ok (.iconst 4, 1) := by decide +kernel
theorem dX4_becomes_66 : decode cX4_becomes 66 = .ok (.invokestatic 43, 3) := by decide +kernel
theorem dX4_becomes_69 : decode cX4_becomes 69 = .ok (.aload_n 0, 1) := by decide +kernel
theorem dX4_becomes_70 : decode cX4_becomes 70 = .ok (.aload_n 1, 1) := by decide +kernel
theorem dX4_becomes_71 : decode cX4_becomes 71 = .ok (.getfield 27, 3) := by decide +kernel
theorem dX4_becomes_74 : decode cX4_becomes 74 = .ok (.putfield 27, 3) := by decide +kernel
theorem dX4_becomes_77 : decode cX4_becomes 77 = .ok (.aload_n 0, 1) := by decide +kernel
theorem dX4_becomes_78 : decode cX4_becomes 78 = .ok (.aload_n 1, 1) := by decide +kernel
theorem dX4_becomes_79 : decode cX4_becomes 79 = .ok (.getfield 31, 3) := by decide +kernel
theorem dX4_becomes_82 : decode cX4_becomes 82 = .ok (.putfield 31, 3) := by decide +kernel
theorem dX4_becomes_85 : decode cX4_becomes 85 = .ok (.aload_n 0, 1) := by decide +kernel
theorem dX4_becomes_86 : decode cX4_becomes 86 = .ok (.aload_n 1, 1) := by decide +kernel
theorem dX4_becomes_87 : decode cX4_becomes 87 = .ok (.getfield 34, 3) := by decide +kernel
theorem dX4_becomes_90 : decode cX4_becomes 90 = .ok (.putfield 34, 3) := by decide +kernel
theorem dX4_becomes_93 : decode cX4_becomes 93 = .ok (.aload_n 0, 1) := by decide +kernel
theorem dX4_becomes_94 : decode cX4_becomes 94 = .ok (.aload_n 1, 1) := by decide +kernel
theorem dX4_becomes_95 : decode cX4_becomes 95 = .ok (.getfield 37, 3) := by decide +kernel
theorem dX4_becomes_98 : decode cX4_becomes 98 = .ok (.putfield 37, 3) := by decide +kernel
theorem dX4_becomes_101 : decode cX4_becomes 101 = .ok (.aload_n 0, 1) := by decide +kernel
theorem dX4_becomes_102 : decode cX4_becomes 102 = .ok (.aload_n 1, 1) := by decide +kernel
theorem dX4_becomes_103 : decode cX4_becomes 103 = .ok (.getfield 40, 3) := by decide +kernel
theorem dX4_becomes_106 : decode cX4_becomes 106 = .ok (.putfield 40, 3) := by decide +kernel
theorem dX4_becomes_109 : decode cX4_becomes 109 = .ok (.return_, 1) := by decide +kernel
theorem dX4_welcome_0 : decode cX4_welcome 0 = .ok (.aload_n 0, 1) := by decide +kernel
theorem dX4_welcome_1 : decode cX4_welcome 1 = .ok (.getfield 27, 3) := by decide +kernel
theorem dX4_welcome_4 : decode cX4_welcome 4 = .ok (.bipush 6, 2) := by decide +kernel
theorem dX4_welcome_6 : decode cX4_welcome 6 = .ok (.if_icmp .ge 38, 3) := by decide +kernel
theorem dX4_welcome_9 : decode cX4_welcome 9 = .ok (.aload_n 0, 1) := by decide +kernel
theorem dX4_welcome_10 : decode cX4_welcome 10 = .ok (.getfield 9, 3) := by decide +kernel
theorem dX4_welcome_13 : decode cX4_welcome 13 = .ok (.aload_n 0, 1) := by decide +kernel
theorem dX4_welcome_14 : decode cX4_welcome 14 = .ok (.getfield 27, 3) := by decide +kernel
theorem dX4_welcome_17 : decode cX4_welcome 17 = .ok (.iload_n 1, 1) := by decide +kernel
theorem dX4_welcome_18 : decode cX4_welcome 18 = .ok (.iastore, 1) := by decide +kernel
theorem dX4_welcome_19 : decode cX4_welcome 19 = .ok (.aload_n 0, 1) := by decide +kernel
theorem dX4_welcome_20 : decode cX4_welcome 20 = .ok (.dup, 1) := by decide +kernel
theorem dX4_welcome_21 : decode cX4_welcome 21 = .ok (.getfield 31, 3) := by decide +kernel
theorem dX4_welcome_24 : decode cX4_welcome 24 = .ok (.iconst 1, 1) := by decide +kernel
theorem dX4_welcome_25 : decode cX4_welcome 25 = .ok (.aload_n 0, 1) := by decide +kernel
theorem dX4_welcome_26 : decode cX4_welcome 26 = .ok (.getfield 27, 3) := by decide +kernel
theorem dX4_welcome_29 : decode cX4_welcome 29 = .ok (.ishl, 1) := by decide +kernel
theorem dX4_welcome_30 : decode cX4_welcome 30 = .ok (.ior, 1) := by decide +kernel
theorem dX4_welcome_31 : decode cX4_welcome 31 = .ok (.putfield 31, 3) := by decide +kernel
theorem dX4_welcome_34 : decode cX4_welcome 34 = .ok (.aload_n 0, 1) := by decide +kernel
theorem dX4_welcome_35 : decode cX4_welcome 35 = .ok (.dup, 1) := by decide +kernel
theorem dX4_welcome_36 : decode cX4_welcome 36 = .ok (.getfield 27, 3) := by decide +kernel
theorem dX4_welcome_39 : decode cX4_welcome 39 = .ok (.iconst 1, 1) := by decide +kernel
theorem dX4_welcome_40 : decode cX4_welcome 40 = .ok (.iadd, 1) := by decide +kernel
theorem dX4_welcome_41 : decode cX4_welcome 41 = .ok (.putfield 27, 3) := by decide +kernel
theorem dX4_welcome_44 : decode cX4_welcome 44 = .ok (.return_, 1) := by decide +kernel
theorem dX4_lacksChild_0 : decode cX4_lacksChild 0 = .ok (.iload_n 1, 1) := by decide +kernel
theorem dX4_lacksChild_1 : decode cX4_lacksChild 1 = .ok (.ifCond .lt 11, 3) := by decide +kernel
theorem dX4_lacksChild_4 : decode cX4_lacksChild 4 = .ok (.iload_n 1, 1) := by decide +kernel
theorem dX4_lacksChild_5 : decode cX4_lacksChild 5 = .ok (.aload_n 0, 1) := by decide +kernel
theorem dX4_lacksChild_6 : decode cX4_lacksChild 6 = .ok (.getfield 27, 3) := by decide +kernel
theorem dX4_lacksChild_9 : decode cX4_lacksChild 9 = .ok (.if_icmp .lt 7, 3) := by decide +kernel
theorem dX4_lacksChild_12 : decode cX4_lacksChild 12 = .ok (.iconst 1, 1) := by decide +kernel
theorem dX4_lacksChild_13 : decode cX4_lacksChild 13 = .ok (.goto 4, 3) := by decide +kernel
theorem dX4_lacksChild_16 : decode cX4_lacksChild 16 = .ok (.iconst 0, 1) := by decide +kernel
theorem dX4_lacksChild_17 : decode cX4_lacksChild 17 = .ok (.ireturn, 1) := by decide +kernel
theorem dX4_lacksRhyme_0 : decode cX4_lacksRhyme 0 = .ok (.iload_n 1, 1) := by decide +kernel
theorem dX4_lacksRhyme_1 : decode cX4_lacksRhyme 1 = .ok (.ifCond .lt 11, 3) := by decide +kernel
theorem dX4_lacksRhyme_4 : decode cX4_lacksRhyme 4 = .ok (.iload_n 1, 1) := by decide +kernel
theorem dX4_lacksRhyme_5 : decode cX4_lacksRhyme 5 = .ok (.aload_n 0, 1) := by decide +kernel
theorem dX4_lacksRhyme_6 : decode cX4_lacksRhyme 6 = .ok (.getfield 34, 3) := by decide +kernel
theorem dX4_lacksRhyme_9 : decode cX4_lacksRhyme 9 = .ok (.if_icmp .lt 7, 3) := by decide +kernel
theorem dX4_lacksRhyme_12 : decode cX4_lacksRhyme 12 = .ok (.iconst 1, 1) := by decide +kernel
theorem dX4_lacksRhyme_13 : decode cX4_lacksRhyme 13 = .ok (.goto 4, 3) := by decide +kernel
theorem dX4_lacksRhyme_16 : decode cX4_lacksRhyme 16 = .ok (.iconst 0, 1) := by decide +kernel
theorem dX4_lacksRhyme_17 : decode cX4_lacksRhyme 17 = .ok (.ireturn, 1) := by decide +kernel
theorem dX4_lacksLaw_0 : decode cX4_lacksLaw 0 = .ok (.iload_n 1, 1) := by decide +kernel
theorem dX4_lacksLaw_1 : decode cX4_lacksLaw 1 = .ok (.ifCond .lt 11, 3) := by decide +kernel
theorem dX4_lacksLaw_4 : decode cX4_lacksLaw 4 = .ok (.iload_n 1, 1) := by decide +kernel
theorem dX4_lacksLaw_5 : decode cX4_lacksLaw 5 = .ok (.aload_n 0, 1) := by decide +kernel
theorem dX4_lacksLaw_6 : decode cX4_lacksLaw 6 = .ok (.getfield 37, 3) := by decide +kernel
theorem dX4_lacksLaw_9 : decode cX4_lacksLaw 9 = .ok (.if_icmp .lt 7, 3) := by decide +kernel
theorem dX4_lacksLaw_12 : decode cX4_lacksLaw 12 = .ok (.iconst 1, 1) := by decide +kernel
theorem dX4_lacksLaw_13 : decode cX4_lacksLaw 13 = .ok (.goto 4, 3) := by decide +kernel
theorem dX4_lacksLaw_16 : decode cX4_lacksLaw 16 = .ok (.iconst 0, 1) := by decide +kernel
theorem dX4_lacksLaw_17 : decode cX4_lacksLaw 17 = .ok (.ireturn, 1) := by decide +kernel
theorem dX4_lawInForce_0 : decode cX4_lawInForce 0 = .ok (.aload_n 0, 1) := by decide +kernel
theorem dX4_lawInForce_1 : decode cX4_lawInForce 1 = .ok (.getfield 40, 3) := by decide +kernel
theorem dX4_lawInForce_4 : decode cX4_lawInForce 4 = .ok (.ifCond .lt 14, 3) := by decide +kernel
theorem dX4_lawInForce_7 : decode cX4_lawInForce 7 = .ok (.aload_n 0, 1) := by decide +kernel
theorem dX4_lawInForce_8 : decode cX4_lawInForce 8 = .ok (.getfield 40, 3) := by decide +kernel
theorem dX4_lawInForce_11 : decode cX4_lawInForce 11 = .ok (.aload_n 0, 1) := by decide +kernel
theorem dX4_lawInForce_12 : decode cX4_lawInForce 12 = .ok (.getfield 37, 3) := by decide +kernel
theorem dX4_lawInForce_15 : decode cX4_lawInForce 15 = .ok (.if_icmp .lt 7, 3) := by decide +kernel
theorem dX4_lawInForce_18 : decode cX4_lawInForce 18 = .ok (.aconst_null, 1) := by decide +kernel
theorem dX4_lawInForce_19 : decode cX4_lawInForce 19 = .ok (.goto 12, 3) := by decide +kernel
theorem dX4_lawInForce_22 : decode cX4_lawInForce 22 = .ok (.aload_n 0, 1) := by decide +kernel
theorem dX4_lawInForce_23 : decode cX4_lawInForce 23 = .ok (.getfield 20, 3) := by decide +kernel
theorem dX4_lawInForce_26 : decode cX4_lawInForce 26 = .ok (.aload_n 0, 1) := by decide +kernel
theorem dX4_lawInForce_27 : decode cX4_lawInForce 27 = .ok (.getfield 40, 3) := by decide +kernel
theorem dX4_lawInForce_30 : decode cX4_lawInForce 30 = .ok (.aaload, 1) := by decide +kernel
theorem dX4_lawInForce_31 : decode cX4_lawInForce 31 = .ok (.areturn, 1) := by decide +kernel
theorem dX4_everyone_0 : decode cX4_everyone 0 = .ok (.iconst 1, 1) := by decide +kernel
theorem dX4_everyone_1 : decode cX4_everyone 1 = .ok (.aload_n 0, 1) := by decide +kernel
theorem dX4_everyone_2 : decode cX4_everyone 2 = .ok (.getfield 27, 3) := by decide +kernel
theorem dX4_everyone_5 : decode cX4_everyone 5 = .ok (.ishl, 1) := by decide +kernel
theorem dX4_everyone_6 : decode cX4_everyone 6 = .ok (.iconst 1, 1) := by decide +kernel
theorem dX4_everyone_7 : decode cX4_everyone 7 = .ok (.isub, 1) := by decide +kernel
theorem dX4_everyone_8 : decode cX4_everyone 8 = .ok (.ireturn, 1) := by decide +kernel
theorem dX4_place_0 : decode cX4_place 0 = .ok (.aload_n 0, 1) := by decide +kernel
theorem dX4_place_1 : decode cX4_place 1 = .ok (.getfield 27, 3) := by decide +kernel
theorem dX4_place_4 : decode cX4_place 4 = .ok (.ifCond .ne 7, 3) := by decide +kernel
theorem dX4_place_7 : decode cX4_place 7 = .ok (.iconst 0, 1) := by decide +kernel
theorem dX4_place_8 : decode cX4_place 8 = .ok (.goto 14, 3) := by decide +kernel
theorem dX4_place_11 : decode cX4_place 11 = .ok (.aload_n 0, 1) := by decide +kernel
theorem dX4_place_12 : decode cX4_place 12 = .ok (.getfield 24, 3) := by decide +kernel
theorem dX4_place_15 : decode cX4_place 15 = .ok (.iconst 1, 1) := by decide +kernel
theorem dX4_place_16 : decode cX4_place 16 = .ok (.iaload, 1) := by decide +kernel
theorem dX4_place_17 : decode cX4_place 17 = .ok (.aload_n 0, 1) := by decide +kernel
theorem dX4_place_18 : decode cX4_place 18 = .ok (.getfield 27, 3) := by decide +kernel
theorem dX4_place_21 : decode cX4_place 21 = .ok (.irem, 1) := by decide +kernel
theorem dX4_place_22 : decode cX4_place 22 = .ok (.ireturn, 1) := by decide +kernel
theorem dX4_state_0 : decode cX4_state 0 = .ok (.aload_n 0, 1) := by decide +kernel
theorem dX4_state_1 : decode cX4_state 1 = .ok (.getfield 31, 3) := by decide +kernel
theorem dX4_state_4 : decode cX4_state 4 = .ok (.bipush 6, 2) := by decide +kernel
theorem dX4_state_6 : decode cX4_state 6 = .ok (.imul, 1) := by decide +kernel
theorem dX4_state_7 : decode cX4_state 7 = .ok (.aload_n 0, 1) := by decide +kernel
theorem dX4_state_8 : decode cX4_state 8 = .ok (.invokevirtual 49, 3) := by decide +kernel
theorem dX4_state_11 : decode cX4_state 11 = .ok (.iadd, 1) := by decide +kernel
theorem dX4_state_12 : decode cX4_state 12 = .ok (.ireturn, 1) := by decide +kernel
theorem dX4_settle_0 : decode cX4_settle 0 = .ok (.aload_n 0, 1) := by decide +kernel
theorem dX4_settle_1 : decode cX4_settle 1 = .ok (.iload_n 1, 1) := by decide +kernel
theorem dX4_settle_2 : decode cX4_settle 2 = .ok (.bipush 6, 2) := by decide +kernel
theorem dX4_settle_4 : decode cX4_settle 4 = .ok (.idiv, 1) := by decide +kernel
theorem dX4_settle_5 : decode cX4_settle 5 = .ok (.putfield 31, 3) := by decide +kernel
theorem dX4_settle_8 : decode cX4_settle 8 = .ok (.aload_n 0, 1) := by decide +kernel
theorem dX4_settle_9 : decode cX4_settle 9 = .ok (.getfield 24, 3) := by decide +kernel
theorem dX4_settle_12 : decode cX4_settle 12 = .ok (.iconst 1, 1) := by decide +kernel
theorem dX4_settle_13 : decode cX4_settle 13 = .ok (.iload_n 1, 1) := by decide +kernel
theorem dX4_settle_14 : decode cX4_settle 14 = .ok (.bipush 6, 2) := by decide +kernel
theorem dX4_settle_16 : decode cX4_settle 16 = .ok (.irem, 1) := by decide +kernel
theorem dX4_settle_17 : decode cX4_settle 17 = .ok (.iastore, 1) := by decide +kernel
theorem dX4_settle_18 : decode cX4_settle 18 = .ok (.return_, 1) := by decide +kernel
theorem dX5_init_0 : decode cX5_init 0 = .ok (.aload_n 0, 1) := by decide +kernel
theorem dX5_init_1 : decode cX5_init 1 = .ok (.invokespecial 3, 3) := by decide +kernel
theorem dX5_init_4 : decode cX5_init 4 = .ok (.aload_n 0, 1) := by decide +kernel
theorem dX5_init_5 : decode cX5_init 5 = .ok (.bipush 12, 2) := by decide +kernel
theorem dX5_init_7 : decode cX5_init 7 = .ok (.newarray .int, 2) := by decide +kernel
theorem dX5_init_9 : decode cX5_init 9 = .ok (.putfield 11, 3) := by decide +kernel
theorem dX5_init_12 : decode cX5_init 12 = .ok (.aload_n 0, 1) := by decide +kernel
theorem dX5_init_13 : decode cX5_init 13 = .ok (.bipush 12, 2) := by decide +kernel
theorem dX5_init_15 : decode cX5_init 15 = .ok (.newarray .int, 2) := by decide +kernel
theorem dX5_init_17 : decode cX5_init 17 = .ok (.putfield 15, 3) := by decide +kernel
theorem dX5_init_20 : decode cX5_init 20 = .ok (.aload_n 0, 1) := by decide +kernel
theorem dX5_init_21 : decode cX5_init 21 = .ok (.bipush 12, 2) := by decide +kernel
theorem dX5_init_23 : decode cX5_init 23 = .ok (.newarray .int, 2) := by decide +kernel
theorem dX5_init_25 : decode cX5_init 25 = .ok (.putfield 18, 3) := by decide +kernel
theorem dX5_init_28 : decode cX5_init 28 = .ok (.aload_n 0, 1) := by decide +kernel
theorem dX5_init_29 : decode cX5_init 29 = .ok (.bipush 12, 2) := by decide +kernel
theorem dX5_init_31 : decode cX5_init 31 = .ok (.newarray .int, 2) := by decide +kernel
theorem dX5_init_33 : decode cX5_init 33 = .ok (.putfield 21, 3) := by decide +kernel
theorem dX5_init_36 : decode cX5_init 36 = .ok (.aload_n 0, 1) := by decide +kernel
theorem dX5_init_37 : decode cX5_init 37 = .ok (.iconst 0, 1) := by decide +kernel
theorem dX5_init_38 : decode cX5_init 38 = .ok (.putfield 24, 3) := by decide +kernel
theorem dX5_init_41 : decode cX5_init 41 = .ok (.aload_n 0, 1) := by decide +kernel
theorem dX5_init_42 : decode cX5_init 42 = .ok (.iconst 1, 1) := by decide +kernel
theorem dX5_init_43 : decode cX5_init 43 = .ok (.putfield 28, 3) := by decide +kernel
theorem dX5_init_46 : decode cX5_init 46 = .ok (.aload_n 0, 1) := by decide +kernel
theorem dX5_init_47 : decode cX5_init 47 = .ok (.iconst 0, 1) := by decide +kernel
theorem dX5_init_48 : decode cX5_init 48 = .ok (.putfield 31, 3) := by decide +kernel
theorem dX5_init_51 : decode cX5_init 51 = .ok (.aload_n 0, 1) := by decide +kernel
theorem dX5_init_52 : decode cX5_init 52 = .ok (.iconst 1, 1) := by decide +kernel
theorem dX5_init_53 : decode cX5_init 53 = .ok (.iload_n 1, 1) := by decide +kernel
theorem dX5_init_54 : decode cX5_init 54 = .ok (.invokestatic 34, 3) := by decide +kernel
theorem dX5_init_57 : decode cX5_init 57 = .ok (.newarray .int, 2) := by decide +kernel
theorem dX5_init_59 : decode cX5_init 59 = .ok (.putfield 40, 3) := by decide +kernel
theorem dX5_init_62 : decode cX5_init 62 = .ok (.return_, 1) := by decide +kernel
theorem dX5_clear_0 : decode cX5_clear 0 = .ok (.aload_n 0, 1) := by decide +kernel
theorem dX5_clear_1 : decode cX5_clear 1 = .ok (.iconst 0, 1) := by decide +kernel
theorem dX5_clear_2 : decode cX5_clear 2 = .ok (.putfield 24, 3) := by decide +kernel
theorem dX5_clear_5 : decode cX5_clear 5 = .ok (.aload_n 0, 1) := by decide +kernel
theorem dX5_clear_6 : decode cX5_clear 6 = .ok (.iconst 1, 1) := by decide +kernel
theorem dX5_clear_7 : decode cX5_clear 7 = .ok (.putfield 28, 3) := by decide +kernel
theorem dX5_clear_10 : decode cX5_clear 10 = .ok (.aload_n 0, 1) := by decide +kernel
theorem dX5_clear_11 : decode cX5_clear 11 = .ok (.iconst 0, 1) := by decide +kernel
theorem dX5_clear_12 : decode cX5_clear 12 = .ok (.putfield 31, 3) := by decide +kernel
theorem dX5_clear_15 : decode cX5_clear 15 = .ok (.return_, 1) := by decide +kernel
theorem dX5_trimmed_0 : decode cX5_trimmed 0 = .ok (.new 9, 3) := by decide +kernel
theorem dX5_trimmed_3 : decode cX5_trimmed 3 = .ok (.dup, 1) := by decide +kernel
theorem dX5_trimmed_4 : decode cX5_trimmed 4 = .ok (.aload_n 0, 1) := by decide +kernel
theorem dX5_trimmed_5 : decode cX5_trimmed 5 = .ok (.getfield 28, 3) := by decide +kernel
theorem dX5_trimmed_8 : decode cX5_trimmed 8 = .ok (.invokespecial 43, 3) := by decide +kernel
theorem dX5_trimmed_11 : decode cX5_trimmed 11 = .ok (.astore_n 1, 1) := by decide +kernel
theorem dX5_trimmed_12 : decode cX5_trimmed 12 = .ok (.aload_n 0, 1) := by decide +kernel
theorem dX5_trimmed_13 : decode cX5_trimmed 13 = .ok (.getfield 11, 3) := by decide +kernel
theorem dX5_trimmed_16 : decode cX5_trimmed 16 = .ok (.iconst 0, 1) := by decide +kernel
theorem dX5_trimmed_17 : decode cX5_trimmed 17 = .ok (.aload_n 1, 1) := by decide +kernel
theorem dX5_trimmed_18 : decode cX5_trimmed 18 = .ok (.getfield 11, 3) := by decide +kernel
theorem dX5_trimmed_21 : decode cX5_trimmed 21 = .ok (.iconst 0, 1) := by decide +kernel
theorem dX5_trimmed_22 : decode cX5_trimmed 22 = .ok (.bipush 12, 2) := by decide +kernel
theorem dX5_trimmed_24 : decode cX5_trimmed 24 = .ok (.invokestatic 46, 3) := by decide +kernel
theorem dX5_trimmed_27 : decode cX5_trimmed 27 = .ok (.aload_n 0, 1) := by decide +kernel
theorem dX5_trimmed_28 : decode cX5_trimmed 28 = .ok (.getfield 15, 3) := by decide +kernel
theorem dX5_trimmed_31 : decode cX5_trimmed 31 = .ok (.iconst 0, 1) := by decide +kernel
theorem dX5_trimmed_32 : decode cX5_trimmed 32 = .ok (.aload_n 1, 1) := by decide +kernel
theorem dX5_trimmed_33 : decode cX5_trimmed 33 = .ok (.getfield 15, 3) := by decide +kernel
theorem dX5_trimmed_36 : decode cX5_trimmed 36 = .ok (.iconst 0, 1) := by decide +kernel
theorem dX5_trimmed_37 : decode cX5_trimmed 37 = .ok (.bipush 12, 2) := by decide +kernel
theorem dX5_trimmed_39 : decode cX5_trimmed 39 = .ok (.invokestatic 46, 3) := by decide +kernel
theorem dX5_trimmed_42 : decode cX5_trimmed 42 = .ok (.aload_n 0, 1) := by decide +kernel
theorem dX5_trimmed_43 : decode cX5_trimmed 43 = .ok (.getfield 18, 3) := by decide +kernel
theorem dX5_trimmed_46 : decode cX5_trimmed 46 = .ok (.iconst 0, 1) := by decide +kernel
theorem dX5_trimmed_47 : decode cX5_trimmed 47 = .ok (.aload_n 1, 1) := by decide +kernel
theorem dX5_trimmed_48 : decode cX5_trimmed 48 = .ok (.getfield 18, 3) := by decide +kernel
theorem dX5_trimmed_51 : decode cX5_trimmed 51 = .ok (.iconst 0, 1) := by decide +kernel
theorem dX5_trimmed_52 : decode cX5_trimmed 52 = .ok (.bipush 12, 2) := by decide +kernel
theorem dX5_trimmed_54 : decode cX5_trimmed 54 = .ok (.invokestatic 46, 3) := by decide +kernel
theorem dX5_trimmed_57 : decode cX5_trimmed 57 = .ok (.aload_n 0, 1) := by decide +kernel
theorem dX5_trimmed_58 : decode cX5_trimmed 58 = .ok (.getfield 21, 3) := by decide +kernel
theorem dX5_trimmed_61 : decode cX5_trimmed 61 = .ok (.iconst 0, 1) := by decide +kernel
theorem dX5_trimmed_62 : decode cX5_trimmed 62 = .ok (.aload_n 1, 1) := by decide +kernel
theorem dX5_trimmed_63 : decode cX5_trimmed 63 = .ok (.getfield 21, 3) := by decide +kernel
theorem dX5_trimmed_66 : decode cX5_trimmed 66 = .ok (.iconst 0, 1) := by decide +kernel
theorem dX5_trimmed_67 : decode cX5_trimmed 67 = .ok (.bipush 12, 2) := by decide +kernel
theorem dX5_trimmed_69 : decode cX5_trimmed 69 = .ok (.invokestatic 46, 3) := by decide +kernel
theorem dX5_trimmed_72 : decode cX5_trimmed 72 = .ok (.aload_n 0, 1) := by decide +kernel
theorem dX5_trimmed_73 : decode cX5_trimmed 73 = .ok (.getfield 40, 3) := by decide +kernel
theorem dX5_trimmed_76 : decode cX5_trimmed 76 = .ok (.iconst 0, 1) := by decide +kernel
theorem dX5_trimmed_77 : decode cX5_trimmed 77 = .ok (.aload_n 1, 1) := by decide +kernel
theorem dX5_trimmed_78 : decode cX5_trimmed 78 = .ok (.getfield 40, 3) := by decide +kernel
theorem dX5_trimmed_81 : decode cX5_trimmed 81 = .ok (.iconst 0, 1) := by decide +kernel
theorem dX5_trimmed_82 : decode cX5_trimmed 82 = .ok (.aload_n 0, 1) := by decide +kernel
theorem dX5_trimmed_83 : decode cX5_trimmed 83 = .ok (.getfield 28, 3) := by decide +kernel
theorem dX5_trimmed_86 : decode cX5_trimmed 86 = .ok (.aload_n 1, 1) := by decide +kernel
theorem dX5_trimmed_87 : decode cX5_trimmed 87 = .ok (.getfield 40, 3) := by decide +kernel
theorem dX5_trimmed_90 : decode cX5_trimmed 90 = .ok (.arraylength, 1) := by decide +kernel
theorem dX5_trimmed_91 : decode cX5_trimmed 91 = .ok (.invokestatic 52, 3) := by decide +kernel
theorem dX5_trimmed_94 : decode cX5_trimmed 94 = .ok (.invokestatic 46, 3) := by decide +kernel
theorem dX5_trimmed_97 : decode cX5_trimmed 97 = .ok (.aload_n 1, 1) := by decide +kernel
theorem dX5_trimmed_98 : decode cX5_trimmed 98 = .ok (.aload_n 0, 1) := by decide +kernel
theorem dX5_trimmed_99 : decode cX5_trimmed 99 = .ok (.getfield 24, 3) := by decide +kernel
theorem dX5_trimmed_102 : decode cX5_trimmed 102 = .ok (.putfield 24, 3) := by decide +kernel
theorem dX5_trimmed_105 : decode cX5_trimmed 105 = .ok (.aload_n 1, 1) := by decide +kernel
theorem dX5_trimmed_106 : decode cX5_trimmed 106 = .ok (.aload_n 0, 1) := by decide +kernel
theorem dX5_trimmed_107 : decode cX5_trimmed 107 = .ok (.getfield 28, 3) := by decide +kernel
theorem dX5_trimmed_110 : decode cX5_trimmed 110 = .ok (.putfield 28, 3) := by decide +kernel
theorem dX5_trimmed_113 : decode cX5_trimmed 113 = .ok (.aload_n 1, 1) := by decide +kernel
theorem dX5_trimmed_114 : decode cX5_trimmed 114 = .ok (.aload_n 0, 1) := by decide +kernel
theorem dX5_trimmed_115 : decode cX5_trimmed 115 = .ok (.getfield 31, 3) := by decide +kernel
theorem dX5_trimmed_118 : decode cX5_trimmed 118 = .ok (.putfield 31, 3) := by decide +kernel
theorem dX5_trimmed_121 : decode cX5_trimmed 121 = .ok (.aload_n 1, 1) := by decide +kernel
theorem dX5_trimmed_122 : decode cX5_trimmed 122 = .ok (.areturn, 1) := by decide +kernel
theorem dX5_put_0 : decode cX5_put 0 = .ok (.aload_n 0, 1) := by decide +kernel
theorem dX5_put_1 : decode cX5_put 1 = .ok (.getfield 28, 3) := by decide +kernel
theorem dX5_put_4 : decode cX5_put 4 = .ok (.aload_n 0, 1) := by decide +kernel
theorem dX5_put_5 : decode cX5_put 5 = .ok (.getfield 40, 3) := by decide +kernel
theorem dX5_put_8 : decode cX5_put 8 = .ok (.arraylength, 1) := by decide +kernel
theorem dX5_put_9 : decode cX5_put 9 = .ok (.if_icmp .ge 23, 3) := by decide +kernel
theorem dX5_put_12 : decode cX5_put 12 = .ok (.aload_n 0, 1) := by decide +kernel
theorem dX5_put_13 : decode cX5_put 13 = .ok (.getfield 40, 3) := by decide +kernel
theorem dX5_put_16 : decode cX5_put 16 = .ok (.aload_n 0, 1) := by decide +kernel
theorem dX5_put_17 : decode cX5_put 17 = .ok (.getfield 28, 3) := by decide +kernel
theorem dX5_put_20 : decode cX5_put 20 = .ok (.iload_n 1, 1) := by decide +kernel
theorem dX5_put_21 : decode cX5_put 21 = .ok (.iastore, 1) := by decide +kernel
theorem dX5_put_22 : decode cX5_put 22 = .ok (.aload_n 0, 1) := by decide +kernel
theorem dX5_put_23 : decode cX5_put 23 = .ok (.dup, 1) := by decide +kernel
theorem dX5_put_24 : decode cX5_put 24 = .ok (.getfield 28, 3) := by decide +kernel
theorem dX5_put_27 : decode cX5_put 27 = .ok (.iconst 1, 1) := by decide +kernel
theorem dX5_put_28 : decode cX5_put 28 = .ok (.iadd, 1) := by decide +kernel
theorem dX5_put_29 : decode cX5_put 29 = .ok (.putfield 28, 3) := by decide +kernel
theorem dX5_put_32 : decode cX5_put 32 = .ok (.return_, 1) := by decide +kernel
theorem dX5_putJump_0 : decode cX5_putJump 0 = .ok (.aload_n 0, 1) := by decide +kernel
theorem dX5_putJump_1 : decode cX5_putJump 1 = .ok (.iload_n 1, 1) := by decide +kernel
theorem dX5_putJump_2 : decode cX5_putJump 2 = .ok (.invokevirtual 55, 3) := by decide +kernel
theorem dX5_putJump_5 : decode cX5_putJump 5 = .ok (.aload_n 0, 1) := by decide +kernel
theorem dX5_putJump_6 : decode cX5_putJump 6 = .ok (.iconst 0, 1) := by decide +kernel
theorem dX5_putJump_7 : decode cX5_putJump 7 = .ok (.invokevirtual 55, 3) := by decide +kernel
theorem dX5_putJump_10 : decode cX5_putJump 10 = .ok (.aload_n 0, 1) := by decide +kernel
theorem dX5_putJump_11 : decode cX5_putJump 11 = .ok (.getfield 28, 3) := by decide +kernel
theorem dX5_putJump_14 : decode cX5_putJump 14 = .ok (.iconst 1, 1) := by decide +kernel
theorem dX5_putJump_15 : decode cX5_putJump 15 = .ok (.isub, 1) := by decide +kernel
theorem dX5_putJump_16 : decode cX5_putJump 16 = .ok (.ireturn, 1) := by decide +kernel
theorem dX5_land_0 : decode cX5_land 0 = .ok (.iload_n 1, 1) := by decide +kernel
theorem dX5_land_1 : decode cX5_land 1 = .ok (.ifCond .le 22, 3) := by decide +kernel
theorem dX5_land_4 : decode cX5_land 4 = .ok (.iload_n 1, 1) := by decide +kernel
theorem dX5_land_5 : decode cX5_land 5 = .ok (.aload_n 0, 1) := by decide +kernel
theorem dX5_land_6 : decode cX5_land 6 = .ok (.getfield 40, 3) := by decide +kernel
theorem dX5_land_9 : decode cX5_land 9 = .ok (.arraylength, 1) := by decide +kernel
theorem dX5_land_10 : decode cX5_land 10 = .ok (.if_icmp .ge 13, 3) := by decide +kernel
theorem dX5_land_13 : decode cX5_land 13 = .ok (.aload_n 0, 1) := by decide +kernel
theorem dX5_land_14 : decode cX5_land 14 = .ok (.getfield 40, 3) := by decide +kernel
theorem dX5_land_17 : decode cX5_land 17 = .ok (.iload_n 1, 1) := by decide +kernel
theorem dX5_land_18 : decode cX5_land 18 = .ok (.aload_n 0, 1) := by decide +kernel
theorem dX5_land_19 : decode cX5_land 19 = .ok (.getfield 28, 3) := by decide +kernel
theorem dX5_land_22 : decode cX5_land 22 = .ok (.iastore, 1) := by decide +kernel
theorem dX5_land_23 : decode cX5_land 23 = .ok (.return_, 1) := by decide +kernel
theorem dX5_has_0 : decode cX5_has 0 = .ok (.aload_n 0, 1) := by decide +kernel
theorem dX5_has_1 : decode cX5_has 1 = .ok (.getfield 31, 3) := by decide +kernel
theorem dX5_has_4 : decode cX5_has 4 = .ok (.iload_n 1, 1) := by decide +kernel
theorem dX5_has_5 : decode cX5_has 5 = .ok (.ishr, 1) := by decide +kernel
theorem dX5_has_6 : decode cX5_has 6 = .ok (.iconst 1, 1) := by decide +kernel
theorem dX5_has_7 : decode cX5_has 7 = .ok (.iand, 1) := by decide +kernel
theorem dX5_has_8 : decode cX5_has 8 = .ok (.iconst 1, 1) := by decide +kernel
theorem dX5_has_9 : decode cX5_has 9 = .ok (.if_icmp .ne 7, 3) := by decide +kernel
theorem dX5_has_12 : decode cX5_has 12 = .ok (.iconst 1, 1) := by decide +kernel
theorem dX5_has_13 : decode cX5_has 13 = .ok (.goto 4, 3) := by decide +kernel
theorem dX5_has_16 : decode cX5_has 16 = .ok (.iconst 0, 1) := by decide +kernel
theorem dX5_has_17 : decode cX5_has 17 = .ok (.ireturn, 1) := by decide +kernel
theorem dX5_worth_0 : decode cX5_worth 0 = .ok (.iload_n 1, 1) := by decide +kernel
theorem dX5_worth_1 : decode cX5_worth 1 = .ok (.istore 4, 2) := by decide +kernel
theorem dX5_worth_3 : decode cX5_worth 3 = .ok (.iconst 0, 1) := by decide +kernel
theorem dX5_worth_4 : decode cX5_worth 4 = .ok (.istore 5, 2) := by decide +kernel
theorem dX5_worth_6 : decode cX5_worth 6 = .ok (.iconst 0, 1) := by decide +kernel
theorem dX5_worth_7 : decode cX5_worth 7 = .ok (.istore 6, 2) := by decide +kernel
theorem dX5_worth_9 : decode cX5_worth 9 = .ok (.iload 6, 2) := by decide +kernel
theorem dX5_worth_11 : decode cX5_worth 11 = .ok (.aload_n 0, 1) := by decide +kernel
theorem dX5_worth_12 : decode cX5_worth 12 = .ok (.getfield 28, 3) := by decide +kernel
theorem dX5_worth_15 : decode cX5_worth 15 = .ok (.if_icmp .ge 302, 3) := by decide +kernel
theorem dX5_worth_18 : decode cX5_worth 18 = .ok (.iload 4, 2) := by decide +kernel
theorem dX5_worth_20 : decode cX5_worth 20 = .ok (.ifCond .le 297, 3) := by decide +kernel
theorem dX5_worth_23 : decode cX5_worth 23 = .ok (.iload 4, 2) := by decide +kernel
theorem dX5_worth_25 : decode cX5_worth 25 = .ok (.aload_n 0, 1) := by decide +kernel
theorem dX5_worth_26 : decode cX5_worth 26 = .ok (.getfield 28, 3) := by decide +kernel
theorem dX5_worth_29 : decode cX5_worth 29 = .ok (.if_icmp .ge 288, 3) := by decide +kernel
theorem dX5_worth_32 : decode cX5_worth 32 = .ok (.iload 5, 2) := by decide +kernel
theorem dX5_worth_34 : decode cX5_worth 34 = .ok (.aload_n 3, 1) := by decide +kernel
theorem dX5_worth_35 : decode cX5_worth 35 = .ok (.arraylength, 1) := by decide +kernel
theorem dX5_worth_36 : decode cX5_worth 36 = .ok (.if_icmp .ge 281, 3) := by decide +kernel
theorem dX5_worth_39 : decode cX5_worth 39 = .ok (.aload_n 0, 1) := by decide +kernel
theorem dX5_worth_40 : decode cX5_worth 40 = .ok (.getfield 40, 3) := by decide +kernel
theorem dX5_worth_43 : decode cX5_worth 43 = .ok (.iload 4, 2) := by decide +kernel
theorem dX5_worth_45 : decode cX5_worth 45 = .ok (.iaload, 1) := by decide +kernel
theorem dX5_worth_46 : decode cX5_worth 46 = .ok (.istore 7, 2) := by decide +kernel
theorem dX5_worth_48 : decode cX5_worth 48 = .ok (.iload 4, 2) := by decide +kernel
theorem dX5_worth_50 : decode cX5_worth 50 = .ok (.iconst 1, 1) := by decide +kernel
theorem dX5_worth_51 : decode cX5_worth 51 = .ok (.iadd, 1) := by decide +kernel
theorem dX5_worth_52 : decode cX5_worth 52 = .ok (.aload_n 0, 1) := by decide +kernel
theorem dX5_worth_53 : decode cX5_worth 53 = .ok (.getfield 28, 3) := by decide +kernel
theorem dX5_worth_56 : decode cX5_worth 56 = .ok (.if_icmp .ge 15, 3) := by decide +kernel
theorem dX5_worth_59 : decode cX5_worth 59 = .ok (.aload_n 0, 1) := by decide +kernel
theorem dX5_worth_60 : decode cX5_worth 60 = .ok (.getfield 40, 3) := by decide +kernel
theorem dX5_worth_63 : decode cX5_worth 63 = .ok (.iload 4, 2) := by decide +kernel
theorem dX5_worth_65 : decode cX5_worth 65 = .ok (.iconst 1, 1) := by decide +kernel
theorem dX5_worth_66 : decode cX5_worth 66 = .ok (.iadd, 1) := by decide +kernel
theorem dX5_worth_67 : decode cX5_worth 67 = .ok (.iaload, 1) := by decide +kernel
theorem dX5_worth_68 : decode cX5_worth 68 = .ok (.goto 4, 3) := by decide +kernel
theorem dX5_worth_71 : decode cX5_worth 71 = .ok (.iconst 0, 1) := by decide +kernel
theorem dX5_worth_72 : decode cX5_worth 72 = .ok (.istore 8, 2) := by decide +kernel
theorem dX5_worth_74 : decode cX5_worth 74 = .ok (.iload 7, 2) := by decide +kernel
theorem dX5_worth_76 : decode cX5_worth 76 = .ok (.iconst 1, 1) := by decide +kernel
theorem dX5_worth_77 : decode cX5_worth 77 = .ok (.if_icmp .eq 21, 3) := by decide +kernel
theorem dX5_worth_80 : decode cX5_worth 80 = .ok (.iload 7, 2) := by decide +kernel
theorem dX5_worth_82 : decode cX5_worth 82 = .ok (.iconst 2, 1) := by decide +kernel
theorem dX5_worth_83 : decode cX5_worth 83 = .ok (.if_icmp .ne 43, 3) := by decide +kernel
theorem dX5_worth_86 : decode cX5_worth 86 = .ok (.iload 8, 2) := by decide +kernel
theorem dX5_worth_88 : decode cX5_worth 88 = .ok (.ifCond .lt 38, 3) := by decide +kernel
theorem dX5_worth_91 : decode cX5_worth 91 = .ok (.iload 8, 2) := by decide +kernel
theorem dX5_worth_93 : decode cX5_worth 93 = .ok (.aload_n 2, 1) := by decide +kernel
theorem dX5_worth_94 : decode cX5_worth 94 = .ok (.arraylength, 1) := by decide +kernel
theorem dX5_worth_95 : decode cX5_worth 95 = .ok (.if_icmp .ge 31, 3) := by decide +kernel
theorem dX5_worth_98 : decode cX5_worth 98 = .ok (.aload_n 3, 1) := by decide +kernel
theorem dX5_worth_99 : decode cX5_worth 99 = .ok (.iload 5, 2) := by decide +kernel
theorem dX5_worth_101 : decode cX5_worth 101 = .ok (.iload 7, 2) := by decide +kernel
theorem dX5_worth_103 : decode cX5_worth 103 = .ok (.iconst 1, 1) := by decide +kernel
theorem dX5_worth_104 : decode cX5_worth 104 = .ok (.if_icmp .ne 8, 3) := by decide +kernel
theorem dX5_worth_107 : decode cX5_worth 107 = .ok (.iload 8, 2) := by decide +kernel
theorem dX5_worth_109 : decode cX5_worth 109 = .ok (.goto 7, 3) := by decide +kernel
theorem dX5_worth_112 : decode cX5_worth 112 = .ok (.aload_n 2, 1) := by decide +kernel
theorem dX5_worth_113 : decode cX5_worth 113 = .ok (.iload 8, 2) := by decide +kernel
theorem dX5_worth_115 : decode cX5_worth 115 = .ok (.iaload, 1) := by decide +kernel
theorem dX5_worth_116 : decode cX5_worth 116 = .ok (.iastore, 1) := by decide +kernel
theorem dX5_worth_117 : decode cX5_worth 117 = .ok (.iinc 5 1, 3) := by decide +kernel
theorem dX5_worth_120 : decode cX5_worth 120 = .ok (.iinc 4 2, 3) := by decide +kernel
theorem dX5_worth_123 : decode cX5_worth 123 = .ok (.goto 188, 3) := by decide +kernel
theorem dX5_worth_126 : decode cX5_worth 126 = .ok (.iload 5, 2) := by decide +kernel
theorem dX5_worth_128 : decode cX5_worth 128 = .ok (.iconst 1, 1) := by decide +kernel
theorem dX5_worth_129 : decode cX5_worth 129 = .ok (.if_icmp .ge 6, 3) := by decide +kernel
theorem dX5_worth_132 : decode cX5_worth 132 = .ok (.ldc 58, 2) := by decide +kernel
theorem dX5_worth_134 : decode cX5_worth 134 = .ok (.ireturn, 1) := by decide +kernel
theorem dX5_worth_135 : decode cX5_worth 135 = .ok (.iload 7, 2) := by decide +kernel
theorem dX5_worth_137 : decode cX5_worth 137 = .ok (.iconst 3, 1) := by decide +kernel
theorem dX5_worth_138 : decode cX5_worth 138 = .ok (.if_icmp .eq 9, 3) := by decide +kernel
theorem dX5_worth_141 : decode cX5_worth 141 = .ok (.iload 7, 2) := by decide +kernel
theorem dX5_worth_143 : decode cX5_worth 143 = .ok (.iconst 4, 1) := by decide +kernel
theorem dX5_worth_144 : decode cX5_worth 144 = .ok (.if_icmp .ne 73, 3) := by decide +kernel
theorem dX5_worth_147 : decode cX5_worth 147 = .ok (.aload_n 3, 1) := by decide +kernel
theorem dX5_worth_148 : decode cX5_worth 148 = .ok (.iload 5, 2) := by decide +kernel
theorem dX5_worth_150 : decode cX5_worth 150 = .ok (.iconst 1, 1) := by decide +kernel
theorem dX5_worth_151 : decode cX5_worth 151 = .ok (.isub, 1) := by decide +kernel
theorem dX5_worth_152 : decode cX5_worth 152 = .ok (.iaload, 1) := by decide +kernel
theorem dX5_worth_153 : decode cX5_worth 153 = .ok (.ifCond .eq 7, 3) := by decide +kernel
theorem dX5_worth_156 : decode cX5_worth 156 = .ok (.iconst 1, 1) := by decide +kernel
theorem dX5_worth_157 : decode cX5_worth 157 = .ok (.goto 4, 3) := by decide +kernel
theorem dX5_worth_160 : decode cX5_worth 160 = .ok (.iconst 0, 1) := by decide +kernel
theorem dX5_worth_161 : decode cX5_worth 161 = .ok (.iload 7, 2) := by decide +kernel
theorem dX5_worth_163 : decode cX5_worth 163 = .ok (.iconst 4, 1) := by decide +kernel
theorem dX5_worth_164 : decode cX5_worth 164 = .ok (.if_icmp .ne 7, 3) := by decide +kernel
theorem dX5_worth_167 : decode cX5_worth 167 = .ok (.iconst 1, 1) := by decide +kernel
theorem dX5_worth_168 : decode cX5_worth 168 = .ok (.goto 4, 3) := by decide +kernel
theorem dX5_worth_171 : decode cX5_worth 171 = .ok (.iconst 0, 1) := by decide +kernel
theorem dX5_worth_172 : decode cX5_worth 172 = .ok (.if_icmp .ne 7, 3) := by decide +kernel
theorem dX5_worth_175 : decode cX5_worth 175 = .ok (.iconst 1, 1) := by decide +kernel
theorem dX5_worth_176 : decode cX5_worth 176 = .ok (.goto 4, 3) := by decide +kernel
theorem dX5_worth_179 : decode cX5_worth 179 = .ok (.iconst 0, 1) := by decide +kernel
theorem dX5_worth_180 : decode cX5_worth 180 = .ok (.istore 9, 2) := by decide +kernel
theorem dX5_worth_182 : decode cX5_worth 182 = .ok (.iload 9, 2) := by decide +kernel
theorem dX5_worth_184 : decode cX5_worth 184 = .ok (.ifCond .eq 8, 3) := by decide +kernel
theorem dX5_worth_187 : decode cX5_worth 187 = .ok (.iload 5, 2) := by decide +kernel
theorem dX5_worth_189 : decode cX5_worth 189 = .ok (.goto 7, 3) := by decide +kernel
theorem dX5_worth_192 : decode cX5_worth 192 = .ok (.iload 5, 2) := by decide +kernel
theorem dX5_worth_194 : decode cX5_worth 194 = .ok (.iconst 1, 1) := by decide +kernel
theorem dX5_worth_195 : decode cX5_worth 195 = .ok (.isub, 1) := by decide +kernel
theorem dX5_worth_196 : decode cX5_worth 196 = .ok (.istore 5, 2) := by decide +kernel
theorem dX5_worth_198 : decode cX5_worth 198 = .ok (.iload 9, 2) := by decide +kernel
theorem dX5_worth_200 : decode cX5_worth 200 = .ok (.ifCond .eq 8, 3) := by decide +kernel
theorem dX5_worth_203 : decode cX5_worth 203 = .ok (.iload 8, 2) := by decide +kernel
theorem dX5_worth_205 : decode cX5_worth 205 = .ok (.goto 7, 3) := by decide +kernel
theorem dX5_worth_208 : decode cX5_worth 208 = .ok (.iload 4, 2) := by decide +kernel
theorem dX5_worth_210 : decode cX5_worth 210 = .ok (.iconst 2, 1) := by decide +kernel
theorem dX5_worth_211 : decode cX5_worth 211 = .ok (.iadd, 1) := by decide +kernel
theorem dX5_worth_212 : decode cX5_worth 212 = .ok (.istore 4, 2) := by decide +kernel
theorem dX5_worth_214 : decode cX5_worth 214 = .ok (.goto 97, 3) := by decide +kernel
theorem dX5_worth_217 : decode cX5_worth 217 = .ok (.iload 7, 2) := by decide +kernel
theorem dX5_worth_219 : decode cX5_worth 219 = .ok (.iconst 5, 1) := by decide +kernel
theorem dX5_worth_220 : decode cX5_worth 220 = .ok (.if_icmp .ne 23, 3) := by decide +kernel
theorem dX5_worth_223 : decode cX5_worth 223 = .ok (.aload_n 3, 1) := by decide +kernel
theorem dX5_worth_224 : decode cX5_worth 224 = .ok (.iload 5, 2) := by decide +kernel
theorem dX5_worth_226 : decode cX5_worth 226 = .ok (.iconst 1, 1) := by decide +kernel
theorem dX5_worth_227 : decode cX5_worth 227 = .ok (.isub, 1) := by decide +kernel
theorem dX5_worth_228 : decode cX5_worth 228 = .ok (.iconst 1, 1) := by decide +kernel
theorem dX5_worth_229 : decode cX5_worth 229 = .ok (.aload_n 3, 1) := by decide +kernel
theorem dX5_worth_230 : decode cX5_worth 230 = .ok (.iload 5, 2) := by decide +kernel
theorem dX5_worth_232 : decode cX5_worth 232 = .ok (.iconst 1, 1) := by decide +kernel
theorem dX5_worth_233 : decode cX5_worth 233 = .ok (.isub, 1) := by decide +kernel
theorem dX5_worth_234 : decode cX5_worth 234 = .ok (.iaload, 1) := by decide +kernel
theorem dX5_worth_235 : decode cX5_worth 235 = .ok (.isub, 1) := by decide +kernel
theorem dX5_worth_236 : decode cX5_worth 236 = .ok (.iastore, 1) := by decide +kernel
theorem dX5_worth_237 : decode cX5_worth 237 = .ok (.iinc 4 1, 3) := by decide +kernel
theorem dX5_worth_240 : decode cX5_worth 240 = .ok (.goto 71, 3) := by decide +kernel
theorem dX5_worth_243 : decode cX5_worth 243 = .ok (.iload 7, 2) := by decide +kernel
theorem dX5_worth_245 : decode cX5_worth 245 = .ok (.ifCond .ne 10, 3) := by decide +kernel
theorem dX5_worth_248 : decode cX5_worth 248 = .ok (.aload_n 3, 1) := by decide +kernel
theorem dX5_worth_249 : decode cX5_worth 249 = .ok (.iload 5, 2) := by decide +kernel
theorem dX5_worth_251 : decode cX5_worth 251 = .ok (.iconst 1, 1) := by decide +kernel
theorem dX5_worth_252 : decode cX5_worth 252 = .ok (.isub, 1) := by decide +kernel
theorem dX5_worth_253 : decode cX5_worth 253 = .ok (.iaload, 1) := by decide +kernel
theorem dX5_worth_254 : decode cX5_worth 254 = .ok (.ireturn, 1) := by decide +kernel
theorem dX5_worth_255 : decode cX5_worth 255 = .ok (.iload 5, 2) := by decide +kernel
theorem dX5_worth_257 : decode cX5_worth 257 = .ok (.iconst 2, 1) := by decide +kernel
theorem dX5_worth_258 : decode cX5_worth 258 = .ok (.if_icmp .ge 8, 3) := by decide +kernel
theorem dX5_worth_261 : decode cX5_worth 261 = .ok (.ldc 58, 2) := by decide +kernel
theorem dX5_worth_263 : decode cX5_worth 263 = .ok (.goto 22, 3) := by decide +kernel
theorem dX5_worth_266 : decode cX5_worth 266 = .ok (.iload 7, 2) := by decide +kernel
theorem dX5_worth_268 : decode cX5_worth 268 = .ok (.aload_n 3, 1) := by decide +kernel
theorem dX5_worth_269 : decode cX5_worth 269 = .ok (.iload 5, 2) := by decide +kernel
theorem dX5_worth_271 : decode cX5_worth 271 = .ok (.iconst 2, 1) := by decide +kernel
theorem dX5_worth_272 : decode cX5_worth 272 = .ok (.isub, 1) := by decide +kernel
theorem dX5_worth_273 : decode cX5_worth 273 = .ok (.iaload, 1) := by decide +kernel
theorem dX5_worth_274 : decode cX5_worth 274 = .ok (.i2l, 1) := by decide +kernel
theorem dX5_worth_275 : decode cX5_worth 275 = .ok (.aload_n 3, 1) := by decide +kernel
theorem dX5_worth_276 : decode cX5_worth 276 = .ok (.iload 5, 2) := by decide +kernel
theorem dX5_worth_278 : decode cX5_worth 278 = .ok (.iconst 1, 1) := by decide +kernel
theorem dX5_worth_279 : decode cX5_worth 279 = .ok (.isub, 1) := by decide +kernel
theorem dX5_worth_280 : decode cX5_worth 280 = .ok (.iaload, 1) := by decide +kernel
theorem dX5_worth_281 : decode cX5_worth 281 = .ok (.i2l, 1) := by decide +kernel
theorem dX5_worth_282 : decode cX5_worth 282 = .ok (.invokestatic 59, 3) := by decide +kernel
theorem dX5_worth_285 : decode cX5_worth 285 = .ok (.istore 9, 2) := by decide +kernel
theorem dX5_worth_287 : decode cX5_worth 287 = .ok (.iload 9, 2) := by decide +kernel
theorem dX5_worth_289 : decode cX5_worth 289 = .ok (.ldc 58, 2) := by decide +kernel
theorem dX5_worth_291 : decode cX5_worth 291 = .ok (.if_icmp .ne 6, 3) := by decide +kernel
theorem dX5_worth_294 : decode cX5_worth 294 = .ok (.ldc 58, 2) := by decide +kernel
theorem dX5_worth_296 : decode cX5_worth 296 = .ok (.ireturn, 1) := by decide +kernel
theorem dX5_worth_297 : decode cX5_worth 297 = .ok (.iinc 5 (-1), 3) := by decide +kernel
theorem dX5_worth_300 : decode cX5_worth 300 = .ok (.aload_n 3, 1) := by decide +kernel
theorem dX5_worth_301 : decode cX5_worth 301 = .ok (.iload 5, 2) := by decide +kernel
theorem dX5_worth_303 : decode cX5_worth 303 = .ok (.iconst 1, 1) := by decide +kernel
theorem dX5_worth_304 : decode cX5_worth 304 = .ok (.isub, 1) := by decide +kernel
theorem dX5_worth_305 : decode cX5_worth 305 = .ok (.iload 9, 2) := by decide +kernel
theorem dX5_worth_307 : decode cX5_worth 307 = .ok (.iastore, 1) := by decide +kernel
theorem dX5_worth_308 : decode cX5_worth 308 = .ok (.iinc 4 1, 3) := by decide +kernel
theorem dX5_worth_311 : decode cX5_worth 311 = .ok (.iinc 6 1, 3) := by decide +kernel
theorem dX5_worth_314 : decode cX5_worth 314 = .ok (.goto (-305), 3) := by decide +kernel
theorem dX5_worth_317 : decode cX5_worth 317 = .ok (.ldc 58, 2) := by decide +kernel
theorem dX5_worth_319 : decode cX5_worth 319 = .ok (.ireturn, 1) := by decide +kernel
theorem dX5_joined_0 : decode cX5_joined 0 = .ok (.iload_n 0, 1) := by decide +kernel
theorem dX5_joined_1 : decode cX5_joined 1 = .ok (.tableswitch 208 37 62 #[179, 208, 208, 208, 208, 171, 155, 208, 163, 208, 179, 208, 208, 208, 208, 208, 208, 208, 208, 208, 208, 208, 208, 119, 143, 131], 119) := by decide +kernel
theorem dX5_joined_120 : decode cX5_joined 120 = .ok (.lload_n 1, 1) := by decide +kernel
theorem dX5_joined_121 : decode cX5_joined 121 = .ok (.lload_n 3, 1) := by decide +kernel
theorem dX5_joined_122 : decode cX5_joined 122 = .ok (.lcmp, 1) := by decide +kernel
theorem dX5_joined_123 : decode cX5_joined 123 = .ok (.ifCond .ge 7, 3) := by decide +kernel
theorem dX5_joined_126 : decode cX5_joined 126 = .ok (.iconst 1, 1) := by decide +kernel
theorem dX5_joined_127 : decode cX5_joined 127 = .ok (.goto 4, 3) := by decide +kernel
theorem dX5_joined_130 : decode cX5_joined 130 = .ok (.iconst 0, 1) := by decide +kernel
theorem dX5_joined_131 : decode cX5_joined 131 = .ok (.ireturn, 1) := by decide +kernel
theorem dX5_joined_132 : decode cX5_joined 132 = .ok (.lload_n 1, 1) := by decide +kernel
theorem dX5_joined_133 : decode cX5_joined 133 = .ok (.lload_n 3, 1) := by decide +kernel
theorem dX5_joined_134 : decode cX5_joined 134 = .ok (.lcmp, 1) := by decide +kernel
theorem dX5_joined_135 : decode cX5_joined 135 = .ok (.ifCond .le 7, 3) := by decide +kernel
theorem dX5_joined_138 : decode cX5_joined 138 = .ok (.iconst 1, 1) := by decide +kernel
theorem dX5_joined_139 : decode cX5_joined 139 = .ok (.goto 4, 3) := by decide +kernel
theorem dX5_joined_142 : decode cX5_joined 142 = .ok (.iconst 0, 1) := by decide +kernel
theorem dX5_joined_143 : decode cX5_joined 143 = .ok (.ireturn, 1) := by decide +kernel
theorem dX5_joined_144 : decode cX5_joined 144 = .ok (.lload_n 1, 1) := by decide +kernel
theorem dX5_joined_145 : decode cX5_joined 145 = .ok (.lload_n 3, 1) := by decide +kernel
theorem dX5_joined_146 : decode cX5_joined 146 = .ok (.lcmp, 1) := by decide +kernel
theorem dX5_joined_147 : decode cX5_joined 147 = .ok (.ifCond .ne 7, 3) := by decide +kernel
theorem dX5_joined_150 : decode cX5_joined 150 = .ok (.iconst 1, 1) := by decide +kernel
theorem dX5_joined_151 : decode cX5_joined 151 = .ok (.goto 4, 3) := by decide +kernel
theorem dX5_joined_154 : decode cX5_joined 154 = .ok (.iconst 0, 1) := by decide +kernel
theorem dX5_joined_155 : decode cX5_joined 155 = .ok (.ireturn, 1) := by decide +kernel
theorem dX5_joined_156 : decode cX5_joined 156 = .ok (.lload_n 1, 1) := by decide +kernel
theorem dX5_joined_157 : decode cX5_joined 157 = .ok (.lload_n 3, 1) := by decide +kernel
theorem dX5_joined_158 : decode cX5_joined 158 = .ok (.ladd, 1) := by decide +kernel
theorem dX5_joined_159 : decode cX5_joined 159 = .ok (.lstore 5, 2) := by decide +kernel
theorem dX5_joined_161 : decode cX5_joined 161 = .ok (.goto 51, 3) := by decide +kernel
theorem dX5_joined_164 : decode cX5_joined 164 = .ok (.lload_n 1, 1) := by decide +kernel
theorem dX5_joined_165 : decode cX5_joined 165 = .ok (.lload_n 3, 1) := by decide +kernel
theorem dX5_joined_166 : decode cX5_joined 166 = .ok (.lsub, 1) := by decide +kernel
theorem dX5_joined_167 : decode cX5_joined 167 = .ok (.lstore 5, 2) := by decide +kernel
theorem dX5_joined_169 : decode cX5_joined 169 = .ok (.goto 43, 3) := by decide +kernel
theorem dX5_joined_172 : decode cX5_joined 172 = .ok (.lload_n 1, 1) := by decide +kernel
theorem dX5_joined_173 : decode cX5_joined 173 = .ok (.lload_n 3, 1) := by decide +kernel
theorem dX5_joined_174 : decode cX5_joined 174 = .ok (.lmul, 1) := by decide +kernel
theorem dX5_joined_175 : decode cX5_joined 175 = .ok (.lstore 5, 2) := by decide +kernel
theorem dX5_joined_177 : decode cX5_joined 177 = .ok (.goto 35, 3) := by decide +kernel
theorem dX5_joined_180 : decode cX5_joined 180 = .ok (.lload_n 3, 1) := by decide +kernel
theorem dX5_joined_181 : decode cX5_joined 181 = .ok (.lconst 0, 1) := by decide +kernel
theorem dX5_joined_182 : decode cX5_joined 182 = .ok (.lcmp, 1) := by decide +kernel
theorem dX5_joined_183 : decode cX5_joined 183 = .ok (.ifCond .ne 6, 3) := by decide +kernel
theorem dX5_joined_186 : decode cX5_joined 186 = .ok (.ldc 58, 2) := by decide +kernel
theorem dX5_joined_188 : decode cX5_joined 188 = .ok (.ireturn, 1) := by decide +kernel
theorem dX5_joined_189 : decode cX5_joined 189 = .ok (.iload_n 0, 1) := by decide +kernel
theorem dX5_joined_190 : decode cX5_joined 190 = .ok (.bipush 47, 2) := by decide +kernel
theorem dX5_joined_192 : decode cX5_joined 192 = .ok (.if_icmp .ne 9, 3) := by decide +kernel
theorem dX5_joined_195 : decode cX5_joined 195 = .ok (.lload_n 1, 1) := by decide +kernel
theorem dX5_joined_196 : decode cX5_joined 196 = .ok (.lload_n 3, 1) := by decide +kernel
theorem dX5_joined_197 : decode cX5_joined 197 = .ok (.ldiv, 1) := by decide +kernel
theorem dX5_joined_198 : decode cX5_joined 198 = .ok (.goto 6, 3) := by decide +kernel
theorem dX5_joined_201 : decode cX5_joined 201 = .ok (.lload_n 1, 1) := by decide +kernel
theorem dX5_joined_202 : decode cX5_joined 202 = .ok (.lload_n 3, 1) := by decide +kernel
theorem dX5_joined_203 : decode cX5_joined 203 = .ok (.lrem, 1) := by decide +kernel
theorem dX5_joined_204 : decode cX5_joined 204 = .ok (.lstore 5, 2) := by decide +kernel
theorem dX5_joined_206 : decode cX5_joined 206 = .ok (.goto 6, 3) := by decide +kernel
theorem dX5_joined_209 : decode cX5_joined 209 = .ok (.ldc 58, 2) := by decide +kernel
theorem dX5_joined_211 : decode cX5_joined 211 = .ok (.ireturn, 1) := by decide +kernel
theorem dX5_joined_212 : decode cX5_joined 212 = .ok (.lload 5, 2) := by decide +kernel
theorem dX5_joined_214 : decode cX5_joined 214 = .ok (.ldc2_w 63, 3) := by decide +kernel
theorem dX5_joined_217 : decode cX5_joined 217 = .ok (.lcmp, 1) := by decide +kernel
theorem dX5_joined_218 : decode cX5_joined 218 = .ok (.ifCond .gt 12, 3) := by decide +kernel
theorem dX5_joined_221 : decode cX5_joined 221 = .ok (.lload 5, 2) := by decide +kernel
theorem dX5_joined_223 : decode cX5_joined 223 = .ok (.ldc2_w 65, 3) := by decide +kernel
theorem dX5_joined_226 : decode cX5_joined 226 = .ok (.lcmp, 1) := by decide +kernel
theorem dX5_joined_227 : decode cX5_joined 227 = .ok (.ifCond .ge 8, 3) := by decide +kernel
theorem dX5_joined_230 : decode cX5_joined 230 = .ok (.ldc 58, 2) := by decide +kernel
theorem dX5_joined_232 : decode cX5_joined 232 = .ok (.goto 6, 3) := by decide +kernel
theorem dX5_joined_235 : decode cX5_joined 235 = .ok (.lload 5, 2) := by decide +kernel
theorem dX5_joined_237 : decode cX5_joined 237 = .ok (.l2i, 1) := by decide +kernel
theorem dX5_joined_238 : decode cX5_joined 238 = .ok (.ireturn, 1) := by decide +kernel
theorem dX6_init_0 : decode cX6_init 0 = .ok (.aload_n 0, 1) := by decide +kernel
theorem dX6_init_1 : decode cX6_init 1 = .ok (.invokespecial 3, 3) := by decide +kernel
theorem dX6_init_4 : decode cX6_init 4 = .ok (.aload_n 0, 1) := by decide +kernel
theorem dX6_init_5 : decode cX6_init 5 = .ok (.bipush 7, 2) := by decide +kernel
theorem dX6_init_7 : decode cX6_init 7 = .ok (.newarray .int, 2) := by decide +kernel
theorem dX6_init_9 : decode cX6_init 9 = .ok (.putfield 9, 3) := by decide +kernel
theorem dX6_init_12 : decode cX6_init 12 = .ok (.aload_n 0, 1) := by decide +kernel
theorem dX6_init_13 : decode cX6_init 13 = .ok (.bipush 40, 2) := by decide +kernel
theorem dX6_init_15 : decode cX6_init 15 = .ok (.newarray .int, 2) := by decide +kernel
theorem dX6_init_17 : decode cX6_init 17 = .ok (.putfield 17, 3) := by decide +kernel
theorem dX6_init_20 : decode cX6_init 20 = .ok (.aload_n 0, 1) := by decide +kernel
theorem dX6_init_21 : decode cX6_init 21 = .ok (.bipush 16, 2) := by decide +kernel
theorem dX6_init_23 : decode cX6_init 23 = .ok (.newarray .int, 2) := by decide +kernel
theorem dX6_init_25 : decode cX6_init 25 = .ok (.putfield 20, 3) := by decide +kernel
theorem dX6_init_28 : decode cX6_init 28 = .ok (.aload_n 0, 1) := by decide +kernel
theorem dX6_init_29 : decode cX6_init 29 = .ok (.sipush 3360, 3) := by decide +kernel
theorem dX6_init_32 : decode cX6_init 32 = .ok (.newarray .int, 2) := by decide +kernel
theorem dX6_init_34 : decode cX6_init 34 = .ok (.putfield 23, 3) := by decide +kernel
theorem dX6_init_37 : decode cX6_init 37 = .ok (.aload_n 0, 1) := by decide +kernel
theorem dX6_init_38 : decode cX6_init 38 = .ok (.sipush 1920, 3) := by decide +kernel
theorem dX6_init_41 : decode cX6_init 41 = .ok (.newarray .int, 2) := by decide +kernel
theorem dX6_init_43 : decode cX6_init 43 = .ok (.putfield 26, 3) := by decide +kernel
theorem dX6_init_46 : decode cX6_init 46 = .ok (.aload_n 0, 1) := by decide +kernel
theorem dX6_init_47 : decode cX6_init 47 = .ok (.iconst 1, 1) := by decide +kernel
theorem dX6_init_48 : decode cX6_init 48 = .ok (.putfield 29, 3) := by decide +kernel
theorem dX6_init_51 : decode cX6_init 51 = .ok (.aload_n 0, 1) := by decide +kernel
theorem dX6_init_52 : decode cX6_init 52 = .ok (.aconst_null, 1) := by decide +kernel
theorem dX6_init_53 : decode cX6_init 53 = .ok (.putfield 33, 3) := by decide +kernel
theorem dX6_init_56 : decode cX6_init 56 = .ok (.aload_n 0, 1) := by decide +kernel
theorem dX6_init_57 : decode cX6_init 57 = .ok (.iconst 0, 1) := by decide +kernel
theorem dX6_init_58 : decode cX6_init 58 = .ok (.putfield 37, 3) := by decide +kernel
theorem dX6_init_61 : decode cX6_init 61 = .ok (.aload_n 0, 1) := by decide +kernel
theorem dX6_init_62 : decode cX6_init 62 = .ok (.iconst 0, 1) := by decide +kernel
theorem dX6_init_63 : decode cX6_init 63 = .ok (.putfield 40, 3) := by decide +kernel
theorem dX6_init_66 : decode cX6_init 66 = .ok (.aload_n 0, 1) := by decide +kernel
theorem dX6_init_67 : decode cX6_init 67 = .ok (.iconst 0, 1) := by decide +kernel
theorem dX6_init_68 : decode cX6_init 68 = .ok (.putfield 43, 3) := by decide +kernel
theorem dX6_init_71 : decode cX6_init 71 = .ok (.aload_n 0, 1) := by decide +kernel
theorem dX6_init_72 : decode cX6_init 72 = .ok (.aload_n 1, 1) := by decide +kernel
theorem dX6_init_73 : decode cX6_init 73 = .ok (.putfield 46, 3) := by decide +kernel
theorem dX6_init_76 : decode cX6_init 76 = .ok (.return_, 1) := by decide +kernel
theorem dX6_forget_0 : decode cX6_forget 0 = .ok (.aload_n 0, 1) := by decide +kernel
theorem dX6_forget_1 : decode cX6_forget 1 = .ok (.dup, 1) := by decide +kernel
theorem dX6_forget_2 : decode cX6_forget 2 = .ok (.getfield 29, 3) := by decide +kernel
theorem dX6_forget_5 : decode cX6_forget 5 = .ok (.iconst 1, 1) := by decide +kernel
theorem dX6_forget_6 : decode cX6_forget 6 = .ok (.iadd, 1) := by decide +kernel
theorem dX6_forget_7 : decode cX6_forget 7 = .ok (.putfield 29, 3) := by decide +kernel
theorem dX6_forget_10 : decode cX6_forget 10 = .ok (.aload_n 0, 1) := by decide +kernel
theorem dX6_forget_11 : decode cX6_forget 11 = .ok (.getfield 29, 3) := by decide +kernel
theorem dX6_forget_14 : decode cX6_forget 14 = .ok (.ldc 50, 2) := by decide +kernel
theorem dX6_forget_16 : decode cX6_forget 16 = .ok (.if_icmp .le 24, 3) := by decide +kernel
theorem dX6_forget_19 : decode cX6_forget 19 = .ok (.aload_n 0, 1) := by decide +kernel
theorem dX6_forget_20 : decode cX6_forget 20 = .ok (.iconst 1, 1) := by decide +kernel
theorem dX6_forget_21 : decode cX6_forget 21 = .ok (.putfield 29, 3) := by decide +kernel
theorem dX6_forget_24 : decode cX6_forget 24 = .ok (.aload_n 0, 1) := by decide +kernel
theorem dX6_forget_25 : decode cX6_forget 25 = .ok (.getfield 23, 3) := by decide +kernel
theorem dX6_forget_28 : decode cX6_forget 28 = .ok (.iconst 0, 1) := by decide +kernel
theorem dX6_forget_29 : decode cX6_forget 29 = .ok (.invokestatic 51, 3) := by decide +kernel
theorem dX6_forget_32 : decode cX6_forget 32 = .ok (.aload_n 0, 1) := by decide +kernel
theorem dX6_forget_33 : decode cX6_forget 33 = .ok (.getfield 26, 3) := by decide +kernel
theorem dX6_forget_36 : decode cX6_forget 36 = .ok (.iconst 0, 1) := by decide +kernel
theorem dX6_forget_37 : decode cX6_forget 37 = .ok (.invokestatic 51, 3) := by decide +kernel
theorem dX6_forget_40 : decode cX6_forget 40 = .ok (.return_, 1) := by decide +kernel
theorem dX6_tune_0 : decode cX6_tune 0 = .ok (.aload_n 1, 1) := by decide +kernel
theorem dX6_tune_1 : decode cX6_tune 1 = .ok (.aload_n 0, 1) := by decide +kernel
theorem dX6_tune_2 : decode cX6_tune 2 = .ok (.getfield 33, 3) := by decide +kernel
theorem dX6_tune_5 : decode cX6_tune 5 = .ok (.if_acmp .ne 27, 3) := by decide +kernel
theorem dX6_tune_8 : decode cX6_tune 8 = .ok (.iload_n 2, 1) := by decide +kernel
theorem dX6_tune_9 : decode cX6_tune 9 = .ok (.aload_n 0, 1) := by decide +kernel
theorem dX6_tune_10 : decode cX6_tune 10 = .ok (.getfield 37, 3) := by decide +kernel
theorem dX6_tune_13 : decode cX6_tune 13 = .ok (.if_icmp .ne 19, 3) := by decide +kernel
theorem dX6_tune_16 : decode cX6_tune 16 = .ok (.aload_n 0, 1) := by decide +kernel
theorem dX6_tune_17 : decode cX6_tune 17 = .ok (.getfield 46, 3) := by decide +kernel
theorem dX6_tune_20 : decode cX6_tune 20 = .ok (.getfield 57, 3) := by decide +kernel
theorem dX6_tune_23 : decode cX6_tune 23 = .ok (.iconst 3, 1) := by decide +kernel
theorem dX6_tune_24 : decode cX6_tune 24 = .ok (.iaload, 1) := by decide +kernel
theorem dX6_tune_25 : decode cX6_tune 25 = .ok (.aload_n 0, 1) := by decide +kernel
theorem dX6_tune_26 : decode cX6_tune 26 = .ok (.getfield 40, 3) := by decide +kernel
theorem dX6_tune_29 : decode cX6_tune 29 = .ok (.if_icmp .eq 30, 3) := by decide +kernel
theorem dX6_tune_32 : decode cX6_tune 32 = .ok (.aload_n 0, 1) := by decide +kernel
theorem dX6_tune_33 : decode cX6_tune 33 = .ok (.invokevirtual 62, 3) := by decide +kernel
theorem dX6_tune_36 : decode cX6_tune 36 = .ok (.aload_n 0, 1) := by decide +kernel
theorem dX6_tune_37 : decode cX6_tune 37 = .ok (.aload_n 1, 1) := by decide +kernel
theorem dX6_tune_38 : decode cX6_tune 38 = .ok (.putfield 33, 3) := by decide +kernel
theorem dX6_tune_41 : decode cX6_tune 41 = .ok (.aload_n 0, 1) := by decide +kernel
theorem dX6_tune_42 : decode cX6_tune 42 = .ok (.iload_n 2, 1) := by decide +kernel
theorem dX6_tune_43 : decode cX6_tune 43 = .ok (.putfield 37, 3) := by decide +kernel
theorem dX6_tune_46 : decode cX6_tune 46 = .ok (.aload_n 0, 1) := by decide +kernel
theorem dX6_tune_47 : decode cX6_tune 47 = .ok (.aload_n 0, 1) := by decide +kernel
theorem dX6_tune_48 : decode cX6_tune 48 = .ok (.getfield 46, 3) := by decide +kernel
theorem dX6_tune_51 : decode cX6_tune 51 = .ok (.getfield 57, 3) := by decide +kernel
theorem dX6_tune_54 : decode cX6_tune 54 = .ok (.iconst 3, 1) := by decide +kernel
theorem dX6_tune_55 : decode cX6_tune 55 = .ok (.iaload, 1) := by decide +kernel
theorem dX6_tune_56 : decode cX6_tune 56 = .ok (.putfield 40, 3) := by decide +kernel
theorem dX6_tune_59 : decode cX6_tune 59 = .ok (.return_, 1) := by decide +kernel
theorem dX6_speak_0 : decode cX6_speak 0 = .ok (.iload_n 1, 1) := by decide +kernel
theorem dX6_speak_1 : decode cX6_speak 1 = .ok (.invokestatic 65, 3) := by decide +kernel
theorem dX6_speak_4 : decode cX6_speak 4 = .ok (.istore 5, 2) := by decide +kernel
theorem dX6_speak_6 : decode cX6_speak 6 = .ok (.aload_n 0, 1) := by decide +kernel
theorem dX6_speak_7 : decode cX6_speak 7 = .ok (.iload_n 1, 1) := by decide +kernel
theorem dX6_speak_8 : decode cX6_speak 8 = .ok (.iload_n 2, 1) := by decide +kernel
theorem dX6_speak_9 : decode cX6_speak 9 = .ok (.invokevirtual 71, 3) := by decide +kernel
theorem dX6_speak_12 : decode cX6_speak 12 = .ok (.istore 6, 2) := by decide +kernel
theorem dX6_speak_14 : decode cX6_speak 14 = .ok (.iconst 1, 1) := by decide +kernel
theorem dX6_speak_15 : decode cX6_speak 15 = .ok (.istore 7, 2) := by decide +kernel
theorem dX6_speak_17 : decode cX6_speak 17 = .ok (.aload_n 0, 1) := by decide +kernel
theorem dX6_speak_18 : decode cX6_speak 18 = .ok (.iconst 1, 1) := by decide +kernel
theorem dX6_speak_19 : decode cX6_speak 19 = .ok (.aload_n 0, 1) := by decide +kernel
theorem dX6_speak_20 : decode cX6_speak 20 = .ok (.iload_n 3, 1) := by decide +kernel
theorem dX6_speak_21 : decode cX6_speak 21 = .ok (.iload 6, 2) := by decide +kernel
theorem dX6_speak_23 : decode cX6_speak 23 = .ok (.iload 5, 2) := by decide +kernel
theorem dX6_speak_25 : decode cX6_speak 25 = .ok (.invokevirtual 75, 3) := by decide +kernel
theorem dX6_speak_28 : decode cX6_speak 28 = .ok (.iload 4, 2) := by decide +kernel
theorem dX6_speak_30 : decode cX6_speak 30 = .ok (.isub, 1) := by decide +kernel
theorem dX6_speak_31 : decode cX6_speak 31 = .ok (.invokestatic 79, 3) := by decide +kernel
theorem dX6_speak_34 : decode cX6_speak 34 = .ok (.putfield 43, 3) := by decide +kernel
theorem dX6_speak_37 : decode cX6_speak 37 = .ok (.iconst 1, 1) := by decide +kernel
theorem dX6_speak_38 : decode cX6_speak 38 = .ok (.istore 8, 2) := by decide +kernel
theorem dX6_speak_40 : decode cX6_speak 40 = .ok (.iload 8, 2) := by decide +kernel
theorem dX6_speak_42 : decode cX6_speak 42 = .ok (.aload_n 0, 1) := by decide +kernel
theorem dX6_speak_43 : decode cX6_speak 43 = .ok (.getfield 43, 3) := by decide +kernel
theorem dX6_speak_46 : decode cX6_speak 46 = .ok (.if_icmp .gt 104, 3) := by decide +kernel
theorem dX6_speak_49 : decode cX6_speak 49 = .ok (.iload 8, 2) := by decide +kernel
theorem dX6_speak_51 : decode cX6_speak 51 = .ok (.bipush 15, 2) := by decide +kernel
theorem dX6_speak_53 : decode cX6_speak 53 = .ok (.if_icmp .gt 97, 3) := by decide +kernel
theorem dX6_speak_56 : decode cX6_speak 56 = .ok (.iload 8, 2) := by decide +kernel
theorem dX6_speak_58 : decode cX6_speak 58 = .ok (.iconst 1, 1) := by decide +kernel
theorem dX6_speak_59 : decode cX6_speak 59 = .ok (.if_icmp .le 14, 3) := by decide +kernel
theorem dX6_speak_62 : decode cX6_speak 62 = .ok (.aload_n 0, 1) := by decide +kernel
theorem dX6_speak_63 : decode cX6_speak 63 = .ok (.iload_n 1, 1) := by decide +kernel
theorem dX6_speak_64 : decode cX6_speak 64 = .ok (.iload 6, 2) := by decide +kernel
theorem dX6_speak_66 : decode cX6_speak 66 = .ok (.iload 7, 2) := by decide +kernel
theorem dX6_speak_68 : decode cX6_speak 68 = .ok (.invokevirtual 84, 3) := by decide +kernel
theorem dX6_speak_71 : decode cX6_speak 71 = .ok (.istore 6, 2) := by decide +kernel
theorem dX6_speak_73 : decode cX6_speak 73 = .ok (.iconst 0, 1) := by decide +kernel
theorem dX6_speak_74 : decode cX6_speak 74 = .ok (.istore 9, 2) := by decide +kernel
theorem dX6_speak_76 : decode cX6_speak 76 = .ok (.iload 9, 2) := by decide +kernel
theorem dX6_speak_78 : decode cX6_speak 78 = .ok (.iload 5, 2) := by decide +kernel
theorem dX6_speak_80 : decode cX6_speak 80 = .ok (.if_icmp .ge 35, 3) := by decide +kernel
theorem dX6_speak_83 : decode cX6_speak 83 = .ok (.aload_n 0, 1) := by decide +kernel
theorem dX6_speak_84 : decode cX6_speak 84 = .ok (.iconst 1, 1) := by decide +kernel
theorem dX6_speak_85 : decode cX6_speak 85 = .ok (.iload_n 3, 1) := by decide +kernel
theorem dX6_speak_86 : decode cX6_speak 86 = .ok (.iload 6, 2) := by decide +kernel
theorem dX6_speak_88 : decode cX6_speak 88 = .ok (.iload 8, 2) := by decide +kernel
theorem dX6_speak_90 : decode cX6_speak 90 = .ok (.iload 5, 2) := by decide +kernel
theorem dX6_speak_92 : decode cX6_speak 92 = .ok (.invokevirtual 87, 3) := by decide +kernel
theorem dX6_speak_95 : decode cX6_speak 95 = .ok (.ifCond .eq 20, 3) := by decide +kernel
theorem dX6_speak_98 : decode cX6_speak 98 = .ok (.aload_n 0, 1) := by decide +kernel
theorem dX6_speak_99 : decode cX6_speak 99 = .ok (.iload_n 1, 1) := by decide +kernel
theorem dX6_speak_100 : decode cX6_speak 100 = .ok (.iload 6, 2) := by decide +kernel
theorem dX6_speak_102 : decode cX6_speak 102 = .ok (.iload 7, 2) := by decide +kernel
theorem dX6_speak_104 : decode cX6_speak 104 = .ok (.invokevirtual 84, 3) := by decide +kernel
theorem dX6_speak_107 : decode cX6_speak 107 = .ok (.istore 6, 2) := by decide +kernel
theorem dX6_speak_109 : decode cX6_speak 109 = .ok (.iinc 9 1, 3) := by decide +kernel
theorem dX6_speak_112 : decode cX6_speak 112 = .ok (.goto (-36), 3) := by decide +kernel
theorem dX6_speak_115 : decode cX6_speak 115 = .ok (.aload_n 0, 1) := by decide +kernel
theorem dX6_speak_116 : decode cX6_speak 116 = .ok (.getfield 20, 3) := by decide +kernel
theorem dX6_speak_119 : decode cX6_speak 119 = .ok (.iload 8, 2) := by decide +kernel
theorem dX6_speak_121 : decode cX6_speak 121 = .ok (.iload 6, 2) := by decide +kernel
theorem dX6_speak_123 : decode cX6_speak 123 = .ok (.iastore, 1) := by decide +kernel
theorem dX6_speak_124 : decode cX6_speak 124 = .ok (.aload_n 0, 1) := by decide +kernel
theorem dX6_speak_125 : decode cX6_speak 125 = .ok (.iconst 2, 1) := by decide +kernel
theorem dX6_speak_126 : decode cX6_speak 126 = .ok (.iload_n 3, 1) := by decide +kernel
theorem dX6_speak_127 : decode cX6_speak 127 = .ok (.iload 6, 2) := by decide +kernel
theorem dX6_speak_129 : decode cX6_speak 129 = .ok (.iload 8, 2) := by decide +kernel
theorem dX6_speak_131 : decode cX6_speak 131 = .ok (.iload 5, 2) := by decide +kernel
theorem dX6_speak_133 : decode cX6_speak 133 = .ok (.invokevirtual 87, 3) := by decide +kernel
theorem dX6_speak_136 : decode cX6_speak 136 = .ok (.ifCond .eq 8, 3) := by decide +kernel
theorem dX6_speak_139 : decode cX6_speak 139 = .ok (.iload 7, 2) := by decide +kernel
theorem dX6_speak_141 : decode cX6_speak 141 = .ok (.ineg, 1) := by decide +kernel
theorem dX6_speak_142 : decode cX6_speak 142 = .ok (.istore 7, 2) := by decide +kernel
theorem dX6_speak_144 : decode cX6_speak 144 = .ok (.iinc 8 1, 3) := by decide +kernel
theorem dX6_speak_147 : decode cX6_speak 147 = .ok (.goto (-107), 3) := by decide +kernel
theorem dX6_speak_150 : decode cX6_speak 150 = .ok (.aload_n 0, 1) := by decide +kernel
theorem dX6_speak_151 : decode cX6_speak 151 = .ok (.iconst 3, 1) := by decide +kernel
theorem dX6_speak_152 : decode cX6_speak 152 = .ok (.iload_n 3, 1) := by decide +kernel
theorem dX6_speak_153 : decode cX6_speak 153 = .ok (.iload 6, 2) := by decide +kernel
theorem dX6_speak_155 : decode cX6_speak 155 = .ok (.aload_n 0, 1) := by decide +kernel
theorem dX6_speak_156 : decode cX6_speak 156 = .ok (.getfield 43, 3) := by decide +kernel
theorem dX6_speak_159 : decode cX6_speak 159 = .ok (.iload 5, 2) := by decide +kernel
theorem dX6_speak_161 : decode cX6_speak 161 = .ok (.invokevirtual 87, 3) := by decide +kernel
theorem dX6_speak_164 : decode cX6_speak 164 = .ok (.ifCond .eq 11, 3) := by decide +kernel
theorem dX6_speak_167 : decode cX6_speak 167 = .ok (.bipush 100, 2) := by decide +kernel
theorem dX6_speak_169 : decode cX6_speak 169 = .ok (.iload 6, 2) := by decide +kernel
theorem dX6_speak_171 : decode cX6_speak 171 = .ok (.iadd, 1) := by decide +kernel
theorem dX6_speak_172 : decode cX6_speak 172 = .ok (.goto 5, 3) := by decide +kernel
theorem dX6_speak_175 : decode cX6_speak 175 = .ok (.iload 6, 2) := by decide +kernel
theorem dX6_speak_177 : decode cX6_speak 177 = .ok (.ireturn, 1) := by decide +kernel
theorem dX6_stateBehind_0 : decode cX6_stateBehind 0 = .ok (.iload_n 2, 1) := by decide +kernel
theorem dX6_stateBehind_1 : decode cX6_stateBehind 1 = .ok (.bipush 100, 2) := by decide +kernel
theorem dX6_stateBehind_3 : decode cX6_stateBehind 3 = .ok (.irem, 1) := by decide +kernel
theorem dX6_stateBehind_4 : decode cX6_stateBehind 4 = .ok (.istore_n 3, 1) := by decide +kernel
theorem dX6_stateBehind_5 : decode cX6_stateBehind 5 = .ok (.iload_n 2, 1) := by decide +kernel
theorem dX6_stateBehind_6 : decode cX6_stateBehind 6 = .ok (.bipush 100, 2) := by decide +kernel
theorem dX6_stateBehind_8 : decode cX6_stateBehind 8 = .ok (.if_icmp .ge 13, 3) := by decide +kernel
theorem dX6_stateBehind_11 : decode cX6_stateBehind 11 = .ok (.iload_n 1, 1) := by decide +kernel
theorem dX6_stateBehind_12 : decode cX6_stateBehind 12 = .ok (.iconst 1, 1) := by decide +kernel
theorem dX6_stateBehind_13 : decode cX6_stateBehind 13 = .ok (.iload_n 3, 1) := by decide +kernel
theorem dX6_stateBehind_14 : decode cX6_stateBehind 14 = .ok (.ishl, 1) := by decide +kernel
theorem dX6_stateBehind_15 : decode cX6_stateBehind 15 = .ok (.iconst (-1), 1) := by decide +kernel
theorem dX6_stateBehind_16 : decode cX6_stateBehind 16 = .ok (.ixor, 1) := by decide +kernel
theorem dX6_stateBehind_17 : decode cX6_stateBehind 17 = .ok (.iand, 1) := by decide +kernel
theorem dX6_stateBehind_18 : decode cX6_stateBehind 18 = .ok (.goto 4, 3) := by decide +kernel
theorem dX6_stateBehind_21 : decode cX6_stateBehind 21 = .ok (.iload_n 1, 1) := by decide +kernel
theorem dX6_stateBehind_22 : decode cX6_stateBehind 22 = .ok (.istore 4, 2) := by decide +kernel
theorem dX6_stateBehind_24 : decode cX6_stateBehind 24 = .ok (.iload_n 3, 1) := by decide +kernel
theorem dX6_stateBehind_25 : decode cX6_stateBehind 25 = .ok (.iconst 1, 1) := by decide +kernel
theorem dX6_stateBehind_26 : decode cX6_stateBehind 26 = .ok (.iadd, 1) := by decide +kernel
theorem dX6_stateBehind_27 : decode cX6_stateBehind 27 = .ok (.aload_n 0, 1) := by decide +kernel
theorem dX6_stateBehind_28 : decode cX6_stateBehind 28 = .ok (.getfield 46, 3) := by decide +kernel
theorem dX6_stateBehind_31 : decode cX6_stateBehind 31 = .ok (.getfield 91, 3) := by decide +kernel
theorem dX6_stateBehind_34 : decode cX6_stateBehind 34 = .ok (.if_icmp .ge 9, 3) := by decide +kernel
theorem dX6_stateBehind_37 : decode cX6_stateBehind 37 = .ok (.iload_n 3, 1) := by decide +kernel
theorem dX6_stateBehind_38 : decode cX6_stateBehind 38 = .ok (.iconst 1, 1) := by decide +kernel
theorem dX6_stateBehind_39 : decode cX6_stateBehind 39 = .ok (.iadd, 1) := by decide +kernel
theorem dX6_stateBehind_40 : decode cX6_stateBehind 40 = .ok (.goto 4, 3) := by decide +kernel
theorem dX6_stateBehind_43 : decode cX6_stateBehind 43 = .ok (.iconst 0, 1) := by decide +kernel
theorem dX6_stateBehind_44 : decode cX6_stateBehind 44 = .ok (.istore 5, 2) := by decide +kernel
theorem dX6_stateBehind_46 : decode cX6_stateBehind 46 = .ok (.iload 4, 2) := by decide +kernel
theorem dX6_stateBehind_48 : decode cX6_stateBehind 48 = .ok (.bipush 6, 2) := by decide +kernel
theorem dX6_stateBehind_50 : decode cX6_stateBehind 50 = .ok (.imul, 1) := by decide +kernel
theorem dX6_stateBehind_51 : decode cX6_stateBehind 51 = .ok (.iload 5, 2) := by decide +kernel
theorem dX6_stateBehind_53 : decode cX6_stateBehind 53 = .ok (.iadd, 1) := by decide +kernel
theorem dX6_stateBehind_54 : decode cX6_stateBehind 54 = .ok (.ireturn, 1) := by decide +kernel
theorem dX6_after_0 : decode cX6_after 0 = .ok (.iload_n 2, 1) := by decide +kernel
theorem dX6_after_1 : decode cX6_after 1 = .ok (.sipush 384, 3) := by decide +kernel
theorem dX6_after_4 : decode cX6_after 4 = .ok (.imul, 1) := by decide +kernel
theorem dX6_after_5 : decode cX6_after 5 = .ok (.iload_n 1, 1) := by decide +kernel
theorem dX6_after_6 : decode cX6_after 6 = .ok (.iadd, 1) := by decide +kernel
theorem dX6_after_7 : decode cX6_after 7 = .ok (.istore_n 3, 1) := by decide +kernel
theorem dX6_after_8 : decode cX6_after 8 = .ok (.iload_n 3, 1) := by decide +kernel
theorem dX6_after_9 : decode cX6_after 9 = .ok (.ifCond .lt 12, 3) := by decide +kernel
theorem dX6_after_12 : decode cX6_after 12 = .ok (.iload_n 3, 1) := by decide +kernel
theorem dX6_after_13 : decode cX6_after 13 = .ok (.aload_n 0, 1) := by decide +kernel
theorem dX6_after_14 : decode cX6_after 14 = .ok (.getfield 26, 3) := by decide +kernel
theorem dX6_after_17 : decode cX6_after 17 = .ok (.arraylength, 1) := by decide +kernel
theorem dX6_after_18 : decode cX6_after 18 = .ok (.if_icmp .lt 5, 3) := by decide +kernel
theorem dX6_after_21 : decode cX6_after 21 = .ok (.iload_n 1, 1) := by decide +kernel
theorem dX6_after_22 : decode cX6_after 22 = .ok (.ireturn, 1) := by decide +kernel
theorem dX6_after_23 : decode cX6_after 23 = .ok (.aload_n 0, 1) := by decide +kernel
theorem dX6_after_24 : decode cX6_after 24 = .ok (.getfield 26, 3) := by decide +kernel
theorem dX6_after_27 : decode cX6_after 27 = .ok (.iload_n 3, 1) := by decide +kernel
theorem dX6_after_28 : decode cX6_after 28 = .ok (.iaload, 1) := by decide +kernel
theorem dX6_after_29 : decode cX6_after 29 = .ok (.sipush 384, 3) := by decide +kernel
theorem dX6_after_32 : decode cX6_after 32 = .ok (.idiv, 1) := by decide +kernel
theorem dX6_after_33 : decode cX6_after 33 = .ok (.aload_n 0, 1) := by decide +kernel
theorem dX6_after_34 : decode cX6_after 34 = .ok (.getfield 29, 3) := by decide +kernel
theorem dX6_after_37 : decode cX6_after 37 = .ok (.if_icmp .eq 46, 3) := by decide +kernel
theorem dX6_after_40 : decode cX6_after 40 = .ok (.iload_n 1, 1) := by decide +kernel
theorem dX6_after_41 : decode cX6_after 41 = .ok (.bipush 6, 2) := by decide +kernel
theorem dX6_after_43 : decode cX6_after 43 = .ok (.idiv, 1) := by decide +kernel
theorem dX6_after_44 : decode cX6_after 44 = .ok (.istore 4, 2) := by decide +kernel
theorem dX6_after_46 : decode cX6_after 46 = .ok (.aload_n 0, 1) := by decide +kernel
theorem dX6_after_47 : decode cX6_after 47 = .ok (.iload 4, 2) := by decide +kernel
theorem dX6_after_49 : decode cX6_after 49 = .ok (.aload_n 0, 1) := by decide +kernel
theorem dX6_after_50 : decode cX6_after 50 = .ok (.iload 4, 2) := by decide +kernel
theorem dX6_after_52 : decode cX6_after 52 = .ok (.iload_n 1, 1) := by decide +kernel
theorem dX6_after_53 : decode cX6_after 53 = .ok (.bipush 6, 2) := by decide +kernel
theorem dX6_after_55 : decode cX6_after 55 = .ok (.irem, 1) := by decide +kernel
theorem dX6_after_56 : decode cX6_after 56 = .ok (.iload_n 2, 1) := by decide +kernel
theorem dX6_after_57 : decode cX6_after 57 = .ok (.iconst 0, 1) := by decide +kernel
theorem dX6_after_58 : decode cX6_after 58 = .ok (.invokevirtual 94, 3) := by decide +kernel
theorem dX6_after_61 : decode cX6_after 61 = .ok (.invokevirtual 98, 3) := by decide +kernel
theorem dX6_after_64 : decode cX6_after 64 = .ok (.istore 5, 2) := by decide +kernel
theorem dX6_after_66 : decode cX6_after 66 = .ok (.aload_n 0, 1) := by decide +kernel
theorem dX6_after_67 : decode cX6_after 67 = .ok (.getfield 26, 3) := by decide +kernel
theorem dX6_after_70 : decode cX6_after 70 = .ok (.iload_n 3, 1) := by decide +kernel
theorem dX6_after_71 : decode cX6_after 71 = .ok (.aload_n 0, 1) := by decide +kernel
theorem dX6_after_72 : decode cX6_after 72 = .ok (.getfield 29, 3) := by decide +kernel
theorem dX6_after_75 : decode cX6_after 75 = .ok (.sipush 384, 3) := by decide +kernel
theorem dX6_after_78 : decode cX6_after 78 = .ok (.imul, 1) := by decide +kernel
theorem dX6_after_79 : decode cX6_after 79 = .ok (.iload 5, 2) := by decide +kernel
theorem dX6_after_81 : decode cX6_after 81 = .ok (.iadd, 1) := by decide +kernel
theorem dX6_after_82 : decode cX6_after 82 = .ok (.iastore, 1) := by decide +kernel
theorem dX6_after_83 : decode cX6_after 83 = .ok (.aload_n 0, 1) := by decide +kernel
theorem dX6_after_84 : decode cX6_after 84 = .ok (.getfield 26, 3) := by decide +kernel
theorem dX6_after_87 : decode cX6_after 87 = .ok (.iload_n 3, 1) := by decide +kernel
theorem dX6_after_88 : decode cX6_after 88 = .ok (.iaload, 1) := by decide +kernel
theorem dX6_after_89 : decode cX6_after 89 = .ok (.sipush 384, 3) := by decide +kernel
theorem dX6_after_92 : decode cX6_after 92 = .ok (.irem, 1) := by decide +kernel
theorem dX6_after_93 : decode cX6_after 93 = .ok (.ireturn, 1) := by decide +kernel
theorem dX6_firstIn_0 : decode cX6_firstIn 0 = .ok (.iload_n 1, 1) := by decide +kernel
theorem dX6_firstIn_1 : decode cX6_firstIn 1 = .ok (.iload_n 2, 1) := by decide +kernel
theorem dX6_firstIn_2 : decode cX6_firstIn 2 = .ok (.ishr, 1) := by decide +kernel
theorem dX6_firstIn_3 : decode cX6_firstIn 3 = .ok (.iconst 1, 1) := by decide +kernel
theorem dX6_firstIn_4 : decode cX6_firstIn 4 = .ok (.iand, 1) := by decide +kernel
theorem dX6_firstIn_5 : decode cX6_firstIn 5 = .ok (.iconst 1, 1) := by decide +kernel
theorem dX6_firstIn_6 : decode cX6_firstIn 6 = .ok (.if_icmp .ne 7, 3) := by decide +kernel
theorem dX6_firstIn_9 : decode cX6_firstIn 9 = .ok (.iload_n 2, 1) := by decide +kernel
theorem dX6_firstIn_10 : decode cX6_firstIn 10 = .ok (.goto 10, 3) := by decide +kernel
theorem dX6_firstIn_13 : decode cX6_firstIn 13 = .ok (.aload_n 0, 1) := by decide +kernel
theorem dX6_firstIn_14 : decode cX6_firstIn 14 = .ok (.iload_n 1, 1) := by decide +kernel
theorem dX6_firstIn_15 : decode cX6_firstIn 15 = .ok (.iload_n 2, 1) := by decide +kernel
theorem dX6_firstIn_16 : decode cX6_firstIn 16 = .ok (.iconst 1, 1) := by decide +kernel
theorem dX6_firstIn_17 : decode cX6_firstIn 17 = .ok (.invokevirtual 84, 3) := by decide +kernel
theorem dX6_firstIn_20 : decode cX6_firstIn 20 = .ok (.ireturn, 1) := by decide +kernel
theorem dX6_nextIn_0 : decode cX6_nextIn 0 = .ok (.iload_n 2, 1) := by decide +kernel
theorem dX6_nextIn_1 : decode cX6_nextIn 1 = .ok (.istore 4, 2) := by decide +kernel
theorem dX6_nextIn_3 : decode cX6_nextIn 3 = .ok (.iconst 0, 1) := by decide +kernel
theorem dX6_nextIn_4 : decode cX6_nextIn 4 = .ok (.istore 5, 2) := by decide +kernel
theorem dX6_nextIn_6 : decode cX6_nextIn 6 = .ok (.iload 5, 2) := by decide +kernel
theorem dX6_nextIn_8 : decode cX6_nextIn 8 = .ok (.aload_n 0, 1) := by decide +kernel
theorem dX6_nextIn_9 : decode cX6_nextIn 9 = .ok (.getfield 46, 3) := by decide +kernel
theorem dX6_nextIn_12 : decode cX6_nextIn 12 = .ok (.getfield 91, 3) := by decide +kernel
theorem dX6_nextIn_15 : decode cX6_nextIn 15 = .ok (.if_icmp .ge 62, 3) := by decide +kernel
theorem dX6_nextIn_18 : decode cX6_nextIn 18 = .ok (.iload 4, 2) := by decide +kernel
theorem dX6_nextIn_20 : decode cX6_nextIn 20 = .ok (.iload_n 3, 1) := by decide +kernel
theorem dX6_nextIn_21 : decode cX6_nextIn 21 = .ok (.iadd, 1) := by decide +kernel
theorem dX6_nextIn_22 : decode cX6_nextIn 22 = .ok (.istore 4, 2) := by decide +kernel
theorem dX6_nextIn_24 : decode cX6_nextIn 24 = .ok (.iload 4, 2) := by decide +kernel
theorem dX6_nextIn_26 : decode cX6_nextIn 26 = .ok (.aload_n 0, 1) := by decide +kernel
theorem dX6_nextIn_27 : decode cX6_nextIn 27 = .ok (.getfield 46, 3) := by decide +kernel
theorem dX6_nextIn_30 : decode cX6_nextIn 30 = .ok (.getfield 91, 3) := by decide +kernel
theorem dX6_nextIn_33 : decode cX6_nextIn 33 = .ok (.if_icmp .lt 9, 3) := by decide +kernel
theorem dX6_nextIn_36 : decode cX6_nextIn 36 = .ok (.iconst 0, 1) := by decide +kernel
theorem dX6_nextIn_37 : decode cX6_nextIn 37 = .ok (.istore 4, 2) := by decide +kernel
theorem dX6_nextIn_39 : decode cX6_nextIn 39 = .ok (.goto 19, 3) := by decide +kernel
theorem dX6_nextIn_42 : decode cX6_nextIn 42 = .ok (.iload 4, 2) := by decide +kernel
theorem dX6_nextIn_44 : decode cX6_nextIn 44 = .ok (.ifCond .ge 14, 3) := by decide +kernel
theorem dX6_nextIn_47 : decode cX6_nextIn 47 = .ok (.aload_n 0, 1) := by decide +kernel
theorem dX6_nextIn_48 : decode cX6_nextIn 48 = .ok (.getfield 46, 3) := by decide +kernel
theorem dX6_nextIn_51 : decode cX6_nextIn 51 = .ok (.getfield 91, 3) := by decide +kernel
theorem dX6_nextIn_54 : decode cX6_nextIn 54 = .ok (.iconst 1, 1) := by decide +kernel
theorem dX6_nextIn_55 : decode cX6_nextIn 55 = .ok (.isub, 1) := by decide +kernel
theorem dX6_nextIn_56 : decode cX6_nextIn 56 = .ok (.istore 4, 2) := by decide +kernel
theorem dX6_nextIn_58 : decode cX6_nextIn 58 = .ok (.iload_n 1, 1) := by decide +kernel
theorem dX6_nextIn_59 : decode cX6_nextIn 59 = .ok (.iload 4, 2) := by decide +kernel
theorem dX6_nextIn_61 : decode cX6_nextIn 61 = .ok (.ishr, 1) := by decide +kernel
theorem dX6_nextIn_62 : decode cX6_nextIn 62 = .ok (.iconst 1, 1) := by decide +kernel
theorem dX6_nextIn_63 : decode cX6_nextIn 63 = .ok (.iand, 1) := by decide +kernel
theorem dX6_nextIn_64 : decode cX6_nextIn 64 = .ok (.iconst 1, 1) := by decide +kernel
theorem dX6_nextIn_65 : decode cX6_nextIn 65 = .ok (.if_icmp .ne 6, 3) := by decide +kernel
theorem dX6_nextIn_68 : decode cX6_nextIn 68 = .ok (.iload 4, 2) := by decide +kernel
theorem dX6_nextIn_70 : decode cX6_nextIn 70 = .ok (.ireturn, 1) := by decide +kernel
theorem dX6_nextIn_71 : decode cX6_nextIn 71 = .ok (.iinc 5 1, 3) := by decide +kernel
theorem dX6_nextIn_74 : decode cX6_nextIn 74 = .ok (.goto (-68), 3) := by decide +kernel
theorem dX6_nextIn_77 : decode cX6_nextIn 77 = .ok (.iload_n 2, 1) := by decide +kernel
theorem dX6_nextIn_78 : decode cX6_nextIn 78 = .ok (.ireturn, 1) := by decide +kernel
theorem dX6_lengthOf_0 : decode cX6_lengthOf 0 = .ok (.aload_n 0, 1) := by decide +kernel
theorem dX6_lengthOf_1 : decode cX6_lengthOf 1 = .ok (.getfield 46, 3) := by decide +kernel
theorem dX6_lengthOf_4 : decode cX6_lengthOf 4 = .ok (.getfield 101, 3) := by decide +kernel
theorem dX6_lengthOf_7 : decode cX6_lengthOf 7 = .ok (.iload_n 1, 1) := by decide +kernel
theorem dX6_lengthOf_8 : decode cX6_lengthOf 8 = .ok (.iaload, 1) := by decide +kernel
theorem dX6_lengthOf_9 : decode cX6_lengthOf 9 = .ok (.istore 4, 2) := by decide +kernel
theorem dX6_lengthOf_11 : decode cX6_lengthOf 11 = .ok (.aload_n 0, 1) := by decide +kernel
theorem dX6_lengthOf_12 : decode cX6_lengthOf 12 = .ok (.getfield 33, 3) := by decide +kernel
theorem dX6_lengthOf_15 : decode cX6_lengthOf 15 = .ok (.ifnull 14, 3) := by decide +kernel
theorem dX6_lengthOf_18 : decode cX6_lengthOf 18 = .ok (.aload_n 0, 1) := by decide +kernel
theorem dX6_lengthOf_19 : decode cX6_lengthOf 19 = .ok (.getfield 33, 3) := by decide +kernel
theorem dX6_lengthOf_22 : decode cX6_lengthOf 22 = .ok (.iconst 0, 1) := by decide +kernel
theorem dX6_lengthOf_23 : decode cX6_lengthOf 23 = .ok (.invokevirtual 104, 3) := by decide +kernel
theorem dX6_lengthOf_26 : decode cX6_lengthOf 26 = .ok (.ifCond .ne 6, 3) := by decide +kernel
theorem dX6_lengthOf_29 : decode cX6_lengthOf 29 = .ok (.iload 4, 2) := by decide +kernel
theorem dX6_lengthOf_31 : decode cX6_lengthOf 31 = .ok (.ireturn, 1) := by decide +kernel
theorem dX6_lengthOf_32 : decode cX6_lengthOf 32 = .ok (.aload_n 0, 1) := by decide +kernel
theorem dX6_lengthOf_33 : decode cX6_lengthOf 33 = .ok (.iload_n 1, 1) := by decide +kernel
theorem dX6_lengthOf_34 : decode cX6_lengthOf 34 = .ok (.iload_n 2, 1) := by decide +kernel
theorem dX6_lengthOf_35 : decode cX6_lengthOf 35 = .ok (.iconst 0, 1) := by decide +kernel
theorem dX6_lengthOf_36 : decode cX6_lengthOf 36 = .ok (.iload_n 3, 1) := by decide +kernel
theorem dX6_lengthOf_37 : decode cX6_lengthOf 37 = .ok (.invokevirtual 108, 3) := by decide +kernel
theorem dX6_lengthOf_40 : decode cX6_lengthOf 40 = .ok (.aload_n 0, 1) := by decide +kernel
theorem dX6_lengthOf_41 : decode cX6_lengthOf 41 = .ok (.getfield 33, 3) := by decide +kernel
theorem dX6_lengthOf_44 : decode cX6_lengthOf 44 = .ok (.getfield 112, 3) := by decide +kernel
theorem dX6_lengthOf_47 : decode cX6_lengthOf 47 = .ok (.iconst 1, 1) := by decide +kernel
theorem dX6_lengthOf_48 : decode cX6_lengthOf 48 = .ok (.isub, 1) := by decide +kernel
theorem dX6_lengthOf_49 : decode cX6_lengthOf 49 = .ok (.istore 5, 2) := by decide +kernel
theorem dX6_lengthOf_51 : decode cX6_lengthOf 51 = .ok (.iload 5, 2) := by decide +kernel
theorem dX6_lengthOf_53 : decode cX6_lengthOf 53 = .ok (.ifCond .lt 106, 3) := by decide +kernel
theorem dX6_lengthOf_56 : decode cX6_lengthOf 56 = .ok (.aload_n 0, 1) := by decide +kernel
theorem dX6_lengthOf_57 : decode cX6_lengthOf 57 = .ok (.getfield 33, 3) := by decide +kernel
theorem dX6_lengthOf_60 : decode cX6_lengthOf 60 = .ok (.getfield 115, 3) := by decide +kernel
theorem dX6_lengthOf_63 : decode cX6_lengthOf 63 = .ok (.iload 5, 2) := by decide +kernel
theorem dX6_lengthOf_65 : decode cX6_lengthOf 65 = .ok (.iaload, 1) := by decide +kernel
theorem dX6_lengthOf_66 : decode cX6_lengthOf 66 = .ok (.istore 6, 2) := by decide +kernel
theorem dX6_lengthOf_68 : decode cX6_lengthOf 68 = .ok (.aload_n 0, 1) := by decide +kernel
theorem dX6_lengthOf_69 : decode cX6_lengthOf 69 = .ok (.getfield 33, 3) := by decide +kernel
theorem dX6_lengthOf_72 : decode cX6_lengthOf 72 = .ok (.getfield 118, 3) := by decide +kernel
theorem dX6_lengthOf_75 : decode cX6_lengthOf 75 = .ok (.iload 5, 2) := by decide +kernel
theorem dX6_lengthOf_77 : decode cX6_lengthOf 77 = .ok (.iaload, 1) := by decide +kernel
theorem dX6_lengthOf_78 : decode cX6_lengthOf 78 = .ok (.ifCond .ne 75, 3) := by decide +kernel
theorem dX6_lengthOf_81 : decode cX6_lengthOf 81 = .ok (.iload 6, 2) := by decide +kernel
theorem dX6_lengthOf_83 : decode cX6_lengthOf 83 = .ok (.ifCond .eq 24, 3) := by decide +kernel
theorem dX6_lengthOf_86 : decode cX6_lengthOf 86 = .ok (.aload_n 0, 1) := by decide +kernel
theorem dX6_lengthOf_87 : decode cX6_lengthOf 87 = .ok (.getfield 33, 3) := by decide +kernel
theorem dX6_lengthOf_90 : decode cX6_lengthOf 90 = .ok (.iload 6, 2) := by decide +kernel
theorem dX6_lengthOf_92 : decode cX6_lengthOf 92 = .ok (.aload_n 0, 1) := by decide +kernel
theorem dX6_lengthOf_93 : decode cX6_lengthOf 93 = .ok (.getfield 9, 3) := by decide +kernel
theorem dX6_lengthOf_96 : decode cX6_lengthOf 96 = .ok (.aload_n 0, 1) := by decide +kernel
theorem dX6_lengthOf_97 : decode cX6_lengthOf 97 = .ok (.getfield 17, 3) := by decide +kernel
theorem dX6_lengthOf_100 : decode cX6_lengthOf 100 = .ok (.invokevirtual 121, 3) := by decide +kernel
theorem dX6_lengthOf_103 : decode cX6_lengthOf 103 = .ok (.iconst 1, 1) := by decide +kernel
theorem dX6_lengthOf_104 : decode cX6_lengthOf 104 = .ok (.if_icmp .ne 49, 3) := by decide +kernel
theorem dX6_lengthOf_107 : decode cX6_lengthOf 107 = .ok (.aload_n 0, 1) := by decide +kernel
theorem dX6_lengthOf_108 : decode cX6_lengthOf 108 = .ok (.getfield 33, 3) := by decide +kernel
theorem dX6_lengthOf_111 : decode cX6_lengthOf 111 = .ok (.aload_n 0, 1) := by decide +kernel
theorem dX6_lengthOf_112 : decode cX6_lengthOf 112 = .ok (.getfield 33, 3) := by decide +kernel
theorem dX6_lengthOf_115 : decode cX6_lengthOf 115 = .ok (.getfield 125, 3) := by decide +kernel
theorem dX6_lengthOf_118 : decode cX6_lengthOf 118 = .ok (.iload 5, 2) := by decide +kernel
theorem dX6_lengthOf_120 : decode cX6_lengthOf 120 = .ok (.iaload, 1) := by decide +kernel
theorem dX6_lengthOf_121 : decode cX6_lengthOf 121 = .ok (.aload_n 0, 1) := by decide +kernel
theorem dX6_lengthOf_122 : decode cX6_lengthOf 122 = .ok (.getfield 9, 3) := by decide +kernel
theorem dX6_lengthOf_125 : decode cX6_lengthOf 125 = .ok (.aload_n 0, 1) := by decide +kernel
theorem dX6_lengthOf_126 : decode cX6_lengthOf 126 = .ok (.getfield 17, 3) := by decide +kernel
theorem dX6_lengthOf_129 : decode cX6_lengthOf 129 = .ok (.invokevirtual 121, 3) := by decide +kernel
theorem dX6_lengthOf_132 : decode cX6_lengthOf 132 = .ok (.istore 7, 2) := by decide +kernel
theorem dX6_lengthOf_134 : decode cX6_lengthOf 134 = .ok (.iload 7, 2) := by decide +kernel
theorem dX6_lengthOf_136 : decode cX6_lengthOf 136 = .ok (.ldc 128, 2) := by decide +kernel
theorem dX6_lengthOf_138 : decode cX6_lengthOf 138 = .ok (.if_icmp .eq 15, 3) := by decide +kernel
theorem dX6_lengthOf_141 : decode cX6_lengthOf 141 = .ok (.iconst 1, 1) := by decide +kernel
theorem dX6_lengthOf_142 : decode cX6_lengthOf 142 = .ok (.bipush 15, 2) := by decide +kernel
theorem dX6_lengthOf_144 : decode cX6_lengthOf 144 = .ok (.iload 7, 2) := by decide +kernel
theorem dX6_lengthOf_146 : decode cX6_lengthOf 146 = .ok (.invokestatic 129, 3) := by decide +kernel
theorem dX6_lengthOf_149 : decode cX6_lengthOf 149 = .ok (.invokestatic 79, 3) := by decide +kernel
theorem dX6_lengthOf_152 : decode cX6_lengthOf 152 = .ok (.ireturn, 1) := by decide +kernel
theorem dX6_lengthOf_153 : decode cX6_lengthOf 153 = .ok (.iinc 5 (-1), 3) := by decide +kernel
theorem dX6_lengthOf_156 : decode cX6_lengthOf 156 = .ok (.goto (-105), 3) := by decide +kernel
theorem dX6_lengthOf_159 : decode cX6_lengthOf 159 = .ok (.iload 4, 2) := by decide +kernel
theorem dX6_lengthOf_161 : decode cX6_lengthOf 161 = .ok (.ireturn, 1) := by decide +kernel
theorem dX6_isSo_0 : decode cX6_isSo 0 = .ok (.iload_n 2, 1) := by decide +kernel
theorem dX6_isSo_1 : decode cX6_isSo 1 = .ok (.bipush 6, 2) := by decide +kernel
theorem dX6_isSo_3 : decode cX6_isSo 3 = .ok (.imul, 1) := by decide +kernel
theorem dX6_isSo_4 : decode cX6_isSo 4 = .ok (.iload_n 3, 1) := by decide +kernel
theorem dX6_isSo_5 : decode cX6_isSo 5 = .ok (.iadd, 1) := by decide +kernel
theorem dX6_isSo_6 : decode cX6_isSo 6 = .ok (.bipush 16, 2) := by decide +kernel
theorem dX6_isSo_8 : decode cX6_isSo 8 = .ok (.imul, 1) := by decide +kernel
theorem dX6_isSo_9 : decode cX6_isSo 9 = .ok (.iload 4, 2) := by decide +kernel
theorem dX6_isSo_11 : decode cX6_isSo 11 = .ok (.iadd, 1) := by decide +kernel
theorem dX6_isSo_12 : decode cX6_isSo 12 = .ok (.bipush 7, 2) := by decide +kernel
theorem dX6_isSo_14 : decode cX6_isSo 14 = .ok (.imul, 1) := by decide +kernel
theorem dX6_isSo_15 : decode cX6_isSo 15 = .ok (.iload 5, 2) := by decide +kernel
theorem dX6_isSo_17 : decode cX6_isSo 17 = .ok (.iadd, 1) := by decide +kernel
theorem dX6_isSo_18 : decode cX6_isSo 18 = .ok (.istore 6, 2) := by decide +kernel
theorem dX6_isSo_20 : decode cX6_isSo 20 = .ok (.aload_n 0, 1) := by decide +kernel
theorem dX6_isSo_21 : decode cX6_isSo 21 = .ok (.getfield 33, 3) := by decide +kernel
theorem dX6_isSo_24 : decode cX6_isSo 24 = .ok (.ifnull 29, 3) := by decide +kernel
theorem dX6_isSo_27 : decode cX6_isSo 27 = .ok (.aload_n 0, 1) := by decide +kernel
theorem dX6_isSo_28 : decode cX6_isSo 28 = .ok (.getfield 33, 3) := by decide +kernel
theorem dX6_isSo_31 : decode cX6_isSo 31 = .ok (.iload_n 1, 1) := by decide +kernel
theorem dX6_isSo_32 : decode cX6_isSo 32 = .ok (.invokevirtual 104, 3) := by decide +kernel
theorem dX6_isSo_35 : decode cX6_isSo 35 = .ok (.ifCond .eq 18, 3) := by decide +kernel
theorem dX6_isSo_38 : decode cX6_isSo 38 = .ok (.iload 6, 2) := by decide +kernel
theorem dX6_isSo_40 : decode cX6_isSo 40 = .ok (.ifCond .lt 13, 3) := by decide +kernel
theorem dX6_isSo_43 : decode cX6_isSo 43 = .ok (.iload 6, 2) := by decide +kernel
theorem dX6_isSo_45 : decode cX6_isSo 45 = .ok (.aload_n 0, 1) := by decide +kernel
theorem dX6_isSo_46 : decode cX6_isSo 46 = .ok (.getfield 23, 3) := by decide +kernel
theorem dX6_isSo_49 : decode cX6_isSo 49 = .ok (.arraylength, 1) := by decide +kernel
theorem dX6_isSo_50 : decode cX6_isSo 50 = .ok (.if_icmp .lt 5, 3) := by decide +kernel
theorem dX6_isSo_53 : decode cX6_isSo 53 = .ok (.iconst 0, 1) := by decide +kernel
theorem dX6_isSo_54 : decode cX6_isSo 54 = .ok (.ireturn, 1) := by decide +kernel
theorem dX6_isSo_55 : decode cX6_isSo 55 = .ok (.aload_n 0, 1) := by decide +kernel
theorem dX6_isSo_56 : decode cX6_isSo 56 = .ok (.getfield 23, 3) := by decide +kernel
theorem dX6_isSo_59 : decode cX6_isSo 59 = .ok (.iload 6, 2) := by decide +kernel
theorem dX6_isSo_61 : decode cX6_isSo 61 = .ok (.iaload, 1) := by decide +kernel
theorem dX6_isSo_62 : decode cX6_isSo 62 = .ok (.bipush 8, 2) := by decide +kernel
theorem dX6_isSo_64 : decode cX6_isSo 64 = .ok (.ishr, 1) := by decide +kernel
theorem dX6_isSo_65 : decode cX6_isSo 65 = .ok (.aload_n 0, 1) := by decide +kernel
theorem dX6_isSo_66 : decode cX6_isSo 66 = .ok (.getfield 29, 3) := by decide +kernel
theorem dX6_isSo_69 : decode cX6_isSo 69 = .ok (.if_icmp .ne 13, 3) := by decide +kernel
theorem dX6_isSo_72 : decode cX6_isSo 72 = .ok (.aload_n 0, 1) := by decide +kernel
theorem dX6_isSo_73 : decode cX6_isSo 73 = .ok (.getfield 23, 3) := by decide +kernel
theorem dX6_isSo_76 : decode cX6_isSo 76 = .ok (.iload 6, 2) := by decide +kernel
theorem dX6_isSo_78 : decode cX6_isSo 78 = .ok (.iaload, 1) := by decide +kernel
theorem dX6_isSo_79 : decode cX6_isSo 79 = .ok (.goto 10, 3) := by decide +kernel
theorem dX6_isSo_82 : decode cX6_isSo 82 = .ok (.aload_n 0, 1) := by decide +kernel
theorem dX6_isSo_83 : decode cX6_isSo 83 = .ok (.getfield 29, 3) := by decide +kernel
theorem dX6_isSo_86 : decode cX6_isSo 86 = .ok (.bipush 8, 2) := by decide +kernel
theorem dX6_isSo_88 : decode cX6_isSo 88 = .ok (.ishl, 1) := by decide +kernel
theorem dX6_isSo_89 : decode cX6_isSo 89 = .ok (.istore 7, 2) := by decide +kernel
theorem dX6_isSo_91 : decode cX6_isSo 91 = .ok (.iload 7, 2) := by decide +kernel
theorem dX6_isSo_93 : decode cX6_isSo 93 = .ok (.iload_n 1, 1) := by decide +kernel
theorem dX6_isSo_94 : decode cX6_isSo 94 = .ok (.ishr, 1) := by decide +kernel
theorem dX6_isSo_95 : decode cX6_isSo 95 = .ok (.iconst 1, 1) := by decide +kernel
theorem dX6_isSo_96 : decode cX6_isSo 96 = .ok (.iand, 1) := by decide +kernel
theorem dX6_isSo_97 : decode cX6_isSo 97 = .ok (.iconst 1, 1) := by decide +kernel
theorem dX6_isSo_98 : decode cX6_isSo 98 = .ok (.if_icmp .ne 19, 3) := by decide +kernel
theorem dX6_isSo_101 : decode cX6_isSo 101 = .ok (.iload 7, 2) := by decide +kernel
theorem dX6_isSo_103 : decode cX6_isSo 103 = .ok (.iload_n 1, 1) := by decide +kernel
theorem dX6_isSo_104 : decode cX6_isSo 104 = .ok (.ishr, 1) := by decide +kernel
theorem dX6_isSo_105 : decode cX6_isSo 105 = .ok (.bipush 16, 2) := by decide +kernel
theorem dX6_isSo_107 : decode cX6_isSo 107 = .ok (.iand, 1) := by decide +kernel
theorem dX6_isSo_108 : decode cX6_isSo 108 = .ok (.ifCond .eq 7, 3) := by decide +kernel
theorem dX6_isSo_111 : decode cX6_isSo 111 = .ok (.iconst 1, 1) := by decide +kernel
theorem dX6_isSo_112 : decode cX6_isSo 112 = .ok (.goto 4, 3) := by decide +kernel
theorem dX6_isSo_115 : decode cX6_isSo 115 = .ok (.iconst 0, 1) := by decide +kernel
theorem dX6_isSo_116 : decode cX6_isSo 116 = .ok (.ireturn, 1) := by decide +kernel
theorem dX6_isSo_117 : decode cX6_isSo 117 = .ok (.iconst 0, 1) := by decide +kernel
theorem dX6_isSo_118 : decode cX6_isSo 118 = .ok (.istore 8, 2) := by decide +kernel
theorem dX6_isSo_120 : decode cX6_isSo 120 = .ok (.aload_n 0, 1) := by decide +kernel
theorem dX6_isSo_121 : decode cX6_isSo 121 = .ok (.iload_n 2, 1) := by decide +kernel
theorem dX6_isSo_122 : decode cX6_isSo 122 = .ok (.iload_n 3, 1) := by decide +kernel
theorem dX6_isSo_123 : decode cX6_isSo 123 = .ok (.iload 4, 2) := by decide +kernel
theorem dX6_isSo_125 : decode cX6_isSo 125 = .ok (.iload 5, 2) := by decide +kernel
theorem dX6_isSo_127 : decode cX6_isSo 127 = .ok (.invokevirtual 108, 3) := by decide +kernel
theorem dX6_isSo_130 : decode cX6_isSo 130 = .ok (.iconst 0, 1) := by decide +kernel
theorem dX6_isSo_131 : decode cX6_isSo 131 = .ok (.istore 9, 2) := by decide +kernel
theorem dX6_isSo_133 : decode cX6_isSo 133 = .ok (.iload 9, 2) := by decide +kernel
theorem dX6_isSo_135 : decode cX6_isSo 135 = .ok (.aload_n 0, 1) := by decide +kernel
theorem dX6_isSo_136 : decode cX6_isSo 136 = .ok (.getfield 33, 3) := by decide +kernel
theorem dX6_isSo_139 : decode cX6_isSo 139 = .ok (.getfield 112, 3) := by decide +kernel
theorem dX6_isSo_142 : decode cX6_isSo 142 = .ok (.if_icmp .ge 73, 3) := by decide +kernel
theorem dX6_isSo_145 : decode cX6_isSo 145 = .ok (.iload 8, 2) := by decide +kernel
theorem dX6_isSo_147 : decode cX6_isSo 147 = .ok (.ifCond .ne 68, 3) := by decide +kernel
theorem dX6_isSo_150 : decode cX6_isSo 150 = .ok (.aload_n 0, 1) := by decide +kernel
theorem dX6_isSo_151 : decode cX6_isSo 151 = .ok (.getfield 33, 3) := by decide +kernel
theorem dX6_isSo_154 : decode cX6_isSo 154 = .ok (.getfield 115, 3) := by decide +kernel
theorem dX6_isSo_157 : decode cX6_isSo 157 = .ok (.iload 9, 2) := by decide +kernel
theorem dX6_isSo_159 : decode cX6_isSo 159 = .ok (.iaload, 1) := by decide +kernel
theorem dX6_isSo_160 : decode cX6_isSo 160 = .ok (.istore 10, 2) := by decide +kernel
theorem dX6_isSo_162 : decode cX6_isSo 162 = .ok (.aload_n 0, 1) := by decide +kernel
theorem dX6_isSo_163 : decode cX6_isSo 163 = .ok (.getfield 33, 3) := by decide +kernel
theorem dX6_isSo_166 : decode cX6_isSo 166 = .ok (.getfield 118, 3) := by decide +kernel
theorem dX6_isSo_169 : decode cX6_isSo 169 = .ok (.iload 9, 2) := by decide +kernel
theorem dX6_isSo_171 : decode cX6_isSo 171 = .ok (.iaload, 1) := by decide +kernel
theorem dX6_isSo_172 : decode cX6_isSo 172 = .ok (.iload_n 1, 1) := by decide +kernel
theorem dX6_isSo_173 : decode cX6_isSo 173 = .ok (.if_icmp .ne 33, 3) := by decide +kernel
theorem dX6_isSo_176 : decode cX6_isSo 176 = .ok (.iload 10, 2) := by decide +kernel
theorem dX6_isSo_178 : decode cX6_isSo 178 = .ok (.ifCond .eq 24, 3) := by decide +kernel
theorem dX6_isSo_181 : decode cX6_isSo 181 = .ok (.aload_n 0, 1) := by decide +kernel
theorem dX6_isSo_182 : decode cX6_isSo 182 = .ok (.getfield 33, 3) := by decide +kernel
theorem dX6_isSo_185 : decode cX6_isSo 185 = .ok (.iload 10, 2) := by decide +kernel
theorem dX6_isSo_187 : decode cX6_isSo 187 = .ok (.aload_n 0, 1) := by decide +kernel
theorem dX6_isSo_188 : decode cX6_isSo 188 = .ok (.getfield 9, 3) := by decide +kernel
theorem dX6_isSo_191 : decode cX6_isSo 191 = .ok (.aload_n 0, 1) := by decide +kernel
theorem dX6_isSo_192 : decode cX6_isSo 192 = .ok (.getfield 17, 3) := by decide +kernel
theorem dX6_isSo_195 : decode cX6_isSo 195 = .ok (.invokevirtual 121, 3) := by decide +kernel
theorem dX6_isSo_198 : decode cX6_isSo 198 = .ok (.iconst 1, 1) := by decide +kernel
theorem dX6_isSo_199 : decode cX6_isSo 199 = .ok (.if_icmp .ne 7, 3) := by decide +kernel
theorem dX6_isSo_202 : decode cX6_isSo 202 = .ok (.iconst 1, 1) := by decide +kernel
theorem dX6_isSo_203 : decode cX6_isSo 203 = .ok (.goto 4, 3) := by decide +kernel
theorem dX6_isSo_206 : decode cX6_isSo 206 = .ok (.iconst 0, 1) := by decide +kernel
theorem dX6_isSo_207 : decode cX6_isSo 207 = .ok (.istore 8, 2) := by decide +kernel
theorem dX6_isSo_209 : decode cX6_isSo 209 = .ok (.iinc 9 1, 3) := by decide +kernel
theorem dX6_isSo_212 : decode cX6_isSo 212 = .ok (.goto (-79), 3) := by decide +kernel
theorem dX6_isSo_215 : decode cX6_isSo 215 = .ok (.aload_n 0, 1) := by decide +kernel
theorem dX6_isSo_216 : decode cX6_isSo 216 = .ok (.getfield 23, 3) := by decide +kernel
theorem dX6_isSo_219 : decode cX6_isSo 219 = .ok (.iload 6, 2) := by decide +kernel
theorem dX6_isSo_221 : decode cX6_isSo 221 = .ok (.iload 7, 2) := by decide +kernel
theorem dX6_isSo_223 : decode cX6_isSo 223 = .ok (.iload 8, 2) := by decide +kernel
theorem dX6_isSo_225 : decode cX6_isSo 225 = .ok (.ifCond .eq 8, 3) := by decide +kernel
theorem dX6_isSo_228 : decode cX6_isSo 228 = .ok (.bipush 17, 2) := by decide +kernel
theorem dX6_isSo_230 : decode cX6_isSo 230 = .ok (.goto 4, 3) := by decide +kernel
theorem dX6_isSo_233 : decode cX6_isSo 233 = .ok (.iconst 1, 1) := by decide +kernel
theorem dX6_isSo_234 : decode cX6_isSo 234 = .ok (.iload_n 1, 1) := by decide +kernel
theorem dX6_isSo_235 : decode cX6_isSo 235 = .ok (.ishl, 1) := by decide +kernel
theorem dX6_isSo_236 : decode cX6_isSo 236 = .ok (.ior, 1) := by decide +kernel
theorem dX6_isSo_237 : decode cX6_isSo 237 = .ok (.iastore, 1) := by decide +kernel
theorem dX6_isSo_238 : decode cX6_isSo 238 = .ok (.iload 8, 2) := by decide +kernel
theorem dX6_isSo_240 : decode cX6_isSo 240 = .ok (.ireturn, 1) := by decide +kernel
theorem dX6_gatherFacts_0 : decode cX6_gatherFacts 0 = .ok (.aload_n 0, 1) := by decide +kernel
theorem dX6_gatherFacts_1 : decode cX6_gatherFacts 1 = .ok (.getfield 9, 3) := by decide +kernel
theorem dX6_gatherFacts_4 : decode cX6_gatherFacts 4 = .ok (.iconst 0, 1) := by decide +kernel
theorem dX6_gatherFacts_5 : decode cX6_gatherFacts 5 = .ok (.iload_n 2, 1) := by decide +kernel
theorem dX6_gatherFacts_6 : decode cX6_gatherFacts 6 = .ok (.iastore, 1) := by decide +kernel
theorem dX6_gatherFacts_7 : decode cX6_gatherFacts 7 = .ok (.aload_n 0, 1) := by decide +kernel
theorem dX6_gatherFacts_8 : decode cX6_gatherFacts 8 = .ok (.getfield 9, 3) := by decide +kernel
theorem dX6_gatherFacts_11 : decode cX6_gatherFacts 11 = .ok (.iconst 1, 1) := by decide +kernel
theorem dX6_gatherFacts_12 : decode cX6_gatherFacts 12 = .ok (.aload_n 0, 1) := by decide +kernel
theorem dX6_gatherFacts_13 : decode cX6_gatherFacts 13 = .ok (.getfield 46, 3) := by decide +kernel
theorem dX6_gatherFacts_16 : decode cX6_gatherFacts 16 = .ok (.getfield 132, 3) := by decide +kernel
theorem dX6_gatherFacts_19 : decode cX6_gatherFacts 19 = .ok (.iload_n 2, 1) := by decide +kernel
theorem dX6_gatherFacts_20 : decode cX6_gatherFacts 20 = .ok (.iaload, 1) := by decide +kernel
theorem dX6_gatherFacts_21 : decode cX6_gatherFacts 21 = .ok (.iastore, 1) := by decide +kernel
theorem dX6_gatherFacts_22 : decode cX6_gatherFacts 22 = .ok (.aload_n 0, 1) := by decide +kernel
theorem dX6_gatherFacts_23 : decode cX6_gatherFacts 23 = .ok (.getfield 9, 3) := by decide +kernel
theorem dX6_gatherFacts_26 : decode cX6_gatherFacts 26 = .ok (.iconst 2, 1) := by decide +kernel
theorem dX6_gatherFacts_27 : decode cX6_gatherFacts 27 = .ok (.iload_n 1, 1) := by decide +kernel
theorem dX6_gatherFacts_28 : decode cX6_gatherFacts 28 = .ok (.iastore, 1) := by decide +kernel
theorem dX6_gatherFacts_29 : decode cX6_gatherFacts 29 = .ok (.aload_n 0, 1) := by decide +kernel
theorem dX6_gatherFacts_30 : decode cX6_gatherFacts 30 = .ok (.getfield 9, 3) := by decide +kernel
theorem dX6_gatherFacts_33 : decode cX6_gatherFacts 33 = .ok (.iconst 3, 1) := by decide +kernel
theorem dX6_gatherFacts_34 : decode cX6_gatherFacts 34 = .ok (.iload_n 3, 1) := by decide +kernel
theorem dX6_gatherFacts_35 : decode cX6_gatherFacts 35 = .ok (.iastore, 1) := by decide +kernel
theorem dX6_gatherFacts_36 : decode cX6_gatherFacts 36 = .ok (.aload_n 0, 1) := by decide +kernel
theorem dX6_gatherFacts_37 : decode cX6_gatherFacts 37 = .ok (.getfield 9, 3) := by decide +kernel
theorem dX6_gatherFacts_40 : decode cX6_gatherFacts 40 = .ok (.iconst 4, 1) := by decide +kernel
theorem dX6_gatherFacts_41 : decode cX6_gatherFacts 41 = .ok (.iload 4, 2) := by decide +kernel
theorem dX6_gatherFacts_43 : decode cX6_gatherFacts 43 = .ok (.iastore, 1) := by decide +kernel
theorem dX6_gatherFacts_44 : decode cX6_gatherFacts 44 = .ok (.aload_n 0, 1) := by decide +kernel
theorem dX6_gatherFacts_45 : decode cX6_gatherFacts 45 = .ok (.getfield 9, 3) := by decide +kernel
theorem dX6_gatherFacts_48 : decode cX6_gatherFacts 48 = .ok (.iconst 5, 1) := by decide +kernel
theorem dX6_gatherFacts_49 : decode cX6_gatherFacts 49 = .ok (.aload_n 0, 1) := by decide +kernel
theorem dX6_gatherFacts_50 : decode cX6_gatherFacts 50 = .ok (.getfield 37, 3) := by decide +kernel
theorem dX6_gatherFacts_53 : decode cX6_gatherFacts 53 = .ok (.iastore, 1) := by decide +kernel
theorem dX6_gatherFacts_54 : decode cX6_gatherFacts 54 = .ok (.aload_n 0, 1) := by decide +kernel
theorem dX6_gatherFacts_55 : decode cX6_gatherFacts 55 = .ok (.getfield 9, 3) := by decide +kernel
theorem dX6_gatherFacts_58 : decode cX6_gatherFacts 58 = .ok (.bipush 6, 2) := by decide +kernel
theorem dX6_gatherFacts_60 : decode cX6_gatherFacts 60 = .ok (.aload_n 0, 1) := by decide +kernel
theorem dX6_gatherFacts_61 : decode cX6_gatherFacts 61 = .ok (.getfield 40, 3) := by decide +kernel
theorem dX6_gatherFacts_64 : decode cX6_gatherFacts 64 = .ok (.iastore, 1) := by decide +kernel
theorem dX6_gatherFacts_65 : decode cX6_gatherFacts 65 = .ok (.return_, 1) := by decide +kernel
theorem dX7_init_0 : decode cX7_init 0 = .ok (.aload_n 0, 1) := by decide +kernel
theorem dX7_init_1 : decode cX7_init 1 = .ok (.invokespecial 3, 3) := by decide +kernel
theorem dX7_init_4 : decode cX7_init 4 = .ok (.aload_n 0, 1) := by decide +kernel
theorem dX7_init_5 : decode cX7_init 5 = .ok (.new 9, 3) := by decide +kernel
theorem dX7_init_8 : decode cX7_init 8 = .ok (.dup, 1) := by decide +kernel
theorem dX7_init_9 : decode cX7_init 9 = .ok (.invokespecial 11, 3) := by decide +kernel
theorem dX7_init_12 : decode cX7_init 12 = .ok (.putfield 12, 3) := by decide +kernel
theorem dX7_init_15 : decode cX7_init 15 = .ok (.aload_n 0, 1) := by decide +kernel
theorem dX7_init_16 : decode cX7_init 16 = .ok (.iconst 2, 1) := by decide +kernel
theorem dX7_init_17 : decode cX7_init 17 = .ok (.anewarray 9, 3) := by decide +kernel
theorem dX7_init_20 : decode cX7_init 20 = .ok (.putfield 16, 3) := by decide +kernel
theorem dX7_init_23 : decode cX7_init 23 = .ok (.aload_n 0, 1) := by decide +kernel
theorem dX7_init_24 : decode cX7_init 24 = .ok (.new 20, 3) := by decide +kernel
theorem dX7_init_27 : decode cX7_init 27 = .ok (.dup, 1) := by decide +kernel
theorem dX7_init_28 : decode cX7_init 28 = .ok (.invokespecial 22, 3) := by decide +kernel
theorem dX7_init_31 : decode cX7_init 31 = .ok (.putfield 23, 3) := by decide +kernel
theorem dX7_init_34 : decode cX7_init 34 = .ok (.aload_n 0, 1) := by decide +kernel
theorem dX7_init_35 : decode cX7_init 35 = .ok (.new 27, 3) := by decide +kernel
theorem dX7_init_38 : decode cX7_init 38 = .ok (.dup, 1) := by decide +kernel
theorem dX7_init_39 : decode cX7_init 39 = .ok (.invokespecial 29, 3) := by decide +kernel
theorem dX7_init_42 : decode cX7_init 42 = .ok (.putfield 30, 3) := by decide +kernel
theorem dX7_init_45 : decode cX7_init 45 = .ok (.aload_n 0, 1) := by decide +kernel
theorem dX7_init_46 : decode cX7_init 46 = .ok (.new 27, 3) := by decide +kernel
theorem dX7_init_49 : decode cX7_init 49 = .ok (.dup, 1) := by decide +kernel
theorem dX7_init_50 : decode cX7_init 50 = .ok (.invokespecial 29, 3) := by decide +kernel
theorem dX7_init_53 : decode cX7_init 53 = .ok (.putfield 34, 3) := by decide +kernel
theorem dX7_init_56 : decode cX7_init 56 = .ok (.aload_n 0, 1) := by decide +kernel
theorem dX7_init_57 : decode cX7_init 57 = .ok (.new 37, 3) := by decide +kernel
theorem dX7_init_60 : decode cX7_init 60 = .ok (.dup, 1) := by decide +kernel
theorem dX7_init_61 : decode cX7_init 61 = .ok (.aload_n 0, 1) := by decide +kernel
theorem dX7_init_62 : decode cX7_init 62 = .ok (.getfield 12, 3) := by decide +kernel
theorem dX7_init_65 : decode cX7_init 65 = .ok (.invokespecial 39, 3) := by decide +kernel
theorem dX7_init_68 : decode cX7_init 68 = .ok (.putfield 42, 3) := by decide +kernel
theorem dX7_init_71 : decode cX7_init 71 = .ok (.aload_n 0, 1) := by decide +kernel
theorem dX7_init_72 : decode cX7_init 72 = .ok (.new 46, 3) := by decide +kernel
theorem dX7_init_75 : decode cX7_init 75 = .ok (.dup, 1) := by decide +kernel
theorem dX7_init_76 : decode cX7_init 76 = .ok (.aload_n 0, 1) := by decide +kernel
theorem dX7_init_77 : decode cX7_init 77 = .ok (.getfield 12, 3) := by decide +kernel
theorem dX7_init_80 : decode cX7_init 80 = .ok (.aload_n 0, 1) := by decide +kernel
theorem dX7_init_81 : decode cX7_init 81 = .ok (.getfield 42, 3) := by decide +kernel
theorem dX7_init_84 : decode cX7_init 84 = .ok (.invokespecial 48, 3) := by decide +kernel
theorem dX7_init_87 : decode cX7_init 87 = .ok (.putfield 51, 3) := by decide +kernel
theorem dX7_init_90 : decode cX7_init 90 = .ok (.aload_n 0, 1) := by decide +kernel
theorem dX7_init_91 : decode cX7_init 91 = .ok (.new 55, 3) := by decide +kernel
theorem dX7_init_94 : decode cX7_init 94 = .ok (.dup, 1) := by decide +kernel
theorem dX7_init_95 : decode cX7_init 95 = .ok (.aload_n 0, 1) := by decide +kernel
theorem dX7_init_96 : decode cX7_init 96 = .ok (.getfield 12, 3) := by decide +kernel
theorem dX7_init_99 : decode cX7_init 99 = .ok (.aload_n 0, 1) := by decide +kernel
theorem dX7_init_100 : decode cX7_init 100 = .ok (.getfield 42, 3) := by decide +kernel
theorem dX7_init_103 : decode cX7_init 103 = .ok (.invokespecial 57, 3) := by decide +kernel
theorem dX7_init_106 : decode cX7_init 106 = .ok (.putfield 58, 3) := by decide +kernel
theorem dX7_init_109 : decode cX7_init 109 = .ok (.aload_n 0, 1) := by decide +kernel
theorem dX7_init_110 : decode cX7_init 110 = .ok (.iconst 5, 1) := by decide +kernel
theorem dX7_init_111 : decode cX7_init 111 = .ok (.newarray .int, 2) := by decide +kernel
theorem dX7_init_113 : decode cX7_init 113 = .ok (.putfield 62, 3) := by decide +kernel
theorem dX7_init_116 : decode cX7_init 116 = .ok (.aload_n 0, 1) := by decide +kernel
theorem dX7_init_117 : decode cX7_init 117 = .ok (.bipush 17, 2) := by decide +kernel
theorem dX7_init_119 : decode cX7_init 119 = .ok (.newarray .int, 2) := by decide +kernel
theorem dX7_init_121 : decode cX7_init 121 = .ok (.putfield 66, 3) := by decide +kernel
theorem dX7_init_124 : decode cX7_init 124 = .ok (.aload_n 0, 1) := by decide +kernel
theorem dX7_init_125 : decode cX7_init 125 = .ok (.bipush 40, 2) := by decide +kernel
theorem dX7_init_127 : decode cX7_init 127 = .ok (.newarray .int, 2) := by decide +kernel
theorem dX7_init_129 : decode cX7_init 129 = .ok (.putfield 71, 3) := by decide +kernel
theorem dX7_init_132 : decode cX7_init 132 = .ok (.aload_n 0, 1) := by decide +kernel
theorem dX7_init_133 : decode cX7_init 133 = .ok (.iconst 0, 1) := by decide +kernel
theorem dX7_init_134 : decode cX7_init 134 = .ok (.putfield 74, 3) := by decide +kernel
theorem dX7_init_137 : decode cX7_init 137 = .ok (.aload_n 0, 1) := by decide +kernel
theorem dX7_init_138 : decode cX7_init 138 = .ok (.iconst (-1), 1) := by decide +kernel
theorem dX7_init_139 : decode cX7_init 139 = .ok (.putfield 78, 3) := by decide +kernel
theorem dX7_init_142 : decode cX7_init 142 = .ok (.aload_n 0, 1) := by decide +kernel
theorem dX7_init_143 : decode cX7_init 143 = .ok (.iconst (-1), 1) := by decide +kernel
theorem dX7_init_144 : decode cX7_init 144 = .ok (.putfield 81, 3) := by decide +kernel
theorem dX7_init_147 : decode cX7_init 147 = .ok (.aload_n 0, 1) := by decide +kernel
theorem dX7_init_148 : decode cX7_init 148 = .ok (.iconst 0, 1) := by decide +kernel
theorem dX7_init_149 : decode cX7_init 149 = .ok (.putfield 84, 3) := by decide +kernel
theorem dX7_init_152 : decode cX7_init 152 = .ok (.return_, 1) := by decide +kernel
theorem dX7_child_0 : decode cX7_child 0 = .ok (.iload_n 1, 1) := by decide +kernel
theorem dX7_child_1 : decode cX7_child 1 = .ok (.ifCond .lt 9, 3) := by decide +kernel
theorem dX7_child_4 : decode cX7_child 4 = .ok (.iload_n 1, 1) := by decide +kernel
theorem dX7_child_5 : decode cX7_child 5 = .ok (.bipush 9, 2) := by decide +kernel
theorem dX7_child_7 : decode cX7_child 7 = .ok (.if_icmp .le 9, 3) := by decide +kernel
theorem dX7_child_10 : decode cX7_child 10 = .ok (.aload_n 0, 1) := by decide +kernel
theorem dX7_child_11 : decode cX7_child 11 = .ok (.iconst (-1), 1) := by decide +kernel
theorem dX7_child_12 : decode cX7_child 12 = .ok (.invokevirtual 87, 3) := by decide +kernel
theorem dX7_child_15 : decode cX7_child 15 = .ok (.ireturn, 1) := by decide +kernel
theorem dX7_child_16 : decode cX7_child 16 = .ok (.aload_n 0, 1) := by decide +kernel
theorem dX7_child_17 : decode cX7_child 17 = .ok (.getfield 12, 3) := by decide +kernel
theorem dX7_child_20 : decode cX7_child 20 = .ok (.getfield 91, 3) := by decide +kernel
theorem dX7_child_23 : decode cX7_child 23 = .ok (.bipush 6, 2) := by decide +kernel
theorem dX7_child_25 : decode cX7_child 25 = .ok (.if_icmp .lt 10, 3) := by decide +kernel
theorem dX7_child_28 : decode cX7_child 28 = .ok (.aload_n 0, 1) := by decide +kernel
theorem dX7_child_29 : decode cX7_child 29 = .ok (.bipush (-5), 2) := by decide +kernel
theorem dX7_child_31 : decode cX7_child 31 = .ok (.invokevirtual 87, 3) := by decide +kernel
theorem dX7_child_34 : decode cX7_child 34 = .ok (.ireturn, 1) := by decide +kernel
theorem dX7_child_35 : decode cX7_child 35 = .ok (.aload_n 0, 1) := by decide +kernel
theorem dX7_child_36 : decode cX7_child 36 = .ok (.getfield 12, 3) := by decide +kernel
theorem dX7_child_39 : decode cX7_child 39 = .ok (.iload_n 1, 1) := by decide +kernel
theorem dX7_child_40 : decode cX7_child 40 = .ok (.invokevirtual 94, 3) := by decide +kernel
theorem dX7_child_43 : decode cX7_child 43 = .ok (.aload_n 0, 1) := by decide +kernel
theorem dX7_child_44 : decode cX7_child 44 = .ok (.invokevirtual 98, 3) := by decide +kernel
theorem dX7_child_47 : decode cX7_child 47 = .ok (.aload_n 0, 1) := by decide +kernel
theorem dX7_child_48 : decode cX7_child 48 = .ok (.aload_n 0, 1) := by decide +kernel
theorem dX7_child_49 : decode cX7_child 49 = .ok (.getfield 12, 3) := by decide +kernel
theorem dX7_child_52 : decode cX7_child 52 = .ok (.getfield 91, 3) := by decide +kernel
theorem dX7_child_55 : decode cX7_child 55 = .ok (.iconst 1, 1) := by decide +kernel
theorem dX7_child_56 : decode cX7_child 56 = .ok (.isub, 1) := by decide +kernel
theorem dX7_child_57 : decode cX7_child 57 = .ok (.invokevirtual 101, 3) := by decide +kernel
theorem dX7_child_60 : decode cX7_child 60 = .ok (.ireturn, 1) := by decide +kernel
theorem dX7_of_0 : decode cX7_of 0 = .ok (.aload_n 0, 1) := by decide +kernel
theorem dX7_of_1 : decode cX7_of 1 = .ok (.getfield 12, 3) := by decide +kernel
theorem dX7_of_4 : decode cX7_of 4 = .ok (.iload_n 1, 1) := by decide +kernel
theorem dX7_of_5 : decode cX7_of 5 = .ok (.invokevirtual 104, 3) := by decide +kernel
theorem dX7_of_8 : decode cX7_of 8 = .ok (.ifCond .eq 5, 3) := by decide +kernel
theorem dX7_of_11 : decode cX7_of 11 = .ok (.iconst (-1), 1) := by decide +kernel
theorem dX7_of_12 : decode cX7_of 12 = .ok (.ireturn, 1) := by decide +kernel
theorem dX7_of_13 : decode cX7_of 13 = .ok (.iload_n 2, 1) := by decide +kernel
theorem dX7_of_14 : decode cX7_of 14 = .ok (.lookupswitch 48 #[(0, 26), (1, 36)], 26) := by decide +kernel
theorem dX7_of_40 : decode cX7_of 40 = .ok (.aload_n 0, 1) := by decide +kernel
theorem dX7_of_41 : decode cX7_of 41 = .ok (.getfield 12, 3) := by decide +kernel
theorem dX7_of_44 : decode cX7_of 44 = .ok (.getfield 108, 3) := by decide +kernel
theorem dX7_of_47 : decode cX7_of 47 = .ok (.iload_n 1, 1) := by decide +kernel
theorem dX7_of_48 : decode cX7_of 48 = .ok (.iaload, 1) := by decide +kernel
theorem dX7_of_49 : decode cX7_of 49 = .ok (.ireturn, 1) := by decide +kernel
theorem dX7_of_50 : decode cX7_of 50 = .ok (.aload_n 0, 1) := by decide +kernel
theorem dX7_of_51 : decode cX7_of 51 = .ok (.getfield 12, 3) := by decide +kernel
theorem dX7_of_54 : decode cX7_of 54 = .ok (.getfield 111, 3) := by decide +kernel
theorem dX7_of_57 : decode cX7_of 57 = .ok (.iload_n 1, 1) := by decide +kernel
theorem dX7_of_58 : decode cX7_of 58 = .ok (.ishr, 1) := by decide +kernel
theorem dX7_of_59 : decode cX7_of 59 = .ok (.iconst 1, 1) := by decide +kernel
theorem dX7_of_60 : decode cX7_of 60 = .ok (.iand, 1) := by decide +kernel
theorem dX7_of_61 : decode cX7_of 61 = .ok (.ireturn, 1) := by decide +kernel
theorem dX7_of_62 : decode cX7_of 62 = .ok (.iconst (-1), 1) := by decide +kernel
theorem dX7_of_63 : decode cX7_of 63 = .ok (.ireturn, 1) := by decide +kernel
theorem dX7_rhyme_0 : decode cX7_rhyme 0 = .ok (.iload_n 1, 1) := by decide +kernel
theorem dX7_rhyme_1 : decode cX7_rhyme 1 = .ok (.iconst 1, 1) := by decide +kernel
theorem dX7_rhyme_2 : decode cX7_rhyme 2 = .ok (.if_icmp .lt 9, 3) := by decide +kernel
theorem dX7_rhyme_5 : decode cX7_rhyme 5 = .ok (.iload_n 1, 1) := by decide +kernel
theorem dX7_rhyme_6 : decode cX7_rhyme 6 = .ok (.bipush 15, 2) := by decide +kernel
theorem dX7_rhyme_8 : decode cX7_rhyme 8 = .ok (.if_icmp .le 9, 3) := by decide +kernel
theorem dX7_rhyme_11 : decode cX7_rhyme 11 = .ok (.aload_n 0, 1) := by decide +kernel
theorem dX7_rhyme_12 : decode cX7_rhyme 12 = .ok (.iconst (-1), 1) := by decide +kernel
theorem dX7_rhyme_13 : decode cX7_rhyme 13 = .ok (.invokevirtual 87, 3) := by decide +kernel
theorem dX7_rhyme_16 : decode cX7_rhyme 16 = .ok (.ireturn, 1) := by decide +kernel
theorem dX7_rhyme_17 : decode cX7_rhyme 17 = .ok (.aload_n 0, 1) := by decide +kernel
theorem dX7_rhyme_18 : decode cX7_rhyme 18 = .ok (.getfield 12, 3) := by decide +kernel
theorem dX7_rhyme_21 : decode cX7_rhyme 21 = .ok (.getfield 114, 3) := by decide +kernel
theorem dX7_rhyme_24 : decode cX7_rhyme 24 = .ok (.iconst 5, 1) := by decide +kernel
theorem dX7_rhyme_25 : decode cX7_rhyme 25 = .ok (.if_icmp .lt 10, 3) := by decide +kernel
theorem dX7_rhyme_28 : decode cX7_rhyme 28 = .ok (.aload_n 0, 1) := by decide +kernel
theorem dX7_rhyme_29 : decode cX7_rhyme 29 = .ok (.bipush (-5), 2) := by decide +kernel
theorem dX7_rhyme_31 : decode cX7_rhyme 31 = .ok (.invokevirtual 87, 3) := by decide +kernel
theorem dX7_rhyme_34 : decode cX7_rhyme 34 = .ok (.ireturn, 1) := by decide +kernel
theorem dX7_rhyme_35 : decode cX7_rhyme 35 = .ok (.aload_n 0, 1) := by decide +kernel
theorem dX7_rhyme_36 : decode cX7_rhyme 36 = .ok (.getfield 12, 3) := by decide +kernel
theorem dX7_rhyme_39 : decode cX7_rhyme 39 = .ok (.getfield 117, 3) := by decide +kernel
theorem dX7_rhyme_42 : decode cX7_rhyme 42 = .ok (.aload_n 0, 1) := by decide +kernel
theorem dX7_rhyme_43 : decode cX7_rhyme 43 = .ok (.getfield 12, 3) := by decide +kernel
theorem dX7_rhyme_46 : decode cX7_rhyme 46 = .ok (.getfield 114, 3) := by decide +kernel
theorem dX7_rhyme_49 : decode cX7_rhyme 49 = .ok (.iload_n 1, 1) := by decide +kernel
theorem dX7_rhyme_50 : decode cX7_rhyme 50 = .ok (.iastore, 1) := by decide +kernel
theorem dX7_rhyme_51 : decode cX7_rhyme 51 = .ok (.aload_n 0, 1) := by decide +kernel
theorem dX7_rhyme_52 : decode cX7_rhyme 52 = .ok (.getfield 12, 3) := by decide +kernel
theorem dX7_rhyme_55 : decode cX7_rhyme 55 = .ok (.dup, 1) := by decide +kernel
theorem dX7_rhyme_56 : decode cX7_rhyme 56 = .ok (.getfield 114, 3) := by decide +kernel
theorem dX7_rhyme_59 : decode cX7_rhyme 59 = .ok (.iconst 1, 1) := by decide +kernel
theorem dX7_rhyme_60 : decode cX7_rhyme 60 = .ok (.iadd, 1) := by decide +kernel
theorem dX7_rhyme_61 : decode cX7_rhyme 61 = .ok (.putfield 114, 3) := by decide +kernel
theorem dX7_rhyme_64 : decode cX7_rhyme 64 = .ok (.aload_n 0, 1) := by decide +kernel
theorem dX7_rhyme_65 : decode cX7_rhyme 65 = .ok (.invokevirtual 98, 3) := by decide +kernel
theorem dX7_rhyme_68 : decode cX7_rhyme 68 = .ok (.aload_n 0, 1) := by decide +kernel
theorem dX7_rhyme_69 : decode cX7_rhyme 69 = .ok (.aload_n 0, 1) := by decide +kernel
theorem dX7_rhyme_70 : decode cX7_rhyme 70 = .ok (.getfield 12, 3) := by decide +kernel
theorem dX7_rhyme_73 : decode cX7_rhyme 73 = .ok (.getfield 114, 3) := by decide +kernel
theorem dX7_rhyme_76 : decode cX7_rhyme 76 = .ok (.iconst 1, 1) := by decide +kernel
theorem dX7_rhyme_77 : decode cX7_rhyme 77 = .ok (.isub, 1) := by decide +kernel
theorem dX7_rhyme_78 : decode cX7_rhyme 78 = .ok (.invokevirtual 101, 3) := by decide +kernel
theorem dX7_rhyme_81 : decode cX7_rhyme 81 = .ok (.ireturn, 1) := by decide +kernel
theorem dX7_beats_0 : decode cX7_beats 0 = .ok (.aload_n 0, 1) := by decide +kernel
theorem dX7_beats_1 : decode cX7_beats 1 = .ok (.getfield 12, 3) := by decide +kernel
theorem dX7_beats_4 : decode cX7_beats 4 = .ok (.iload_n 1, 1) := by decide +kernel
theorem dX7_beats_5 : decode cX7_beats 5 = .ok (.invokevirtual 120, 3) := by decide +kernel
theorem dX7_beats_8 : decode cX7_beats 8 = .ok (.ifCond .eq 7, 3) := by decide +kernel
theorem dX7_beats_11 : decode cX7_beats 11 = .ok (.iconst (-1), 1) := by decide +kernel
theorem dX7_beats_12 : decode cX7_beats 12 = .ok (.goto 12, 3) := by decide +kernel
theorem dX7_beats_15 : decode cX7_beats 15 = .ok (.aload_n 0, 1) := by decide +kernel
theorem dX7_beats_16 : decode cX7_beats 16 = .ok (.getfield 12, 3) := by decide +kernel
theorem dX7_beats_19 : decode cX7_beats 19 = .ok (.getfield 117, 3) := by decide +kernel
theorem dX7_beats_22 : decode cX7_beats 22 = .ok (.iload_n 1, 1) := by decide +kernel
theorem dX7_beats_23 : decode cX7_beats 23 = .ok (.iaload, 1) := by decide +kernel
theorem dX7_beats_24 : decode cX7_beats 24 = .ok (.ireturn, 1) := by decide +kernel
theorem dX7_asks_0 : decode cX7_asks 0 = .ok (.aload_n 0, 1) := by decide +kernel
theorem dX7_asks_1 : decode cX7_asks 1 = .ok (.getfield 12, 3) := by decide +kernel
theorem dX7_asks_4 : decode cX7_asks 4 = .ok (.iload_n 1, 1) := by decide +kernel
theorem dX7_asks_5 : decode cX7_asks 5 = .ok (.invokevirtual 120, 3) := by decide +kernel
theorem dX7_asks_8 : decode cX7_asks 8 = .ok (.ifCond .ne 24, 3) := by decide +kernel
theorem dX7_asks_11 : decode cX7_asks 11 = .ok (.aload_n 0, 1) := by decide +kernel
theorem dX7_asks_12 : decode cX7_asks 12 = .ok (.getfield 12, 3) := by decide +kernel
theorem dX7_asks_15 : decode cX7_asks 15 = .ok (.iload_n 2, 1) := by decide +kernel
theorem dX7_asks_16 : decode cX7_asks 16 = .ok (.invokevirtual 104, 3) := by decide +kernel
theorem dX7_asks_19 : decode cX7_asks 19 = .ok (.ifCond .ne 13, 3) := by decide +kernel
theorem dX7_asks_22 : decode cX7_asks 22 = .ok (.iload_n 3, 1) := by decide +kernel
theorem dX7_asks_23 : decode cX7_asks 23 = .ok (.ifCond .lt 9, 3) := by decide +kernel
theorem dX7_asks_26 : decode cX7_asks 26 = .ok (.iload_n 3, 1) := by decide +kernel
theorem dX7_asks_27 : decode cX7_asks 27 = .ok (.bipush 15, 2) := by decide +kernel
theorem dX7_asks_29 : decode cX7_asks 29 = .ok (.if_icmp .le 5, 3) := by decide +kernel
theorem dX7_asks_32 : decode cX7_asks 32 = .ok (.iconst (-1), 1) := by decide +kernel
theorem dX7_asks_33 : decode cX7_asks 33 = .ok (.ireturn, 1) := by decide +kernel
theorem dX7_asks_34 : decode cX7_asks 34 = .ok (.aload_n 0, 1) := by decide +kernel
theorem dX7_asks_35 : decode cX7_asks 35 = .ok (.getfield 12, 3) := by decide +kernel
theorem dX7_asks_38 : decode cX7_asks 38 = .ok (.getfield 111, 3) := by decide +kernel
theorem dX7_asks_41 : decode cX7_asks 41 = .ok (.invokestatic 123, 3) := by decide +kernel
theorem dX7_asks_44 : decode cX7_asks 44 = .ok (.istore 5, 2) := by decide +kernel
theorem dX7_asks_46 : decode cX7_asks 46 = .ok (.aload_n 0, 1) := by decide +kernel
theorem dX7_asks_47 : decode cX7_asks 47 = .ok (.invokevirtual 128, 3) := by decide +kernel
theorem dX7_asks_50 : decode cX7_asks 50 = .ok (.iload 4, 2) := by decide +kernel
theorem dX7_asks_52 : decode cX7_asks 52 = .ok (.tableswitch 67 0 3 #[32, 44, 44, 44], 32) := by decide +kernel
theorem dX7_asks_84 : decode cX7_asks 84 = .ok (.aload_n 0, 1) := by decide +kernel
theorem dX7_asks_85 : decode cX7_asks 85 = .ok (.getfield 42, 3) := by decide +kernel
theorem dX7_asks_88 : decode cX7_asks 88 = .ok (.iload_n 1, 1) := by decide +kernel
theorem dX7_asks_89 : decode cX7_asks 89 = .ok (.iload_n 2, 1) := by decide +kernel
theorem dX7_asks_90 : decode cX7_asks 90 = .ok (.iload 5, 2) := by decide +kernel
theorem dX7_asks_92 : decode cX7_asks 92 = .ok (.invokevirtual 131, 3) := by decide +kernel
theorem dX7_asks_95 : decode cX7_asks 95 = .ok (.ireturn, 1) := by decide +kernel
theorem dX7_asks_96 : decode cX7_asks 96 = .ok (.aload_n 0, 1) := by decide +kernel
theorem dX7_asks_97 : decode cX7_asks 97 = .ok (.getfield 42, 3) := by decide +kernel
theorem dX7_asks_100 : decode cX7_asks 100 = .ok (.iload 4, 2) := by decide +kernel
theorem dX7_asks_102 : decode cX7_asks 102 = .ok (.iload_n 1, 1) := by decide +kernel
theorem dX7_asks_103 : decode cX7_asks 103 = .ok (.iload_n 2, 1) := by decide +kernel
theorem dX7_asks_104 : decode cX7_asks 104 = .ok (.iload_n 3, 1) := by decide +kernel
theorem dX7_asks_105 : decode cX7_asks 105 = .ok (.iload 5, 2) := by decide +kernel
theorem dX7_asks_107 : decode cX7_asks 107 = .ok (.invokevirtual 135, 3) := by decide +kernel
theorem dX7_asks_110 : decode cX7_asks 110 = .ok (.ifCond .eq 7, 3) := by decide +kernel
theorem dX7_asks_113 : decode cX7_asks 113 = .ok (.iconst 1, 1) := by decide +kernel
theorem dX7_asks_114 : decode cX7_asks 114 = .ok (.goto 4, 3) := by decide +kernel
theorem dX7_asks_117 : decode cX7_asks 117 = .ok (.iconst 0, 1) := by decide +kernel
theorem dX7_asks_118 : decode cX7_asks 118 = .ok (.ireturn, 1) := by decide +kernel
theorem dX7_asks_119 : decode cX7_asks 119 = .ok (.iconst (-1), 1) := by decide +kernel
theorem dX7_asks_120 : decode cX7_asks 120 = .ok (.ireturn, 1) := by decide +kernel
theorem dX7_terms_0 : decode cX7_terms 0 = .ok (.iload_n 1, 1) := by decide +kernel
theorem dX7_terms_1 : decode cX7_terms 1 = .ok (.ifCond .lt 21, 3) := by decide +kernel
theorem dX7_terms_4 : decode cX7_terms 4 = .ok (.iload_n 1, 1) := by decide +kernel
theorem dX7_terms_5 : decode cX7_terms 5 = .ok (.iconst 4, 1) := by decide +kernel
theorem dX7_terms_6 : decode cX7_terms 6 = .ok (.if_icmp .ge 16, 3) := by decide +kernel
theorem dX7_terms_9 : decode cX7_terms 9 = .ok (.iload_n 2, 1) := by decide +kernel
theorem dX7_terms_10 : decode cX7_terms 10 = .ok (.ifCond .lt 12, 3) := by decide +kernel
theorem dX7_terms_13 : decode cX7_terms 13 = .ok (.iload_n 2, 1) := by decide +kernel
theorem dX7_terms_14 : decode cX7_terms 14 = .ok (.getstatic 139, 3) := by decide +kernel
theorem dX7_terms_17 : decode cX7_terms 17 = .ok (.iload_n 1, 1) := by decide +kernel
theorem dX7_terms_18 : decode cX7_terms 18 = .ok (.iaload, 1) := by decide +kernel
theorem dX7_terms_19 : decode cX7_terms 19 = .ok (.if_icmp .le 9, 3) := by decide +kernel
theorem dX7_terms_22 : decode cX7_terms 22 = .ok (.aload_n 0, 1) := by decide +kernel
theorem dX7_terms_23 : decode cX7_terms 23 = .ok (.iconst (-1), 1) := by decide +kernel
theorem dX7_terms_24 : decode cX7_terms 24 = .ok (.invokevirtual 87, 3) := by decide +kernel
theorem dX7_terms_27 : decode cX7_terms 27 = .ok (.ireturn, 1) := by decide +kernel
theorem dX7_terms_28 : decode cX7_terms 28 = .ok (.aload_n 0, 1) := by decide +kernel
theorem dX7_terms_29 : decode cX7_terms 29 = .ok (.getfield 12, 3) := by decide +kernel
theorem dX7_terms_32 : decode cX7_terms 32 = .ok (.getfield 142, 3) := by decide +kernel
theorem dX7_terms_35 : decode cX7_terms 35 = .ok (.iload_n 1, 1) := by decide +kernel
theorem dX7_terms_36 : decode cX7_terms 36 = .ok (.iaload, 1) := by decide +kernel
theorem dX7_terms_37 : decode cX7_terms 37 = .ok (.istore_n 3, 1) := by decide +kernel
theorem dX7_terms_38 : decode cX7_terms 38 = .ok (.aload_n 0, 1) := by decide +kernel
theorem dX7_terms_39 : decode cX7_terms 39 = .ok (.getfield 12, 3) := by decide +kernel
theorem dX7_terms_42 : decode cX7_terms 42 = .ok (.getfield 142, 3) := by decide +kernel
theorem dX7_terms_45 : decode cX7_terms 45 = .ok (.iload_n 1, 1) := by decide +kernel
theorem dX7_terms_46 : decode cX7_terms 46 = .ok (.iload_n 2, 1) := by decide +kernel
theorem dX7_terms_47 : decode cX7_terms 47 = .ok (.iastore, 1) := by decide +kernel
theorem dX7_terms_48 : decode cX7_terms 48 = .ok (.aload_n 0, 1) := by decide +kernel
theorem dX7_terms_49 : decode cX7_terms 49 = .ok (.getfield 30, 3) := by decide +kernel
theorem dX7_terms_52 : decode cX7_terms 52 = .ok (.invokevirtual 145, 3) := by decide +kernel
theorem dX7_terms_55 : decode cX7_terms 55 = .ok (.aload_n 0, 1) := by decide +kernel
theorem dX7_terms_56 : decode cX7_terms 56 = .ok (.iload_n 3, 1) := by decide +kernel
theorem dX7_terms_57 : decode cX7_terms 57 = .ok (.invokevirtual 101, 3) := by decide +kernel
theorem dX7_terms_60 : decode cX7_terms 60 = .ok (.ireturn, 1) := by decide +kernel
theorem dX7_feed_0 : decode cX7_feed 0 = .ok (.aload_n 0, 1) := by decide +kernel
theorem dX7_feed_1 : decode cX7_feed 1 = .ok (.getfield 23, 3) := by decide +kernel
theorem dX7_feed_4 : decode cX7_feed 4 = .ok (.bipush 20, 2) := by decide +kernel
theorem dX7_feed_6 : decode cX7_feed 6 = .ok (.invokevirtual 148, 3) := by decide +kernel
theorem dX7_feed_9 : decode cX7_feed 9 = .ok (.ifCond .ne 5, 3) := by decide +kernel
theorem dX7_feed_12 : decode cX7_feed 12 = .ok (.iconst (-1), 1) := by decide +kernel
theorem dX7_feed_13 : decode cX7_feed 13 = .ok (.ireturn, 1) := by decide +kernel
theorem dX7_feed_14 : decode cX7_feed 14 = .ok (.aload_n 0, 1) := by decide +kernel
theorem dX7_feed_15 : decode cX7_feed 15 = .ok (.getfield 23, 3) := by decide +kernel
theorem dX7_feed_18 : decode cX7_feed 18 = .ok (.iload_n 1, 1) := by decide +kernel
theorem dX7_feed_19 : decode cX7_feed 19 = .ok (.invokevirtual 151, 3) := by decide +kernel
theorem dX7_feed_22 : decode cX7_feed 22 = .ok (.aload_n 0, 1) := by decide +kernel
theorem dX7_feed_23 : decode cX7_feed 23 = .ok (.getfield 23, 3) := by decide +kernel
theorem dX7_feed_26 : decode cX7_feed 26 = .ok (.iload_n 2, 1) := by decide +kernel
theorem dX7_feed_27 : decode cX7_feed 27 = .ok (.invokevirtual 151, 3) := by decide +kernel
theorem dX7_feed_30 : decode cX7_feed 30 = .ok (.aload_n 0, 1) := by decide +kernel
theorem dX7_feed_31 : decode cX7_feed 31 = .ok (.getfield 23, 3) := by decide +kernel
theorem dX7_feed_34 : decode cX7_feed 34 = .ok (.iload_n 3, 1) := by decide +kernel
theorem dX7_feed_35 : decode cX7_feed 35 = .ok (.invokevirtual 151, 3) := by decide +kernel
theorem dX7_feed_38 : decode cX7_feed 38 = .ok (.aload_n 0, 1) := by decide +kernel
theorem dX7_feed_39 : decode cX7_feed 39 = .ok (.getfield 23, 3) := by decide +kernel
theorem dX7_feed_42 : decode cX7_feed 42 = .ok (.iload 4, 2) := by decide +kernel
theorem dX7_feed_44 : decode cX7_feed 44 = .ok (.invokevirtual 151, 3) := by decide +kernel
theorem dX7_feed_47 : decode cX7_feed 47 = .ok (.aload_n 0, 1) := by decide +kernel
theorem dX7_feed_48 : decode cX7_feed 48 = .ok (.getfield 23, 3) := by decide +kernel
theorem dX7_feed_51 : decode cX7_feed 51 = .ok (.iload 5, 2) := by decide +kernel
theorem dX7_feed_53 : decode cX7_feed 53 = .ok (.invokevirtual 151, 3) := by decide +kernel
theorem dX7_feed_56 : decode cX7_feed 56 = .ok (.aload_n 0, 1) := by decide +kernel
theorem dX7_feed_57 : decode cX7_feed 57 = .ok (.getfield 23, 3) := by decide +kernel
theorem dX7_feed_60 : decode cX7_feed 60 = .ok (.getfield 154, 3) := by decide +kernel
theorem dX7_feed_63 : decode cX7_feed 63 = .ok (.ireturn, 1) := by decide +kernel
theorem dX7_end_0 : decode cX7_end 0 = .ok (.iload_n 1, 1) := by decide +kernel
theorem dX7_end_1 : decode cX7_end 1 = .ok (.ifCond .lt 14, 3) := by decide +kernel
theorem dX7_end_4 : decode cX7_end 4 = .ok (.iload_n 1, 1) := by decide +kernel
theorem dX7_end_5 : decode cX7_end 5 = .ok (.aload_n 0, 1) := by decide +kernel
theorem dX7_end_6 : decode cX7_end 6 = .ok (.getfield 23, 3) := by decide +kernel
theorem dX7_end_9 : decode cX7_end 9 = .ok (.getfield 154, 3) := by decide +kernel
theorem dX7_end_12 : decode cX7_end 12 = .ok (.if_icmp .le 5, 3) := by decide +kernel
theorem dX7_end_15 : decode cX7_end 15 = .ok (.iconst (-1), 1) := by decide +kernel
theorem dX7_end_16 : decode cX7_end 16 = .ok (.ireturn, 1) := by decide +kernel
theorem dX7_end_17 : decode cX7_end 17 = .ok (.aload_n 0, 1) := by decide +kernel
theorem dX7_end_18 : decode cX7_end 18 = .ok (.getfield 23, 3) := by decide +kernel
theorem dX7_end_21 : decode cX7_end 21 = .ok (.iload_n 1, 1) := by decide +kernel
theorem dX7_end_22 : decode cX7_end 22 = .ok (.putfield 154, 3) := by decide +kernel
theorem dX7_end_25 : decode cX7_end 25 = .ok (.iload_n 1, 1) := by decide +kernel
theorem dX7_end_26 : decode cX7_end 26 = .ok (.ireturn, 1) := by decide +kernel
theorem dX7_row_0 : decode cX7_row 0 = .ok (.aload_n 0, 1) := by decide +kernel
theorem dX7_row_1 : decode cX7_row 1 = .ok (.getfield 23, 3) := by decide +kernel
theorem dX7_row_4 : decode cX7_row 4 = .ok (.getfield 154, 3) := by decide +kernel
theorem dX7_row_7 : decode cX7_row 7 = .ok (.istore_n 1, 1) := by decide +kernel
theorem dX7_row_8 : decode cX7_row 8 = .ok (.iload_n 1, 1) := by decide +kernel
theorem dX7_row_9 : decode cX7_row 9 = .ok (.ifCond .ne 10, 3) := by decide +kernel
theorem dX7_row_12 : decode cX7_row 12 = .ok (.aload_n 0, 1) := by decide +kernel
theorem dX7_row_13 : decode cX7_row 13 = .ok (.bipush (-6), 2) := by decide +kernel
theorem dX7_row_15 : decode cX7_row 15 = .ok (.invokevirtual 87, 3) := by decide +kernel
theorem dX7_row_18 : decode cX7_row 18 = .ok (.ireturn, 1) := by decide +kernel
theorem dX7_row_19 : decode cX7_row 19 = .ok (.iconst 0, 1) := by decide +kernel
theorem dX7_row_20 : decode cX7_row 20 = .ok (.istore_n 2, 1) := by decide +kernel
theorem dX7_row_21 : decode cX7_row 21 = .ok (.iconst 0, 1) := by decide +kernel
theorem dX7_row_22 : decode cX7_row 22 = .ok (.istore_n 3, 1) := by decide +kernel
theorem dX7_row_23 : decode cX7_row 23 = .ok (.iload_n 3, 1) := by decide +kernel
theorem dX7_row_24 : decode cX7_row 24 = .ok (.iload_n 1, 1) := by decide +kernel
theorem dX7_row_25 : decode cX7_row 25 = .ok (.if_icmp .ge 55, 3) := by decide +kernel
theorem dX7_row_28 : decode cX7_row 28 = .ok (.aload_n 0, 1) := by decide +kernel
theorem dX7_row_29 : decode cX7_row 29 = .ok (.getfield 23, 3) := by decide +kernel
theorem dX7_row_32 : decode cX7_row 32 = .ok (.getfield 157, 3) := by decide +kernel
theorem dX7_row_35 : decode cX7_row 35 = .ok (.iload_n 3, 1) := by decide +kernel
theorem dX7_row_36 : decode cX7_row 36 = .ok (.baload, 1) := by decide +kernel
theorem dX7_row_37 : decode cX7_row 37 = .ok (.sipush 255, 3) := by decide +kernel
theorem dX7_row_40 : decode cX7_row 40 = .ok (.iand, 1) := by decide +kernel
theorem dX7_row_41 : decode cX7_row 41 = .ok (.istore 4, 2) := by decide +kernel
theorem dX7_row_43 : decode cX7_row 43 = .ok (.iload 4, 2) := by decide +kernel
theorem dX7_row_45 : decode cX7_row 45 = .ok (.bipush 9, 2) := by decide +kernel
theorem dX7_row_47 : decode cX7_row 47 = .ok (.if_icmp .gt 27, 3) := by decide +kernel
theorem dX7_row_50 : decode cX7_row 50 = .ok (.aload_n 0, 1) := by decide +kernel
theorem dX7_row_51 : decode cX7_row 51 = .ok (.getfield 12, 3) := by decide +kernel
theorem dX7_row_54 : decode cX7_row 54 = .ok (.getfield 91, 3) := by decide +kernel
theorem dX7_row_57 : decode cX7_row 57 = .ok (.bipush 6, 2) := by decide +kernel
theorem dX7_row_59 : decode cX7_row 59 = .ok (.if_icmp .ge 15, 3) := by decide +kernel
theorem dX7_row_62 : decode cX7_row 62 = .ok (.aload_n 0, 1) := by decide +kernel
theorem dX7_row_63 : decode cX7_row 63 = .ok (.getfield 12, 3) := by decide +kernel
theorem dX7_row_66 : decode cX7_row 66 = .ok (.iload 4, 2) := by decide +kernel
theorem dX7_row_68 : decode cX7_row 68 = .ok (.invokevirtual 94, 3) := by decide +kernel
theorem dX7_row_71 : decode cX7_row 71 = .ok (.iinc 2 1, 3) := by decide +kernel
theorem dX7_row_74 : decode cX7_row 74 = .ok (.iinc 3 1, 3) := by decide +kernel
theorem dX7_row_77 : decode cX7_row 77 = .ok (.goto (-54), 3) := by decide +kernel
theorem dX7_row_80 : decode cX7_row 80 = .ok (.aload_n 0, 1) := by decide +kernel
theorem dX7_row_81 : decode cX7_row 81 = .ok (.getfield 23, 3) := by decide +kernel
theorem dX7_row_84 : decode cX7_row 84 = .ok (.iconst 0, 1) := by decide +kernel
theorem dX7_row_85 : decode cX7_row 85 = .ok (.putfield 154, 3) := by decide +kernel
theorem dX7_row_88 : decode cX7_row 88 = .ok (.aload_n 0, 1) := by decide +kernel
theorem dX7_row_89 : decode cX7_row 89 = .ok (.iload_n 1, 1) := by decide +kernel
theorem dX7_row_90 : decode cX7_row 90 = .ok (.iload_n 2, 1) := by decide +kernel
theorem dX7_row_91 : decode cX7_row 91 = .ok (.isub, 1) := by decide +kernel
theorem dX7_row_92 : decode cX7_row 92 = .ok (.putfield 84, 3) := by decide +kernel
theorem dX7_row_95 : decode cX7_row 95 = .ok (.aload_n 0, 1) := by decide +kernel
theorem dX7_row_96 : decode cX7_row 96 = .ok (.invokevirtual 98, 3) := by decide +kernel
theorem dX7_row_99 : decode cX7_row 99 = .ok (.aload_n 0, 1) := by decide +kernel
theorem dX7_row_100 : decode cX7_row 100 = .ok (.iload_n 2, 1) := by decide +kernel
theorem dX7_row_101 : decode cX7_row 101 = .ok (.invokevirtual 101, 3) := by decide +kernel
theorem dX7_row_104 : decode cX7_row 104 = .ok (.ireturn, 1) := by decide +kernel
theorem dX7_lisps_0 : decode cX7_lisps 0 = .ok (.aload_n 0, 1) := by decide +kernel
theorem dX7_lisps_1 : decode cX7_lisps 1 = .ok (.getfield 84, 3) := by decide +kernel
theorem dX7_lisps_4 : decode cX7_lisps 4 = .ok (.ireturn, 1) := by decide +kernel
theorem dX7_law_0 : decode cX7_law 0 = .ok (.aload_n 0, 1) := by decide +kernel
theorem dX7_law_1 : decode cX7_law 1 = .ok (.getfield 12, 3) := by decide +kernel
theorem dX7_law_4 : decode cX7_law 4 = .ok (.getfield 161, 3) := by decide +kernel
theorem dX7_law_7 : decode cX7_law 7 = .ok (.bipush 6, 2) := by decide +kernel
theorem dX7_law_9 : decode cX7_law 9 = .ok (.if_icmp .lt 18, 3) := by decide +kernel
theorem dX7_law_12 : decode cX7_law 12 = .ok (.aload_n 0, 1) := by decide +kernel
theorem dX7_law_13 : decode cX7_law 13 = .ok (.getfield 23, 3) := by decide +kernel
theorem dX7_law_16 : decode cX7_law 16 = .ok (.iconst 0, 1) := by decide +kernel
theorem dX7_law_17 : decode cX7_law 17 = .ok (.putfield 154, 3) := by decide +kernel
theorem dX7_law_20 : decode cX7_law 20 = .ok (.aload_n 0, 1) := by decide +kernel
theorem dX7_law_21 : decode cX7_law 21 = .ok (.bipush (-5), 2) := by decide +kernel
theorem dX7_law_23 : decode cX7_law 23 = .ok (.invokevirtual 87, 3) := by decide +kernel
theorem dX7_law_26 : decode cX7_law 26 = .ok (.ireturn, 1) := by decide +kernel
theorem dX7_law_27 : decode cX7_law 27 = .ok (.aload_n 0, 1) := by decide +kernel
theorem dX7_law_28 : decode cX7_law 28 = .ok (.aload_n 0, 1) := by decide +kernel
theorem dX7_law_29 : decode cX7_law 29 = .ok (.getfield 23, 3) := by decide +kernel
theorem dX7_law_32 : decode cX7_law 32 = .ok (.iconst 1, 1) := by decide +kernel
theorem dX7_law_33 : decode cX7_law 33 = .ok (.invokevirtual 164, 3) := by decide +kernel
theorem dX7_law_36 : decode cX7_law 36 = .ok (.putfield 78, 3) := by decide +kernel
theorem dX7_law_39 : decode cX7_law 39 = .ok (.aload_n 0, 1) := by decide +kernel
theorem dX7_law_40 : decode cX7_law 40 = .ok (.getfield 78, 3) := by decide +kernel
theorem dX7_law_43 : decode cX7_law 43 = .ok (.iconst (-1), 1) := by decide +kernel
theorem dX7_law_44 : decode cX7_law 44 = .ok (.if_icmp .eq 10, 3) := by decide +kernel
theorem dX7_law_47 : decode cX7_law 47 = .ok (.aload_n 0, 1) := by decide +kernel
theorem dX7_law_48 : decode cX7_law 48 = .ok (.bipush (-6), 2) := by decide +kernel
theorem dX7_law_50 : decode cX7_law 50 = .ok (.invokevirtual 87, 3) := by decide +kernel
theorem dX7_law_53 : decode cX7_law 53 = .ok (.ireturn, 1) := by decide +kernel
theorem dX7_law_54 : decode cX7_law 54 = .ok (.aload_n 0, 1) := by decide +kernel
theorem dX7_law_55 : decode cX7_law 55 = .ok (.getfield 12, 3) := by decide +kernel
theorem dX7_law_58 : decode cX7_law 58 = .ok (.getfield 168, 3) := by decide +kernel
theorem dX7_law_61 : decode cX7_law 61 = .ok (.aload_n 0, 1) := by decide +kernel
theorem dX7_law_62 : decode cX7_law 62 = .ok (.getfield 12, 3) := by decide +kernel
theorem dX7_law_65 : decode cX7_law 65 = .ok (.getfield 161, 3) := by decide +kernel
theorem dX7_law_68 : decode cX7_law 68 = .ok (.aload_n 0, 1) := by decide +kernel
theorem dX7_law_69 : decode cX7_law 69 = .ok (.getfield 23, 3) := by decide +kernel
theorem dX7_law_72 : decode cX7_law 72 = .ok (.getfield 172, 3) := by decide +kernel
theorem dX7_law_75 : decode cX7_law 75 = .ok (.invokevirtual 176, 3) := by decide +kernel
theorem dX7_law_78 : decode cX7_law 78 = .ok (.aastore, 1) := by decide +kernel
theorem dX7_law_79 : decode cX7_law 79 = .ok (.aload_n 0, 1) := by decide +kernel
theorem dX7_law_80 : decode cX7_law 80 = .ok (.getfield 12, 3) := by decide +kernel
theorem dX7_law_83 : decode cX7_law 83 = .ok (.dup, 1) := by decide +kernel
theorem dX7_law_84 : decode cX7_law 84 = .ok (.getfield 161, 3) := by decide +kernel
theorem dX7_law_87 : decode cX7_law 87 = .ok (.iconst 1, 1) := by decide +kernel
theorem dX7_law_88 : decode cX7_law 88 = .ok (.iadd, 1) := by decide +kernel
theorem dX7_law_89 : decode cX7_law 89 = .ok (.putfield 161, 3) := by decide +kernel
theorem dX7_law_92 : decode cX7_law 92 = .ok (.aload_n 0, 1) := by decide +kernel
theorem dX7_law_93 : decode cX7_law 93 = .ok (.aload_n 0, 1) := by decide +kernel
theorem dX7_law_94 : decode cX7_law 94 = .ok (.getfield 12, 3) := by decide +kernel
theorem dX7_law_97 : decode cX7_law 97 = .ok (.getfield 161, 3) := by decide +kernel
theorem dX7_law_100 : decode cX7_law 100 = .ok (.iconst 1, 1) := by decide +kernel
theorem dX7_law_101 : decode cX7_law 101 = .ok (.isub, 1) := by decide +kernel
theorem dX7_law_102 : decode cX7_law 102 = .ok (.invokevirtual 101, 3) := by decide +kernel
theorem dX7_law_105 : decode cX7_law 105 = .ok (.ireturn, 1) := by decide +kernel
theorem dX7_orders_0 : decode cX7_orders 0 = .ok (.aload_n 0, 1) := by decide +kernel
theorem dX7_orders_1 : decode cX7_orders 1 = .ok (.iconst (-1), 1) := by decide +kernel
theorem dX7_orders_2 : decode cX7_orders 2 = .ok (.putfield 81, 3) := by decide +kernel
theorem dX7_orders_5 : decode cX7_orders 5 = .ok (.aload_n 0, 1) := by decide +kernel
theorem dX7_orders_6 : decode cX7_orders 6 = .ok (.aload_n 0, 1) := by decide +kernel
theorem dX7_orders_7 : decode cX7_orders 7 = .ok (.getfield 23, 3) := by decide +kernel
theorem dX7_orders_10 : decode cX7_orders 10 = .ok (.iconst 0, 1) := by decide +kernel
theorem dX7_orders_11 : decode cX7_orders 11 = .ok (.invokevirtual 164, 3) := by decide +kernel
theorem dX7_orders_14 : decode cX7_orders 14 = .ok (.putfield 78, 3) := by decide +kernel
theorem dX7_orders_17 : decode cX7_orders 17 = .ok (.aload_n 0, 1) := by decide +kernel
theorem dX7_orders_18 : decode cX7_orders 18 = .ok (.getfield 78, 3) := by decide +kernel
theorem dX7_orders_21 : decode cX7_orders 21 = .ok (.iconst (-1), 1) := by decide +kernel
theorem dX7_orders_22 : decode cX7_orders 22 = .ok (.if_icmp .eq 10, 3) := by decide +kernel
theorem dX7_orders_25 : decode cX7_orders 25 = .ok (.aload_n 0, 1) := by decide +kernel
theorem dX7_orders_26 : decode cX7_orders 26 = .ok (.bipush (-6), 2) := by decide +kernel
theorem dX7_orders_28 : decode cX7_orders 28 = .ok (.invokevirtual 87, 3) := by decide +kernel
theorem dX7_orders_31 : decode cX7_orders 31 = .ok (.ireturn, 1) := by decide +kernel
theorem dX7_orders_32 : decode cX7_orders 32 = .ok (.aload_n 0, 1) := by decide +kernel
theorem dX7_orders_33 : decode cX7_orders 33 = .ok (.aload_n 0, 1) := by decide +kernel
theorem dX7_orders_34 : decode cX7_orders 34 = .ok (.aload_n 0, 1) := by decide +kernel
theorem dX7_orders_35 : decode cX7_orders 35 = .ok (.getfield 23, 3) := by decide +kernel
theorem dX7_orders_38 : decode cX7_orders 38 = .ok (.getfield 172, 3) := by decide +kernel
theorem dX7_orders_41 : decode cX7_orders 41 = .ok (.invokevirtual 180, 3) := by decide +kernel
theorem dX7_orders_44 : decode cX7_orders 44 = .ok (.invokevirtual 184, 3) := by decide +kernel
theorem dX7_orders_47 : decode cX7_orders 47 = .ok (.ireturn, 1) := by decide +kernel
theorem dX7_fault_0 : decode cX7_fault 0 = .ok (.aload_n 0, 1) := by decide +kernel
theorem dX7_fault_1 : decode cX7_fault 1 = .ok (.getfield 78, 3) := by decide +kernel
theorem dX7_fault_4 : decode cX7_fault 4 = .ok (.ireturn, 1) := by decide +kernel
theorem dX7_stopped_0 : decode cX7_stopped 0 = .ok (.aload_n 0, 1) := by decide +kernel
theorem dX7_stopped_1 : decode cX7_stopped 1 = .ok (.getfield 81, 3) := by decide +kernel
theorem dX7_stopped_4 : decode cX7_stopped 4 = .ok (.ireturn, 1) := by decide +kernel
theorem dX7_force_0 : decode cX7_force 0 = .ok (.iload_n 1, 1) := by decide +kernel
theorem dX7_force_1 : decode cX7_force 1 = .ok (.iconst (-1), 1) := by decide +kernel
theorem dX7_force_2 : decode cX7_force 2 = .ok (.if_icmp .eq 21, 3) := by decide +kernel
theorem dX7_force_5 : decode cX7_force 5 = .ok (.aload_n 0, 1) := by decide +kernel
theorem dX7_force_6 : decode cX7_force 6 = .ok (.getfield 12, 3) := by decide +kernel
theorem dX7_force_9 : decode cX7_force 9 = .ok (.iload_n 1, 1) := by decide +kernel
theorem dX7_force_10 : decode cX7_force 10 = .ok (.invokevirtual 187, 3) := by decide +kernel
theorem dX7_force_13 : decode cX7_force 13 = .ok (.ifCond .eq 10, 3) := by decide +kernel
theorem dX7_force_16 : decode cX7_force 16 = .ok (.aload_n 0, 1) := by decide +kernel
theorem dX7_force_17 : decode cX7_force 17 = .ok (.bipush (-2), 2) := by decide +kernel
theorem dX7_force_19 : decode cX7_force 19 = .ok (.invokevirtual 87, 3) := by decide +kernel
theorem dX7_force_22 : decode cX7_force 22 = .ok (.ireturn, 1) := by decide +kernel
theorem dX7_force_23 : decode cX7_force 23 = .ok (.aload_n 0, 1) := by decide +kernel
theorem dX7_force_24 : decode cX7_force 24 = .ok (.getfield 12, 3) := by decide +kernel
theorem dX7_force_27 : decode cX7_force 27 = .ok (.getfield 190, 3) := by decide +kernel
theorem dX7_force_30 : decode cX7_force 30 = .ok (.istore_n 2, 1) := by decide +kernel
theorem dX7_force_31 : decode cX7_force 31 = .ok (.aload_n 0, 1) := by decide +kernel
theorem dX7_force_32 : decode cX7_force 32 = .ok (.getfield 12, 3) := by decide +kernel
theorem dX7_force_35 : decode cX7_force 35 = .ok (.iload_n 1, 1) := by decide +kernel
theorem dX7_force_36 : decode cX7_force 36 = .ok (.putfield 190, 3) := by decide +kernel
theorem dX7_force_39 : decode cX7_force 39 = .ok (.aload_n 0, 1) := by decide +kernel
theorem dX7_force_40 : decode cX7_force 40 = .ok (.iload_n 2, 1) := by decide +kernel
theorem dX7_force_41 : decode cX7_force 41 = .ok (.invokevirtual 101, 3) := by decide +kernel
theorem dX7_force_44 : decode cX7_force 44 = .ok (.ireturn, 1) := by decide +kernel
theorem dX7_say_0 : decode cX7_say 0 = .ok (.aload_n 0, 1) := by decide +kernel
theorem dX7_say_1 : decode cX7_say 1 = .ok (.aload_n 0, 1) := by decide +kernel
theorem dX7_say_2 : decode cX7_say 2 = .ok (.iload_n 1, 1) := by decide +kernel
theorem dX7_say_3 : decode cX7_say 3 = .ok (.invokevirtual 193, 3) := by decide +kernel
theorem dX7_say_6 : decode cX7_say 6 = .ok (.invokevirtual 184, 3) := by decide +kernel
theorem dX7_say_9 : decode cX7_say 9 = .ok (.ireturn, 1) := by decide +kernel
theorem dX7_falls_0 : decode cX7_falls 0 = .ok (.aload_n 0, 1) := by decide +kernel
theorem dX7_falls_1 : decode cX7_falls 1 = .ok (.getfield 12, 3) := by decide +kernel
theorem dX7_falls_4 : decode cX7_falls 4 = .ok (.iload_n 1, 1) := by decide +kernel
theorem dX7_falls_5 : decode cX7_falls 5 = .ok (.invokevirtual 120, 3) := by decide +kernel
theorem dX7_falls_8 : decode cX7_falls 8 = .ok (.ifCond .ne 27, 3) := by decide +kernel
theorem dX7_falls_11 : decode cX7_falls 11 = .ok (.iload_n 2, 1) := by decide +kernel
theorem dX7_falls_12 : decode cX7_falls 12 = .ok (.ifCond .lt 23, 3) := by decide +kernel
theorem dX7_falls_15 : decode cX7_falls 15 = .ok (.iload_n 2, 1) := by decide +kernel
theorem dX7_falls_16 : decode cX7_falls 16 = .ok (.bipush 15, 2) := by decide +kernel
theorem dX7_falls_18 : decode cX7_falls 18 = .ok (.if_icmp .gt 17, 3) := by decide +kernel
theorem dX7_falls_21 : decode cX7_falls 21 = .ok (.aload_n 0, 1) := by decide +kernel
theorem dX7_falls_22 : decode cX7_falls 22 = .ok (.getfield 12, 3) := by decide +kernel
theorem dX7_falls_25 : decode cX7_falls 25 = .ok (.getfield 111, 3) := by decide +kernel
theorem dX7_falls_28 : decode cX7_falls 28 = .ok (.invokestatic 123, 3) := by decide +kernel
theorem dX7_falls_31 : decode cX7_falls 31 = .ok (.iconst 2, 1) := by decide +kernel
theorem dX7_falls_32 : decode cX7_falls 32 = .ok (.if_icmp .ge 5, 3) := by decide +kernel
theorem dX7_falls_35 : decode cX7_falls 35 = .ok (.iconst (-1), 1) := by decide +kernel
theorem dX7_falls_36 : decode cX7_falls 36 = .ok (.ireturn, 1) := by decide +kernel
theorem dX7_falls_37 : decode cX7_falls 37 = .ok (.iload_n 2, 1) := by decide +kernel
theorem dX7_falls_38 : decode cX7_falls 38 = .ok (.ifCond .ne 25, 3) := by decide +kernel
theorem dX7_falls_41 : decode cX7_falls 41 = .ok (.aload_n 0, 1) := by decide +kernel
theorem dX7_falls_42 : decode cX7_falls 42 = .ok (.getfield 42, 3) := by decide +kernel
theorem dX7_falls_45 : decode cX7_falls 45 = .ok (.aload_n 0, 1) := by decide +kernel
theorem dX7_falls_46 : decode cX7_falls 46 = .ok (.getfield 12, 3) := by decide +kernel
theorem dX7_falls_49 : decode cX7_falls 49 = .ok (.getfield 111, 3) := by decide +kernel
theorem dX7_falls_52 : decode cX7_falls 52 = .ok (.aload_n 0, 1) := by decide +kernel
theorem dX7_falls_53 : decode cX7_falls 53 = .ok (.getfield 12, 3) := by decide +kernel
theorem dX7_falls_56 : decode cX7_falls 56 = .ok (.invokevirtual 196, 3) := by decide +kernel
theorem dX7_falls_59 : decode cX7_falls 59 = .ok (.invokevirtual 200, 3) := by decide +kernel
theorem dX7_falls_62 : decode cX7_falls 62 = .ok (.ireturn, 1) := by decide +kernel
theorem dX7_falls_63 : decode cX7_falls 63 = .ok (.aload_n 0, 1) := by decide +kernel
theorem dX7_falls_64 : decode cX7_falls 64 = .ok (.invokevirtual 128, 3) := by decide +kernel
theorem dX7_falls_67 : decode cX7_falls 67 = .ok (.aload_n 0, 1) := by decide +kernel
theorem dX7_falls_68 : decode cX7_falls 68 = .ok (.getfield 42, 3) := by decide +kernel
theorem dX7_falls_71 : decode cX7_falls 71 = .ok (.aload_n 0, 1) := by decide +kernel
theorem dX7_falls_72 : decode cX7_falls 72 = .ok (.getfield 12, 3) := by decide +kernel
theorem dX7_falls_75 : decode cX7_falls 75 = .ok (.getfield 111, 3) := by decide +kernel
theorem dX7_falls_78 : decode cX7_falls 78 = .ok (.aload_n 0, 1) := by decide +kernel
theorem dX7_falls_79 : decode cX7_falls 79 = .ok (.getfield 12, 3) := by decide +kernel
theorem dX7_falls_82 : decode cX7_falls 82 = .ok (.invokevirtual 196, 3) := by decide +kernel
theorem dX7_falls_85 : decode cX7_falls 85 = .ok (.iload_n 1, 1) := by decide +kernel
theorem dX7_falls_86 : decode cX7_falls 86 = .ok (.iconst 0, 1) := by decide +kernel
theorem dX7_falls_87 : decode cX7_falls 87 = .ok (.invokevirtual 204, 3) := by decide +kernel
theorem dX7_falls_90 : decode cX7_falls 90 = .ok (.pop, 1) := by decide +kernel
theorem dX7_falls_91 : decode cX7_falls 91 = .ok (.iload_n 2, 1) := by decide +kernel
theorem dX7_falls_92 : decode cX7_falls 92 = .ok (.aload_n 0, 1) := by decide +kernel
theorem dX7_falls_93 : decode cX7_falls 93 = .ok (.getfield 42, 3) := by decide +kernel
theorem dX7_falls_96 : decode cX7_falls 96 = .ok (.getfield 208, 3) := by decide +kernel
theorem dX7_falls_99 : decode cX7_falls 99 = .ok (.if_icmp .le 7, 3) := by decide +kernel
theorem dX7_falls_102 : decode cX7_falls 102 = .ok (.iconst (-1), 1) := by decide +kernel
theorem dX7_falls_103 : decode cX7_falls 103 = .ok (.goto 12, 3) := by decide +kernel
theorem dX7_falls_106 : decode cX7_falls 106 = .ok (.aload_n 0, 1) := by decide +kernel
theorem dX7_falls_107 : decode cX7_falls 107 = .ok (.getfield 42, 3) := by decide +kernel
theorem dX7_falls_110 : decode cX7_falls 110 = .ok (.getfield 211, 3) := by decide +kernel
theorem dX7_falls_113 : decode cX7_falls 113 = .ok (.iload_n 2, 1) := by decide +kernel
theorem dX7_falls_114 : decode cX7_falls 114 = .ok (.iaload, 1) := by decide +kernel
theorem dX7_falls_115 : decode cX7_falls 115 = .ok (.ireturn, 1) := by decide +kernel
theorem dX7_join_0 : decode cX7_join 0 = .ok (.aload_n 0, 1) := by decide +kernel
theorem dX7_join_1 : decode cX7_join 1 = .ok (.aload_n 0, 1) := by decide +kernel
theorem dX7_join_2 : decode cX7_join 2 = .ok (.iconst 1, 1) := by decide +kernel
theorem dX7_join_3 : decode cX7_join 3 = .ok (.iload_n 1, 1) := by decide +kernel
theorem dX7_join_4 : decode cX7_join 4 = .ok (.invokevirtual 214, 3) := by decide +kernel
theorem dX7_join_7 : decode cX7_join 7 = .ok (.invokevirtual 184, 3) := by decide +kernel
theorem dX7_join_10 : decode cX7_join 10 = .ok (.ireturn, 1) := by decide +kernel
theorem dX7_leave_0 : decode cX7_leave 0 = .ok (.aload_n 0, 1) := by decide +kernel
theorem dX7_leave_1 : decode cX7_leave 1 = .ok (.aload_n 0, 1) := by decide +kernel
theorem dX7_leave_2 : decode cX7_leave 2 = .ok (.iconst 2, 1) := by decide +kernel
theorem dX7_leave_3 : decode cX7_leave 3 = .ok (.iload_n 1, 1) := by decide +kernel
theorem dX7_leave_4 : decode cX7_leave 4 = .ok (.invokevirtual 214, 3) := by decide +kernel
theorem dX7_leave_7 : decode cX7_leave 7 = .ok (.invokevirtual 184, 3) := by decide +kernel
theorem dX7_leave_10 : decode cX7_leave 10 = .ok (.ireturn, 1) := by decide +kernel
theorem dX7_pass_0 : decode cX7_pass 0 = .ok (.aload_n 0, 1) := by decide +kernel
theorem dX7_pass_1 : decode cX7_pass 1 = .ok (.aload_n 0, 1) := by decide +kernel
theorem dX7_pass_2 : decode cX7_pass 2 = .ok (.invokevirtual 217, 3) := by decide +kernel
theorem dX7_pass_5 : decode cX7_pass 5 = .ok (.invokevirtual 184, 3) := by decide +kernel
theorem dX7_pass_8 : decode cX7_pass 8 = .ok (.ireturn, 1) := by decide +kernel
theorem dX7_undo_0 : decode cX7_undo 0 = .ok (.aload_n 0, 1) := by decide +kernel
theorem dX7_undo_1 : decode cX7_undo 1 = .ok (.getfield 30, 3) := by decide +kernel
theorem dX7_undo_4 : decode cX7_undo 4 = .ok (.aload_n 0, 1) := by decide +kernel
theorem dX7_undo_5 : decode cX7_undo 5 = .ok (.getfield 12, 3) := by decide +kernel
theorem dX7_undo_8 : decode cX7_undo 8 = .ok (.invokevirtual 220, 3) := by decide +kernel
theorem dX7_undo_11 : decode cX7_undo 11 = .ok (.istore_n 1, 1) := by decide +kernel
theorem dX7_undo_12 : decode cX7_undo 12 = .ok (.iload_n 1, 1) := by decide +kernel
theorem dX7_undo_13 : decode cX7_undo 13 = .ok (.iconst (-1), 1) := by decide +kernel
theorem dX7_undo_14 : decode cX7_undo 14 = .ok (.if_icmp .ne 12, 3) := by decide +kernel
theorem dX7_undo_17 : decode cX7_undo 17 = .ok (.aload_n 0, 1) := by decide +kernel
theorem dX7_undo_18 : decode cX7_undo 18 = .ok (.bipush (-3), 2) := by decide +kernel
theorem dX7_undo_20 : decode cX7_undo 20 = .ok (.invokevirtual 87, 3) := by decide +kernel
theorem dX7_undo_23 : decode cX7_undo 23 = .ok (.goto 8, 3) := by decide +kernel
theorem dX7_undo_26 : decode cX7_undo 26 = .ok (.aload_n 0, 1) := by decide +kernel
theorem dX7_undo_27 : decode cX7_undo 27 = .ok (.iload_n 1, 1) := by decide +kernel
theorem dX7_undo_28 : decode cX7_undo 28 = .ok (.invokevirtual 101, 3) := by decide +kernel
theorem dX7_undo_31 : decode cX7_undo 31 = .ok (.ireturn, 1) := by decide +kernel
theorem dX7_left_0 : decode cX7_left 0 = .ok (.aload_n 0, 1) := by decide +kernel
theorem dX7_left_1 : decode cX7_left 1 = .ok (.getfield 12, 3) := by decide +kernel
theorem dX7_left_4 : decode cX7_left 4 = .ok (.iload_n 1, 1) := by decide +kernel
theorem dX7_left_5 : decode cX7_left 5 = .ok (.invokevirtual 120, 3) := by decide +kernel
theorem dX7_left_8 : decode cX7_left 8 = .ok (.ifCond .eq 5, 3) := by decide +kernel
theorem dX7_left_11 : decode cX7_left 11 = .ok (.iconst (-1), 1) := by decide +kernel
theorem dX7_left_12 : decode cX7_left 12 = .ok (.ireturn, 1) := by decide +kernel
theorem dX7_left_13 : decode cX7_left 13 = .ok (.aload_n 0, 1) := by decide +kernel
theorem dX7_left_14 : decode cX7_left 14 = .ok (.invokevirtual 128, 3) := by decide +kernel
theorem dX7_left_17 : decode cX7_left 17 = .ok (.aload_n 0, 1) := by decide +kernel
theorem dX7_left_18 : decode cX7_left 18 = .ok (.getfield 51, 3) := by decide +kernel
theorem dX7_left_21 : decode cX7_left 21 = .ok (.aload_n 0, 1) := by decide +kernel
theorem dX7_left_22 : decode cX7_left 22 = .ok (.getfield 12, 3) := by decide +kernel
theorem dX7_left_25 : decode cX7_left 25 = .ok (.invokevirtual 224, 3) := by decide +kernel
theorem dX7_left_28 : decode cX7_left 28 = .ok (.iload_n 1, 1) := by decide +kernel
theorem dX7_left_29 : decode cX7_left 29 = .ok (.invokevirtual 227, 3) := by decide +kernel
theorem dX7_left_32 : decode cX7_left 32 = .ok (.istore_n 3, 1) := by decide +kernel
theorem dX7_left_33 : decode cX7_left 33 = .ok (.iload_n 2, 1) := by decide +kernel
theorem dX7_left_34 : decode cX7_left 34 = .ok (.iconst (-1), 1) := by decide +kernel
theorem dX7_left_35 : decode cX7_left 35 = .ok (.if_icmp .eq 8, 3) := by decide +kernel
theorem dX7_left_38 : decode cX7_left 38 = .ok (.iload_n 3, 1) := by decide +kernel
theorem dX7_left_39 : decode cX7_left 39 = .ok (.iconst (-1), 1) := by decide +kernel
theorem dX7_left_40 : decode cX7_left 40 = .ok (.if_icmp .ne 5, 3) := by decide +kernel
theorem dX7_left_43 : decode cX7_left 43 = .ok (.iload_n 3, 1) := by decide +kernel
theorem dX7_left_44 : decode cX7_left 44 = .ok (.ireturn, 1) := by decide +kernel
theorem dX7_left_45 : decode cX7_left 45 = .ok (.iload_n 2, 1) := by decide +kernel
theorem dX7_left_46 : decode cX7_left 46 = .ok (.ifCond .lt 14, 3) := by decide +kernel
theorem dX7_left_49 : decode cX7_left 49 = .ok (.iload_n 2, 1) := by decide +kernel
theorem dX7_left_50 : decode cX7_left 50 = .ok (.aload_n 0, 1) := by decide +kernel
theorem dX7_left_51 : decode cX7_left 51 = .ok (.getfield 51, 3) := by decide +kernel
theorem dX7_left_54 : decode cX7_left 54 = .ok (.getfield 230, 3) := by decide +kernel
theorem dX7_left_57 : decode cX7_left 57 = .ok (.if_icmp .lt 7, 3) := by decide +kernel
theorem dX7_left_60 : decode cX7_left 60 = .ok (.iconst (-1), 1) := by decide +kernel
theorem dX7_left_61 : decode cX7_left 61 = .ok (.goto 12, 3) := by decide +kernel
theorem dX7_left_64 : decode cX7_left 64 = .ok (.aload_n 0, 1) := by decide +kernel
theorem dX7_left_65 : decode cX7_left 65 = .ok (.getfield 51, 3) := by decide +kernel
theorem dX7_left_68 : decode cX7_left 68 = .ok (.getfield 233, 3) := by decide +kernel
theorem dX7_left_71 : decode cX7_left 71 = .ok (.iload_n 2, 1) := by decide +kernel
theorem dX7_left_72 : decode cX7_left 72 = .ok (.iaload, 1) := by decide +kernel
theorem dX7_left_73 : decode cX7_left 73 = .ok (.ireturn, 1) := by decide +kernel
theorem dX7_safe_0 : decode cX7_safe 0 = .ok (.aload_n 0, 1) := by decide +kernel
theorem dX7_safe_1 : decode cX7_safe 1 = .ok (.getfield 12, 3) := by decide +kernel
theorem dX7_safe_4 : decode cX7_safe 4 = .ok (.iload_n 1, 1) := by decide +kernel
theorem dX7_safe_5 : decode cX7_safe 5 = .ok (.invokevirtual 104, 3) := by decide +kernel
theorem dX7_safe_8 : decode cX7_safe 8 = .ok (.ifCond .ne 14, 3) := by decide +kernel
theorem dX7_safe_11 : decode cX7_safe 11 = .ok (.aload_n 0, 1) := by decide +kernel
theorem dX7_safe_12 : decode cX7_safe 12 = .ok (.getfield 12, 3) := by decide +kernel
theorem dX7_safe_15 : decode cX7_safe 15 = .ok (.iload_n 2, 1) := by decide +kernel
theorem dX7_safe_16 : decode cX7_safe 16 = .ok (.invokevirtual 120, 3) := by decide +kernel
theorem dX7_safe_19 : decode cX7_safe 19 = .ok (.ifCond .eq 5, 3) := by decide +kernel
theorem dX7_safe_22 : decode cX7_safe 22 = .ok (.iconst (-1), 1) := by decide +kernel
theorem dX7_safe_23 : decode cX7_safe 23 = .ok (.ireturn, 1) := by decide +kernel
theorem dX7_safe_24 : decode cX7_safe 24 = .ok (.aload_n 0, 1) := by decide +kernel
theorem dX7_safe_25 : decode cX7_safe 25 = .ok (.invokevirtual 128, 3) := by decide +kernel
theorem dX7_safe_28 : decode cX7_safe 28 = .ok (.iconst 0, 1) := by decide +kernel
theorem dX7_safe_29 : decode cX7_safe 29 = .ok (.istore_n 3, 1) := by decide +kernel
theorem dX7_safe_30 : decode cX7_safe 30 = .ok (.iconst 0, 1) := by decide +kernel
theorem dX7_safe_31 : decode cX7_safe 31 = .ok (.istore 4, 2) := by decide +kernel
theorem dX7_safe_33 : decode cX7_safe 33 = .ok (.iload 4, 2) := by decide +kernel
theorem dX7_safe_35 : decode cX7_safe 35 = .ok (.aload_n 0, 1) := by decide +kernel
theorem dX7_safe_36 : decode cX7_safe 36 = .ok (.getfield 12, 3) := by decide +kernel
theorem dX7_safe_39 : decode cX7_safe 39 = .ok (.getfield 91, 3) := by decide +kernel
theorem dX7_safe_42 : decode cX7_safe 42 = .ok (.if_icmp .ge 41, 3) := by decide +kernel
theorem dX7_safe_45 : decode cX7_safe 45 = .ok (.aload_n 0, 1) := by decide +kernel
theorem dX7_safe_46 : decode cX7_safe 46 = .ok (.getfield 51, 3) := by decide +kernel
theorem dX7_safe_49 : decode cX7_safe 49 = .ok (.aload_n 0, 1) := by decide +kernel
theorem dX7_safe_50 : decode cX7_safe 50 = .ok (.getfield 12, 3) := by decide +kernel
theorem dX7_safe_53 : decode cX7_safe 53 = .ok (.getfield 111, 3) := by decide +kernel
theorem dX7_safe_56 : decode cX7_safe 56 = .ok (.bipush 6, 2) := by decide +kernel
theorem dX7_safe_58 : decode cX7_safe 58 = .ok (.imul, 1) := by decide +kernel
theorem dX7_safe_59 : decode cX7_safe 59 = .ok (.iload 4, 2) := by decide +kernel
theorem dX7_safe_61 : decode cX7_safe 61 = .ok (.iadd, 1) := by decide +kernel
theorem dX7_safe_62 : decode cX7_safe 62 = .ok (.iload_n 2, 1) := by decide +kernel
theorem dX7_safe_63 : decode cX7_safe 63 = .ok (.invokevirtual 227, 3) := by decide +kernel
theorem dX7_safe_66 : decode cX7_safe 66 = .ok (.iload_n 1, 1) := by decide +kernel
theorem dX7_safe_67 : decode cX7_safe 67 = .ok (.if_icmp .ne 10, 3) := by decide +kernel
theorem dX7_safe_70 : decode cX7_safe 70 = .ok (.iload_n 3, 1) := by decide +kernel
theorem dX7_safe_71 : decode cX7_safe 71 = .ok (.iconst 1, 1) := by decide +kernel
theorem dX7_safe_72 : decode cX7_safe 72 = .ok (.iload 4, 2) := by decide +kernel
theorem dX7_safe_74 : decode cX7_safe 74 = .ok (.ishl, 1) := by decide +kernel
theorem dX7_safe_75 : decode cX7_safe 75 = .ok (.ior, 1) := by decide +kernel
theorem dX7_safe_76 : decode cX7_safe 76 = .ok (.istore_n 3, 1) := by decide +kernel
theorem dX7_safe_77 : decode cX7_safe 77 = .ok (.iinc 4 1, 3) := by decide +kernel
theorem dX7_safe_80 : decode cX7_safe 80 = .ok (.goto (-47), 3) := by decide +kernel
theorem dX7_safe_83 : decode cX7_safe 83 = .ok (.iload_n 3, 1) := by decide +kernel
theorem dX7_safe_84 : decode cX7_safe 84 = .ok (.ireturn, 1) := by decide +kernel
theorem dX7_alone_0 : decode cX7_alone 0 = .ok (.aload_n 0, 1) := by decide +kernel
theorem dX7_alone_1 : decode cX7_alone 1 = .ok (.getfield 12, 3) := by decide +kernel
theorem dX7_alone_4 : decode cX7_alone 4 = .ok (.iload_n 1, 1) := by decide +kernel
theorem dX7_alone_5 : decode cX7_alone 5 = .ok (.invokevirtual 104, 3) := by decide +kernel
theorem dX7_alone_8 : decode cX7_alone 8 = .ok (.ifCond .eq 5, 3) := by decide +kernel
theorem dX7_alone_11 : decode cX7_alone 11 = .ok (.iconst (-1), 1) := by decide +kernel
theorem dX7_alone_12 : decode cX7_alone 12 = .ok (.ireturn, 1) := by decide +kernel
theorem dX7_alone_13 : decode cX7_alone 13 = .ok (.aload_n 0, 1) := by decide +kernel
theorem dX7_alone_14 : decode cX7_alone 14 = .ok (.invokevirtual 128, 3) := by decide +kernel
theorem dX7_alone_17 : decode cX7_alone 17 = .ok (.aload_n 0, 1) := by decide +kernel
theorem dX7_alone_18 : decode cX7_alone 18 = .ok (.getfield 51, 3) := by decide +kernel
theorem dX7_alone_21 : decode cX7_alone 21 = .ok (.aload_n 0, 1) := by decide +kernel
theorem dX7_alone_22 : decode cX7_alone 22 = .ok (.getfield 12, 3) := by decide +kernel
theorem dX7_alone_25 : decode cX7_alone 25 = .ok (.invokevirtual 224, 3) := by decide +kernel
theorem dX7_alone_28 : decode cX7_alone 28 = .ok (.iconst 1, 1) := by decide +kernel
theorem dX7_alone_29 : decode cX7_alone 29 = .ok (.iload_n 1, 1) := by decide +kernel
theorem dX7_alone_30 : decode cX7_alone 30 = .ok (.ishl, 1) := by decide +kernel
theorem dX7_alone_31 : decode cX7_alone 31 = .ok (.invokevirtual 236, 3) := by decide +kernel
theorem dX7_alone_34 : decode cX7_alone 34 = .ok (.istore_n 3, 1) := by decide +kernel
theorem dX7_alone_35 : decode cX7_alone 35 = .ok (.iload_n 3, 1) := by decide +kernel
theorem dX7_alone_36 : decode cX7_alone 36 = .ok (.iconst (-1), 1) := by decide +kernel
theorem dX7_alone_37 : decode cX7_alone 37 = .ok (.if_icmp .ne 5, 3) := by decide +kernel
theorem dX7_alone_40 : decode cX7_alone 40 = .ok (.iconst (-1), 1) := by decide +kernel
theorem dX7_alone_41 : decode cX7_alone 41 = .ok (.ireturn, 1) := by decide +kernel
theorem dX7_alone_42 : decode cX7_alone 42 = .ok (.aload_n 0, 1) := by decide +kernel
theorem dX7_alone_43 : decode cX7_alone 43 = .ok (.getfield 51, 3) := by decide +kernel
theorem dX7_alone_46 : decode cX7_alone 46 = .ok (.iload_n 3, 1) := by decide +kernel
theorem dX7_alone_47 : decode cX7_alone 47 = .ok (.invokevirtual 239, 3) := by decide +kernel
theorem dX7_alone_50 : decode cX7_alone 50 = .ok (.istore 4, 2) := by decide +kernel
theorem dX7_alone_52 : decode cX7_alone 52 = .ok (.iload_n 2, 1) := by decide +kernel
theorem dX7_alone_53 : decode cX7_alone 53 = .ok (.iconst (-1), 1) := by decide +kernel
theorem dX7_alone_54 : decode cX7_alone 54 = .ok (.if_icmp .ne 6, 3) := by decide +kernel
theorem dX7_alone_57 : decode cX7_alone 57 = .ok (.iload 4, 2) := by decide +kernel
theorem dX7_alone_59 : decode cX7_alone 59 = .ok (.ireturn, 1) := by decide +kernel
theorem dX7_alone_60 : decode cX7_alone 60 = .ok (.iload_n 2, 1) := by decide +kernel
theorem dX7_alone_61 : decode cX7_alone 61 = .ok (.ifCond .lt 9, 3) := by decide +kernel
theorem dX7_alone_64 : decode cX7_alone 64 = .ok (.iload_n 2, 1) := by decide +kernel
theorem dX7_alone_65 : decode cX7_alone 65 = .ok (.iload 4, 2) := by decide +kernel
theorem dX7_alone_67 : decode cX7_alone 67 = .ok (.if_icmp .lt 7, 3) := by decide +kernel
theorem dX7_alone_70 : decode cX7_alone 70 = .ok (.iconst (-1), 1) := by decide +kernel
theorem dX7_alone_71 : decode cX7_alone 71 = .ok (.goto 17, 3) := by decide +kernel
theorem dX7_alone_74 : decode cX7_alone 74 = .ok (.aload_n 0, 1) := by decide +kernel
theorem dX7_alone_75 : decode cX7_alone 75 = .ok (.getfield 51, 3) := by decide +kernel
theorem dX7_alone_78 : decode cX7_alone 78 = .ok (.iload_n 3, 1) := by decide +kernel
theorem dX7_alone_79 : decode cX7_alone 79 = .ok (.iload 4, 2) := by decide +kernel
theorem dX7_alone_81 : decode cX7_alone 81 = .ok (.iconst 1, 1) := by decide +kernel
theorem dX7_alone_82 : decode cX7_alone 82 = .ok (.isub, 1) := by decide +kernel
theorem dX7_alone_83 : decode cX7_alone 83 = .ok (.iload_n 2, 1) := by decide +kernel
theorem dX7_alone_84 : decode cX7_alone 84 = .ok (.isub, 1) := by decide +kernel
theorem dX7_alone_85 : decode cX7_alone 85 = .ok (.invokevirtual 242, 3) := by decide +kernel
theorem dX7_alone_88 : decode cX7_alone 88 = .ok (.ireturn, 1) := by decide +kernel
theorem dX7_game_0 : decode cX7_game 0 = .ok (.iload_n 1, 1) := by decide +kernel
theorem dX7_game_1 : decode cX7_game 1 = .ok (.ifCond .eq 10, 3) := by decide +kernel
theorem dX7_game_4 : decode cX7_game 4 = .ok (.iload_n 1, 1) := by decide +kernel
theorem dX7_game_5 : decode cX7_game 5 = .ok (.iconst 1, 1) := by decide +kernel
theorem dX7_game_6 : decode cX7_game 6 = .ok (.if_icmp .eq 5, 3) := by decide +kernel
theorem dX7_game_9 : decode cX7_game 9 = .ok (.iconst (-1), 1) := by decide +kernel
theorem dX7_game_10 : decode cX7_game 10 = .ok (.ireturn, 1) := by decide +kernel
theorem dX7_game_11 : decode cX7_game 11 = .ok (.aload_n 0, 1) := by decide +kernel
theorem dX7_game_12 : decode cX7_game 12 = .ok (.invokevirtual 128, 3) := by decide +kernel
theorem dX7_game_15 : decode cX7_game 15 = .ok (.aload_n 0, 1) := by decide +kernel
theorem dX7_game_16 : decode cX7_game 16 = .ok (.getfield 51, 3) := by decide +kernel
theorem dX7_game_19 : decode cX7_game 19 = .ok (.aload_n 0, 1) := by decide +kernel
theorem dX7_game_20 : decode cX7_game 20 = .ok (.getfield 12, 3) := by decide +kernel
theorem dX7_game_23 : decode cX7_game 23 = .ok (.invokevirtual 224, 3) := by decide +kernel
theorem dX7_game_26 : decode cX7_game 26 = .ok (.invokevirtual 245, 3) := by decide +kernel
theorem dX7_game_29 : decode cX7_game 29 = .ok (.istore_n 2, 1) := by decide +kernel
theorem dX7_game_30 : decode cX7_game 30 = .ok (.iload_n 1, 1) := by decide +kernel
theorem dX7_game_31 : decode cX7_game 31 = .ok (.ifCond .ne 7, 3) := by decide +kernel
theorem dX7_game_34 : decode cX7_game 34 = .ok (.iload_n 2, 1) := by decide +kernel
theorem dX7_game_35 : decode cX7_game 35 = .ok (.goto 10, 3) := by decide +kernel
theorem dX7_game_38 : decode cX7_game 38 = .ok (.aload_n 0, 1) := by decide +kernel
theorem dX7_game_39 : decode cX7_game 39 = .ok (.getfield 51, 3) := by decide +kernel
theorem dX7_game_42 : decode cX7_game 42 = .ok (.getfield 248, 3) := by decide +kernel
theorem dX7_game_45 : decode cX7_game 45 = .ok (.ireturn, 1) := by decide +kernel
theorem dX7_chances_0 : decode cX7_chances 0 = .ok (.aload_n 0, 1) := by decide +kernel
theorem dX7_chances_1 : decode cX7_chances 1 = .ok (.getfield 12, 3) := by decide +kernel
theorem dX7_chances_4 : decode cX7_chances 4 = .ok (.iload_n 1, 1) := by decide +kernel
theorem dX7_chances_5 : decode cX7_chances 5 = .ok (.invokevirtual 104, 3) := by decide +kernel
theorem dX7_chances_8 : decode cX7_chances 8 = .ok (.ifCond .ne 23, 3) := by decide +kernel
theorem dX7_chances_11 : decode cX7_chances 11 = .ok (.aload_n 0, 1) := by decide +kernel
theorem dX7_chances_12 : decode cX7_chances 12 = .ok (.getfield 12, 3) := by decide +kernel
theorem dX7_chances_15 : decode cX7_chances 15 = .ok (.getfield 114, 3) := by decide +kernel
theorem dX7_chances_18 : decode cX7_chances 18 = .ok (.ifCond .eq 13, 3) := by decide +kernel
theorem dX7_chances_21 : decode cX7_chances 21 = .ok (.iload_n 2, 1) := by decide +kernel
theorem dX7_chances_22 : decode cX7_chances 22 = .ok (.ifCond .lt 9, 3) := by decide +kernel
theorem dX7_chances_25 : decode cX7_chances 25 = .ok (.iload_n 2, 1) := by decide +kernel
theorem dX7_chances_26 : decode cX7_chances 26 = .ok (.bipush 20, 2) := by decide +kernel
theorem dX7_chances_28 : decode cX7_chances 28 = .ok (.if_icmp .le 7, 3) := by decide +kernel
theorem dX7_chances_31 : decode cX7_chances 31 = .ok (.ldc2_w 251, 3) := by decide +kernel
theorem dX7_chances_34 : decode cX7_chances 34 = .ok (.lreturn, 1) := by decide +kernel
theorem dX7_chances_35 : decode cX7_chances 35 = .ok (.aload_n 0, 1) := by decide +kernel
theorem dX7_chances_36 : decode cX7_chances 36 = .ok (.invokevirtual 128, 3) := by decide +kernel
theorem dX7_chances_39 : decode cX7_chances 39 = .ok (.aload_n 0, 1) := by decide +kernel
theorem dX7_chances_40 : decode cX7_chances 40 = .ok (.getfield 51, 3) := by decide +kernel
theorem dX7_chances_43 : decode cX7_chances 43 = .ok (.aload_n 0, 1) := by decide +kernel
theorem dX7_chances_44 : decode cX7_chances 44 = .ok (.getfield 12, 3) := by decide +kernel
theorem dX7_chances_47 : decode cX7_chances 47 = .ok (.invokevirtual 224, 3) := by decide +kernel
theorem dX7_chances_50 : decode cX7_chances 50 = .ok (.iload_n 1, 1) := by decide +kernel
theorem dX7_chances_51 : decode cX7_chances 51 = .ok (.iload_n 2, 1) := by decide +kernel
theorem dX7_chances_52 : decode cX7_chances 52 = .ok (.invokevirtual 253, 3) := by decide +kernel
theorem dX7_chances_55 : decode cX7_chances 55 = .ok (.lreturn, 1) := by decide +kernel
theorem dX7_said_0 : decode cX7_said 0 = .ok (.iload_n 1, 1) := by decide +kernel
theorem dX7_said_1 : decode cX7_said 1 = .ok (.ifCond .lt 13, 3) := by decide +kernel
theorem dX7_said_4 : decode cX7_said 4 = .ok (.iload_n 1, 1) := by decide +kernel
theorem dX7_said_5 : decode cX7_said 5 = .ok (.iconst 4, 1) := by decide +kernel
theorem dX7_said_6 : decode cX7_said 6 = .ok (.if_icmp .gt 8, 3) := by decide +kernel
theorem dX7_said_9 : decode cX7_said 9 = .ok (.iload_n 2, 1) := by decide +kernel
theorem dX7_said_10 : decode cX7_said 10 = .ok (.iconst (-1), 1) := by decide +kernel
theorem dX7_said_11 : decode cX7_said 11 = .ok (.if_icmp .ge 5, 3) := by decide +kernel
theorem dX7_said_14 : decode cX7_said 14 = .ok (.iconst (-1), 1) := by decide +kernel
theorem dX7_said_15 : decode cX7_said 15 = .ok (.ireturn, 1) := by decide +kernel
theorem dX7_said_16 : decode cX7_said 16 = .ok (.aload_n 0, 1) := by decide +kernel
theorem dX7_said_17 : decode cX7_said 17 = .ok (.invokevirtual 128, 3) := by decide +kernel
theorem dX7_said_20 : decode cX7_said 20 = .ok (.aload_n 0, 1) := by decide +kernel
theorem dX7_said_21 : decode cX7_said 21 = .ok (.getfield 51, 3) := by decide +kernel
theorem dX7_said_24 : decode cX7_said 24 = .ok (.iload_n 1, 1) := by decide +kernel
theorem dX7_said_25 : decode cX7_said 25 = .ok (.iload_n 2, 1) := by decide +kernel
theorem dX7_said_26 : decode cX7_said 26 = .ok (.invokevirtual 257, 3) := by decide +kernel
theorem dX7_said_29 : decode cX7_said 29 = .ok (.istore 4, 2) := by decide +kernel
theorem dX7_said_31 : decode cX7_said 31 = .ok (.iload_n 2, 1) := by decide +kernel
theorem dX7_said_32 : decode cX7_said 32 = .ok (.iconst (-1), 1) := by decide +kernel
theorem dX7_said_33 : decode cX7_said 33 = .ok (.if_icmp .eq 9, 3) := by decide +kernel
theorem dX7_said_36 : decode cX7_said 36 = .ok (.iload 4, 2) := by decide +kernel
theorem dX7_said_38 : decode cX7_said 38 = .ok (.iconst (-1), 1) := by decide +kernel
theorem dX7_said_39 : decode cX7_said 39 = .ok (.if_icmp .ne 6, 3) := by decide +kernel
theorem dX7_said_42 : decode cX7_said 42 = .ok (.iload 4, 2) := by decide +kernel
theorem dX7_said_44 : decode cX7_said 44 = .ok (.ireturn, 1) := by decide +kernel
theorem dX7_said_45 : decode cX7_said 45 = .ok (.iload_n 3, 1) := by decide +kernel
theorem dX7_said_46 : decode cX7_said 46 = .ok (.ifCond .lt 8, 3) := by decide +kernel
theorem dX7_said_49 : decode cX7_said 49 = .ok (.iload_n 3, 1) := by decide +kernel
theorem dX7_said_50 : decode cX7_said 50 = .ok (.iload_n 1, 1) := by decide +kernel
theorem dX7_said_51 : decode cX7_said 51 = .ok (.if_icmp .lt 7, 3) := by decide +kernel
theorem dX7_said_54 : decode cX7_said 54 = .ok (.iconst (-1), 1) := by decide +kernel
theorem dX7_said_55 : decode cX7_said 55 = .ok (.goto 17, 3) := by decide +kernel
theorem dX7_said_58 : decode cX7_said 58 = .ok (.aload_n 0, 1) := by decide +kernel
theorem dX7_said_59 : decode cX7_said 59 = .ok (.getfield 51, 3) := by decide +kernel
theorem dX7_said_62 : decode cX7_said 62 = .ok (.iload 4, 2) := by decide +kernel
theorem dX7_said_64 : decode cX7_said 64 = .ok (.iload_n 1, 1) := by decide +kernel
theorem dX7_said_65 : decode cX7_said 65 = .ok (.iconst 1, 1) := by decide +kernel
theorem dX7_said_66 : decode cX7_said 66 = .ok (.isub, 1) := by decide +kernel
theorem dX7_said_67 : decode cX7_said 67 = .ok (.iload_n 3, 1) := by decide +kernel
theorem dX7_said_68 : decode cX7_said 68 = .ok (.isub, 1) := by decide +kernel
theorem dX7_said_69 : decode cX7_said 69 = .ok (.invokevirtual 260, 3) := by decide +kernel
theorem dX7_said_72 : decode cX7_said 72 = .ok (.ireturn, 1) := by decide +kernel
theorem dX7_compare_0 : decode cX7_compare 0 = .ok (.iload_n 1, 1) := by decide +kernel
theorem dX7_compare_1 : decode cX7_compare 1 = .ok (.iconst (-1), 1) := by decide +kernel
theorem dX7_compare_2 : decode cX7_compare 2 = .ok (.if_icmp .eq 14, 3) := by decide +kernel
theorem dX7_compare_5 : decode cX7_compare 5 = .ok (.aload_n 0, 1) := by decide +kernel
theorem dX7_compare_6 : decode cX7_compare 6 = .ok (.getfield 12, 3) := by decide +kernel
theorem dX7_compare_9 : decode cX7_compare 9 = .ok (.iload_n 1, 1) := by decide +kernel
theorem dX7_compare_10 : decode cX7_compare 10 = .ok (.invokevirtual 187, 3) := by decide +kernel
theorem dX7_compare_13 : decode cX7_compare 13 = .ok (.ifCond .ne 14, 3) := by decide +kernel
theorem dX7_compare_16 : decode cX7_compare 16 = .ok (.aload_n 0, 1) := by decide +kernel
theorem dX7_compare_17 : decode cX7_compare 17 = .ok (.getfield 12, 3) := by decide +kernel
theorem dX7_compare_20 : decode cX7_compare 20 = .ok (.iload_n 2, 1) := by decide +kernel
theorem dX7_compare_21 : decode cX7_compare 21 = .ok (.invokevirtual 120, 3) := by decide +kernel
theorem dX7_compare_24 : decode cX7_compare 24 = .ok (.ifCond .eq 5, 3) := by decide +kernel
theorem dX7_compare_27 : decode cX7_compare 27 = .ok (.iconst (-1), 1) := by decide +kernel
theorem dX7_compare_28 : decode cX7_compare 28 = .ok (.ireturn, 1) := by decide +kernel
theorem dX7_compare_29 : decode cX7_compare 29 = .ok (.aload_n 0, 1) := by decide +kernel
theorem dX7_compare_30 : decode cX7_compare 30 = .ok (.getfield 42, 3) := by decide +kernel
theorem dX7_compare_33 : decode cX7_compare 33 = .ok (.iload_n 1, 1) := by decide +kernel
theorem dX7_compare_34 : decode cX7_compare 34 = .ok (.iconst (-1), 1) := by decide +kernel
theorem dX7_compare_35 : decode cX7_compare 35 = .ok (.if_icmp .ne 7, 3) := by decide +kernel
theorem dX7_compare_38 : decode cX7_compare 38 = .ok (.aconst_null, 1) := by decide +kernel
theorem dX7_compare_39 : decode cX7_compare 39 = .ok (.goto 12, 3) := by decide +kernel
theorem dX7_compare_42 : decode cX7_compare 42 = .ok (.aload_n 0, 1) := by decide +kernel
theorem dX7_compare_43 : decode cX7_compare 43 = .ok (.getfield 12, 3) := by decide +kernel
theorem dX7_compare_46 : decode cX7_compare 46 = .ok (.getfield 168, 3) := by decide +kernel
theorem dX7_compare_49 : decode cX7_compare 49 = .ok (.iload_n 1, 1) := by decide +kernel
theorem dX7_compare_50 : decode cX7_compare 50 = .ok (.aaload, 1) := by decide +kernel
theorem dX7_compare_51 : decode cX7_compare 51 = .ok (.aload_n 0, 1) := by decide +kernel
theorem dX7_compare_52 : decode cX7_compare 52 = .ok (.getfield 12, 3) := by decide +kernel
theorem dX7_compare_55 : decode cX7_compare 55 = .ok (.getfield 142, 3) := by decide +kernel
theorem dX7_compare_58 : decode cX7_compare 58 = .ok (.iconst 0, 1) := by decide +kernel
theorem dX7_compare_59 : decode cX7_compare 59 = .ok (.iaload, 1) := by decide +kernel
theorem dX7_compare_60 : decode cX7_compare 60 = .ok (.invokevirtual 263, 3) := by decide +kernel
theorem dX7_compare_63 : decode cX7_compare 63 = .ok (.aload_n 0, 1) := by decide +kernel
theorem dX7_compare_64 : decode cX7_compare 64 = .ok (.getfield 51, 3) := by decide +kernel
theorem dX7_compare_67 : decode cX7_compare 67 = .ok (.aload_n 0, 1) := by decide +kernel
theorem dX7_compare_68 : decode cX7_compare 68 = .ok (.getfield 12, 3) := by decide +kernel
theorem dX7_compare_71 : decode cX7_compare 71 = .ok (.invokevirtual 224, 3) := by decide +kernel
theorem dX7_compare_74 : decode cX7_compare 74 = .ok (.iload_n 2, 1) := by decide +kernel
theorem dX7_compare_75 : decode cX7_compare 75 = .ok (.invokevirtual 227, 3) := by decide +kernel
theorem dX7_compare_78 : decode cX7_compare 78 = .ok (.ireturn, 1) := by decide +kernel
theorem dX7_quarters_0 : decode cX7_quarters 0 = .ok (.iload_n 1, 1) := by decide +kernel
theorem dX7_quarters_1 : decode cX7_quarters 1 = .ok (.ifCond .lt 21, 3) := by decide +kernel
theorem dX7_quarters_4 : decode cX7_quarters 4 = .ok (.iload_n 1, 1) := by decide +kernel
theorem dX7_quarters_5 : decode cX7_quarters 5 = .ok (.ldc_w 267, 3) := by decide +kernel
theorem dX7_quarters_8 : decode cX7_quarters 8 = .ok (.if_icmp .gt 14, 3) := by decide +kernel
theorem dX7_quarters_11 : decode cX7_quarters 11 = .ok (.iload_n 2, 1) := by decide +kernel
theorem dX7_quarters_12 : decode cX7_quarters 12 = .ok (.iconst 1, 1) := by decide +kernel
theorem dX7_quarters_13 : decode cX7_quarters 13 = .ok (.if_icmp .lt 9, 3) := by decide +kernel
theorem dX7_quarters_16 : decode cX7_quarters 16 = .ok (.iload_n 2, 1) := by decide +kernel
theorem dX7_quarters_17 : decode cX7_quarters 17 = .ok (.bipush 60, 2) := by decide +kernel
theorem dX7_quarters_19 : decode cX7_quarters 19 = .ok (.if_icmp .le 9, 3) := by decide +kernel
theorem dX7_quarters_22 : decode cX7_quarters 22 = .ok (.aload_n 0, 1) := by decide +kernel
theorem dX7_quarters_23 : decode cX7_quarters 23 = .ok (.iconst (-1), 1) := by decide +kernel
theorem dX7_quarters_24 : decode cX7_quarters 24 = .ok (.invokevirtual 87, 3) := by decide +kernel
theorem dX7_quarters_27 : decode cX7_quarters 27 = .ok (.ireturn, 1) := by decide +kernel
theorem dX7_quarters_28 : decode cX7_quarters 28 = .ok (.aload_n 0, 1) := by decide +kernel
theorem dX7_quarters_29 : decode cX7_quarters 29 = .ok (.getfield 12, 3) := by decide +kernel
theorem dX7_quarters_32 : decode cX7_quarters 32 = .ok (.getfield 114, 3) := by decide +kernel
theorem dX7_quarters_35 : decode cX7_quarters 35 = .ok (.ifCond .eq 13, 3) := by decide +kernel
theorem dX7_quarters_38 : decode cX7_quarters 38 = .ok (.aload_n 0, 1) := by decide +kernel
theorem dX7_quarters_39 : decode cX7_quarters 39 = .ok (.getfield 12, 3) := by decide +kernel
theorem dX7_quarters_42 : decode cX7_quarters 42 = .ok (.getfield 91, 3) := by decide +kernel
theorem dX7_quarters_45 : decode cX7_quarters 45 = .ok (.ifCond .ne 10, 3) := by decide +kernel
theorem dX7_quarters_48 : decode cX7_quarters 48 = .ok (.aload_n 0, 1) := by decide +kernel
theorem dX7_quarters_49 : decode cX7_quarters 49 = .ok (.bipush (-3), 2) := by decide +kernel
theorem dX7_quarters_51 : decode cX7_quarters 51 = .ok (.invokevirtual 87, 3) := by decide +kernel
theorem dX7_quarters_54 : decode cX7_quarters 54 = .ok (.ireturn, 1) := by decide +kernel
theorem dX7_quarters_55 : decode cX7_quarters 55 = .ok (.aload_n 0, 1) := by decide +kernel
theorem dX7_quarters_56 : decode cX7_quarters 56 = .ok (.aload_n 0, 1) := by decide +kernel
theorem dX7_quarters_57 : decode cX7_quarters 57 = .ok (.getfield 58, 3) := by decide +kernel
theorem dX7_quarters_60 : decode cX7_quarters 60 = .ok (.iload_n 1, 1) := by decide +kernel
theorem dX7_quarters_61 : decode cX7_quarters 61 = .ok (.iload_n 2, 1) := by decide +kernel
theorem dX7_quarters_62 : decode cX7_quarters 62 = .ok (.invokevirtual 268, 3) := by decide +kernel
theorem dX7_quarters_65 : decode cX7_quarters 65 = .ok (.invokevirtual 101, 3) := by decide +kernel
theorem dX7_quarters_68 : decode cX7_quarters 68 = .ok (.ireturn, 1) := by decide +kernel
theorem dX7_drawn_0 : decode cX7_drawn 0 = .ok (.iload_n 1, 1) := by decide +kernel
theorem dX7_drawn_1 : decode cX7_drawn 1 = .ok (.ifCond .lt 14, 3) := by decide +kernel
theorem dX7_drawn_4 : decode cX7_drawn 4 = .ok (.iload_n 1, 1) := by decide +kernel
theorem dX7_drawn_5 : decode cX7_drawn 5 = .ok (.aload_n 0, 1) := by decide +kernel
theorem dX7_drawn_6 : decode cX7_drawn 6 = .ok (.getfield 58, 3) := by decide +kernel
theorem dX7_drawn_9 : decode cX7_drawn 9 = .ok (.getfield 271, 3) := by decide +kernel
theorem dX7_drawn_12 : decode cX7_drawn 12 = .ok (.if_icmp .lt 5, 3) := by decide +kernel
theorem dX7_drawn_15 : decode cX7_drawn 15 = .ok (.iconst (-1), 1) := by decide +kernel
theorem dX7_drawn_16 : decode cX7_drawn 16 = .ok (.ireturn, 1) := by decide +kernel
theorem dX7_drawn_17 : decode cX7_drawn 17 = .ok (.iload_n 2, 1) := by decide +kernel
theorem dX7_drawn_18 : decode cX7_drawn 18 = .ok (.lookupswitch 48 #[(0, 26), (1, 36)], 26) := by decide +kernel
theorem dX7_drawn_44 : decode cX7_drawn 44 = .ok (.aload_n 0, 1) := by decide +kernel
theorem dX7_drawn_45 : decode cX7_drawn 45 = .ok (.getfield 58, 3) := by decide +kernel
theorem dX7_drawn_48 : decode cX7_drawn 48 = .ok (.getfield 272, 3) := by decide +kernel
theorem dX7_drawn_51 : decode cX7_drawn 51 = .ok (.iload_n 1, 1) := by decide +kernel
theorem dX7_drawn_52 : decode cX7_drawn 52 = .ok (.iaload, 1) := by decide +kernel
theorem dX7_drawn_53 : decode cX7_drawn 53 = .ok (.ireturn, 1) := by decide +kernel
theorem dX7_drawn_54 : decode cX7_drawn 54 = .ok (.aload_n 0, 1) := by decide +kernel
theorem dX7_drawn_55 : decode cX7_drawn 55 = .ok (.getfield 58, 3) := by decide +kernel
theorem dX7_drawn_58 : decode cX7_drawn 58 = .ok (.getfield 275, 3) := by decide +kernel
theorem dX7_drawn_61 : decode cX7_drawn 61 = .ok (.iload_n 1, 1) := by decide +kernel
theorem dX7_drawn_62 : decode cX7_drawn 62 = .ok (.ishr, 1) := by decide +kernel
theorem dX7_drawn_63 : decode cX7_drawn 63 = .ok (.iconst 1, 1) := by decide +kernel
theorem dX7_drawn_64 : decode cX7_drawn 64 = .ok (.iand, 1) := by decide +kernel
theorem dX7_drawn_65 : decode cX7_drawn 65 = .ok (.ireturn, 1) := by decide +kernel
theorem dX7_drawn_66 : decode cX7_drawn 66 = .ok (.iconst (-1), 1) := by decide +kernel
theorem dX7_drawn_67 : decode cX7_drawn 67 = .ok (.ireturn, 1) := by decide +kernel
theorem dX7_image_0 : decode cX7_image 0 = .ok (.iload_n 1, 1) := by decide +kernel
theorem dX7_image_1 : decode cX7_image 1 = .ok (.ifCond .lt 8, 3) := by decide +kernel
theorem dX7_image_4 : decode cX7_image 4 = .ok (.iload_n 1, 1) := by decide +kernel
theorem dX7_image_5 : decode cX7_image 5 = .ok (.iconst 2, 1) := by decide +kernel
theorem dX7_image_6 : decode cX7_image 6 = .ok (.if_icmp .lt 9, 3) := by decide +kernel
theorem dX7_image_9 : decode cX7_image 9 = .ok (.aload_n 0, 1) := by decide +kernel
theorem dX7_image_10 : decode cX7_image 10 = .ok (.iconst (-1), 1) := by decide +kernel
theorem dX7_image_11 : decode cX7_image 11 = .ok (.invokevirtual 87, 3) := by decide +kernel
theorem dX7_image_14 : decode cX7_image 14 = .ok (.ireturn, 1) := by decide +kernel
theorem dX7_image_15 : decode cX7_image 15 = .ok (.aload_n 0, 1) := by decide +kernel
theorem dX7_image_16 : decode cX7_image 16 = .ok (.getfield 16, 3) := by decide +kernel
theorem dX7_image_19 : decode cX7_image 19 = .ok (.iload_n 1, 1) := by decide +kernel
theorem dX7_image_20 : decode cX7_image 20 = .ok (.aaload, 1) := by decide +kernel
theorem dX7_image_21 : decode cX7_image 21 = .ok (.ifnonnull 16, 3) := by decide +kernel
theorem dX7_image_24 : decode cX7_image 24 = .ok (.aload_n 0, 1) := by decide +kernel
theorem dX7_image_25 : decode cX7_image 25 = .ok (.getfield 16, 3) := by decide +kernel
theorem dX7_image_28 : decode cX7_image 28 = .ok (.iload_n 1, 1) := by decide +kernel
theorem dX7_image_29 : decode cX7_image 29 = .ok (.new 9, 3) := by decide +kernel
theorem dX7_image_32 : decode cX7_image 32 = .ok (.dup, 1) := by decide +kernel
theorem dX7_image_33 : decode cX7_image 33 = .ok (.invokespecial 11, 3) := by decide +kernel
theorem dX7_image_36 : decode cX7_image 36 = .ok (.aastore, 1) := by decide +kernel
theorem dX7_image_37 : decode cX7_image 37 = .ok (.aload_n 0, 1) := by decide +kernel
theorem dX7_image_38 : decode cX7_image 38 = .ok (.getfield 16, 3) := by decide +kernel
theorem dX7_image_41 : decode cX7_image 41 = .ok (.iload_n 1, 1) := by decide +kernel
theorem dX7_image_42 : decode cX7_image 42 = .ok (.aaload, 1) := by decide +kernel
theorem dX7_image_43 : decode cX7_image 43 = .ok (.aload_n 0, 1) := by decide +kernel
theorem dX7_image_44 : decode cX7_image 44 = .ok (.getfield 12, 3) := by decide +kernel
theorem dX7_image_47 : decode cX7_image 47 = .ok (.invokevirtual 276, 3) := by decide +kernel
theorem dX7_image_50 : decode cX7_image 50 = .ok (.aload_n 0, 1) := by decide +kernel
theorem dX7_image_51 : decode cX7_image 51 = .ok (.iconst 0, 1) := by decide +kernel
theorem dX7_image_52 : decode cX7_image 52 = .ok (.invokevirtual 101, 3) := by decide +kernel
theorem dX7_image_55 : decode cX7_image 55 = .ok (.ireturn, 1) := by decide +kernel
theorem dX7_back_0 : decode cX7_back 0 = .ok (.iload_n 1, 1) := by decide +kernel
theorem dX7_back_1 : decode cX7_back 1 = .ok (.ifCond .lt 8, 3) := by decide +kernel
theorem dX7_back_4 : decode cX7_back 4 = .ok (.iload_n 1, 1) := by decide +kernel
theorem dX7_back_5 : decode cX7_back 5 = .ok (.iconst 2, 1) := by decide +kernel
theorem dX7_back_6 : decode cX7_back 6 = .ok (.if_icmp .lt 9, 3) := by decide +kernel
theorem dX7_back_9 : decode cX7_back 9 = .ok (.aload_n 0, 1) := by decide +kernel
theorem dX7_back_10 : decode cX7_back 10 = .ok (.iconst (-1), 1) := by decide +kernel
theorem dX7_back_11 : decode cX7_back 11 = .ok (.invokevirtual 87, 3) := by decide +kernel
theorem dX7_back_14 : decode cX7_back 14 = .ok (.ireturn, 1) := by decide +kernel
theorem dX7_back_15 : decode cX7_back 15 = .ok (.aload_n 0, 1) := by decide +kernel
theorem dX7_back_16 : decode cX7_back 16 = .ok (.getfield 16, 3) := by decide +kernel
theorem dX7_back_19 : decode cX7_back 19 = .ok (.iload_n 1, 1) := by decide +kernel
theorem dX7_back_20 : decode cX7_back 20 = .ok (.aaload, 1) := by decide +kernel
theorem dX7_back_21 : decode cX7_back 21 = .ok (.ifnonnull 10, 3) := by decide +kernel
theorem dX7_back_24 : decode cX7_back 24 = .ok (.aload_n 0, 1) := by decide +kernel
theorem dX7_back_25 : decode cX7_back 25 = .ok (.bipush (-2), 2) := by decide +kernel
theorem dX7_back_27 : decode cX7_back 27 = .ok (.invokevirtual 87, 3) := by decide +kernel
theorem dX7_back_30 : decode cX7_back 30 = .ok (.ireturn, 1) := by decide +kernel
theorem dX7_back_31 : decode cX7_back 31 = .ok (.aload_n 0, 1) := by decide +kernel
theorem dX7_back_32 : decode cX7_back 32 = .ok (.getfield 12, 3) := by decide +kernel
theorem dX7_back_35 : decode cX7_back 35 = .ok (.aload_n 0, 1) := by decide +kernel
theorem dX7_back_36 : decode cX7_back 36 = .ok (.getfield 16, 3) := by decide +kernel
theorem dX7_back_39 : decode cX7_back 39 = .ok (.iload_n 1, 1) := by decide +kernel
theorem dX7_back_40 : decode cX7_back 40 = .ok (.aaload, 1) := by decide +kernel
theorem dX7_back_41 : decode cX7_back 41 = .ok (.invokevirtual 276, 3) := by decide +kernel
theorem dX7_back_44 : decode cX7_back 44 = .ok (.aload_n 0, 1) := by decide +kernel
theorem dX7_back_45 : decode cX7_back 45 = .ok (.invokevirtual 98, 3) := by decide +kernel
theorem dX7_back_48 : decode cX7_back 48 = .ok (.aload_n 0, 1) := by decide +kernel
theorem dX7_back_49 : decode cX7_back 49 = .ok (.iconst 0, 1) := by decide +kernel
theorem dX7_back_50 : decode cX7_back 50 = .ok (.invokevirtual 101, 3) := by decide +kernel
theorem dX7_back_53 : decode cX7_back 53 = .ok (.ireturn, 1) := by decide +kernel
theorem dX7_count_0 : decode cX7_count 0 = .ok (.iload_n 1, 1) := by decide +kernel
theorem dX7_count_1 : decode cX7_count 1 = .ok (.bipush 6, 2) := by decide +kernel
theorem dX7_count_3 : decode cX7_count 3 = .ok (.if_icmp .lt 19, 3) := by decide +kernel
theorem dX7_count_6 : decode cX7_count 6 = .ok (.iload_n 1, 1) := by decide +kernel
theorem dX7_count_7 : decode cX7_count 7 = .ok (.bipush 10, 2) := by decide +kernel
theorem dX7_count_9 : decode cX7_count 9 = .ok (.if_icmp .gt 13, 3) := by decide +kernel
theorem dX7_count_12 : decode cX7_count 12 = .ok (.aload_n 0, 1) := by decide +kernel
theorem dX7_count_13 : decode cX7_count 13 = .ok (.getfield 62, 3) := by decide +kernel
theorem dX7_count_16 : decode cX7_count 16 = .ok (.iload_n 1, 1) := by decide +kernel
theorem dX7_count_17 : decode cX7_count 17 = .ok (.bipush 6, 2) := by decide +kernel
theorem dX7_count_19 : decode cX7_count 19 = .ok (.isub, 1) := by decide +kernel
theorem dX7_count_20 : decode cX7_count 20 = .ok (.iaload, 1) := by decide +kernel
theorem dX7_count_21 : decode cX7_count 21 = .ok (.ireturn, 1) := by decide +kernel
theorem dX7_count_22 : decode cX7_count 22 = .ok (.iload_n 1, 1) := by decide +kernel
theorem dX7_count_23 : decode cX7_count 23 = .ok (.bipush 12, 2) := by decide +kernel
theorem dX7_count_25 : decode cX7_count 25 = .ok (.if_icmp .lt 22, 3) := by decide +kernel
theorem dX7_count_28 : decode cX7_count 28 = .ok (.iload_n 1, 1) := by decide +kernel
theorem dX7_count_29 : decode cX7_count 29 = .ok (.bipush 15, 2) := by decide +kernel
theorem dX7_count_31 : decode cX7_count 31 = .ok (.if_icmp .gt 16, 3) := by decide +kernel
theorem dX7_count_34 : decode cX7_count 34 = .ok (.aload_n 0, 1) := by decide +kernel
theorem dX7_count_35 : decode cX7_count 35 = .ok (.getfield 12, 3) := by decide +kernel
theorem dX7_count_38 : decode cX7_count 38 = .ok (.getfield 142, 3) := by decide +kernel
theorem dX7_count_41 : decode cX7_count 41 = .ok (.iload_n 1, 1) := by decide +kernel
theorem dX7_count_42 : decode cX7_count 42 = .ok (.bipush 12, 2) := by decide +kernel
theorem dX7_count_44 : decode cX7_count 44 = .ok (.isub, 1) := by decide +kernel
theorem dX7_count_45 : decode cX7_count 45 = .ok (.iaload, 1) := by decide +kernel
theorem dX7_count_46 : decode cX7_count 46 = .ok (.ireturn, 1) := by decide +kernel
theorem dX7_count_47 : decode cX7_count 47 = .ok (.iload_n 1, 1) := by decide +kernel
theorem dX7_count_48 : decode cX7_count 48 = .ok (.tableswitch 123 0 11 #[64, 72, 83, 91, 99, 107, 123, 123, 123, 123, 123, 115], 64) := by decide +kernel
theorem dX7_count_112 : decode cX7_count 112 = .ok (.aload_n 0, 1) := by decide +kernel
theorem dX7_count_113 : decode cX7_count 113 = .ok (.getfield 12, 3) := by decide +kernel
theorem dX7_count_116 : decode cX7_count 116 = .ok (.getfield 91, 3) := by decide +kernel
theorem dX7_count_119 : decode cX7_count 119 = .ok (.ireturn, 1) := by decide +kernel
theorem dX7_count_120 : decode cX7_count 120 = .ok (.aload_n 0, 1) := by decide +kernel
theorem dX7_count_121 : decode cX7_count 121 = .ok (.getfield 12, 3) := by decide +kernel
theorem dX7_count_124 : decode cX7_count 124 = .ok (.getfield 111, 3) := by decide +kernel
theorem dX7_count_127 : decode cX7_count 127 = .ok (.invokestatic 123, 3) := by decide +kernel
theorem dX7_count_130 : decode cX7_count 130 = .ok (.ireturn, 1) := by decide +kernel
theorem dX7_count_131 : decode cX7_count 131 = .ok (.aload_n 0, 1) := by decide +kernel
theorem dX7_count_132 : decode cX7_count 132 = .ok (.getfield 12, 3) := by decide +kernel
theorem dX7_count_135 : decode cX7_count 135 = .ok (.getfield 114, 3) := by decide +kernel
theorem dX7_count_138 : decode cX7_count 138 = .ok (.ireturn, 1) := by decide +kernel
theorem dX7_count_139 : decode cX7_count 139 = .ok (.aload_n 0, 1) := by decide +kernel
theorem dX7_count_140 : decode cX7_count 140 = .ok (.getfield 12, 3) := by decide +kernel
theorem dX7_count_143 : decode cX7_count 143 = .ok (.getfield 161, 3) := by decide +kernel
theorem dX7_count_146 : decode cX7_count 146 = .ok (.ireturn, 1) := by decide +kernel
theorem dX7_count_147 : decode cX7_count 147 = .ok (.aload_n 0, 1) := by decide +kernel
theorem dX7_count_148 : decode cX7_count 148 = .ok (.getfield 30, 3) := by decide +kernel
theorem dX7_count_151 : decode cX7_count 151 = .ok (.getfield 279, 3) := by decide +kernel
theorem dX7_count_154 : decode cX7_count 154 = .ok (.ireturn, 1) := by decide +kernel
theorem dX7_count_155 : decode cX7_count 155 = .ok (.aload_n 0, 1) := by decide +kernel
theorem dX7_count_156 : decode cX7_count 156 = .ok (.getfield 23, 3) := by decide +kernel
theorem dX7_count_159 : decode cX7_count 159 = .ok (.getfield 154, 3) := by decide +kernel
theorem dX7_count_162 : decode cX7_count 162 = .ok (.ireturn, 1) := by decide +kernel
theorem dX7_count_163 : decode cX7_count 163 = .ok (.aload_n 0, 1) := by decide +kernel
theorem dX7_count_164 : decode cX7_count 164 = .ok (.getfield 12, 3) := by decide +kernel
theorem dX7_count_167 : decode cX7_count 167 = .ok (.getfield 190, 3) := by decide +kernel
theorem dX7_count_170 : decode cX7_count 170 = .ok (.ireturn, 1) := by decide +kernel
theorem dX7_count_171 : decode cX7_count 171 = .ok (.iconst (-1), 1) := by decide +kernel
theorem dX7_count_172 : decode cX7_count 172 = .ok (.ireturn, 1) := by decide +kernel
theorem dX7_status_0 : decode cX7_status 0 = .ok (.aload_n 0, 1) := by decide +kernel
theorem dX7_status_1 : decode cX7_status 1 = .ok (.getfield 74, 3) := by decide +kernel
theorem dX7_status_4 : decode cX7_status 4 = .ok (.ireturn, 1) := by decide +kernel
theorem dX7_settled_0 : decode cX7_settled 0 = .ok (.aload_n 0, 1) := by decide +kernel
theorem dX7_settled_1 : decode cX7_settled 1 = .ok (.iconst 0, 1) := by decide +kernel
theorem dX7_settled_2 : decode cX7_settled 2 = .ok (.putfield 74, 3) := by decide +kernel
theorem dX7_settled_5 : decode cX7_settled 5 = .ok (.iload_n 1, 1) := by decide +kernel
theorem dX7_settled_6 : decode cX7_settled 6 = .ok (.ireturn, 1) := by decide +kernel
theorem dX7_refused_0 : decode cX7_refused 0 = .ok (.iload_n 1, 1) := by decide +kernel
theorem dX7_refused_1 : decode cX7_refused 1 = .ok (.bipush (-4), 2) := by decide +kernel
theorem dX7_refused_3 : decode cX7_refused 3 = .ok (.if_icmp .le 10, 3) := by decide +kernel
theorem dX7_refused_6 : decode cX7_refused 6 = .ok (.iload_n 1, 1) := by decide +kernel
theorem dX7_refused_7 : decode cX7_refused 7 = .ok (.ineg, 1) := by decide +kernel
theorem dX7_refused_8 : decode cX7_refused 8 = .ok (.iconst 1, 1) := by decide +kernel
theorem dX7_refused_9 : decode cX7_refused 9 = .ok (.isub, 1) := by decide +kernel
theorem dX7_refused_10 : decode cX7_refused 10 = .ok (.goto 7, 3) := by decide +kernel
theorem dX7_refused_13 : decode cX7_refused 13 = .ok (.iload_n 1, 1) := by decide +kernel
theorem dX7_refused_14 : decode cX7_refused 14 = .ok (.ineg, 1) := by decide +kernel
theorem dX7_refused_15 : decode cX7_refused 15 = .ok (.iconst 2, 1) := by decide +kernel
theorem dX7_refused_16 : decode cX7_refused 16 = .ok (.isub, 1) := by decide +kernel
theorem dX7_refused_17 : decode cX7_refused 17 = .ok (.istore_n 2, 1) := by decide +kernel
theorem dX7_refused_18 : decode cX7_refused 18 = .ok (.iload_n 2, 1) := by decide +kernel
theorem dX7_refused_19 : decode cX7_refused 19 = .ok (.ifCond .lt 22, 3) := by decide +kernel
theorem dX7_refused_22 : decode cX7_refused 22 = .ok (.iload_n 2, 1) := by decide +kernel
theorem dX7_refused_23 : decode cX7_refused 23 = .ok (.aload_n 0, 1) := by decide +kernel
theorem dX7_refused_24 : decode cX7_refused 24 = .ok (.getfield 62, 3) := by decide +kernel
theorem dX7_refused_27 : decode cX7_refused 27 = .ok (.arraylength, 1) := by decide +kernel
theorem dX7_refused_28 : decode cX7_refused 28 = .ok (.if_icmp .ge 13, 3) := by decide +kernel
theorem dX7_refused_31 : decode cX7_refused 31 = .ok (.aload_n 0, 1) := by decide +kernel
theorem dX7_refused_32 : decode cX7_refused 32 = .ok (.getfield 62, 3) := by decide +kernel
theorem dX7_refused_35 : decode cX7_refused 35 = .ok (.iload_n 2, 1) := by decide +kernel
theorem dX7_refused_36 : decode cX7_refused 36 = .ok (.dup2, 1) := by decide +kernel
theorem dX7_refused_37 : decode cX7_refused 37 = .ok (.iaload, 1) := by decide +kernel
theorem dX7_refused_38 : decode cX7_refused 38 = .ok (.iconst 1, 1) := by decide +kernel
theorem dX7_refused_39 : decode cX7_refused 39 = .ok (.iadd, 1) := by decide +kernel
theorem dX7_refused_40 : decode cX7_refused 40 = .ok (.iastore, 1) := by decide +kernel
theorem dX7_refused_41 : decode cX7_refused 41 = .ok (.aload_n 0, 1) := by decide +kernel
theorem dX7_refused_42 : decode cX7_refused 42 = .ok (.iload_n 1, 1) := by decide +kernel
theorem dX7_refused_43 : decode cX7_refused 43 = .ok (.putfield 74, 3) := by decide +kernel
theorem dX7_refused_46 : decode cX7_refused 46 = .ok (.iload_n 1, 1) := by decide +kernel
theorem dX7_refused_47 : decode cX7_refused 47 = .ok (.ireturn, 1) := by decide +kernel
theorem dX7_answered_0 : decode cX7_answered 0 = .ok (.iload_n 1, 1) := by decide +kernel
theorem dX7_answered_1 : decode cX7_answered 1 = .ok (.ifCond .ge 11, 3) := by decide +kernel
theorem dX7_answered_4 : decode cX7_answered 4 = .ok (.aload_n 0, 1) := by decide +kernel
theorem dX7_answered_5 : decode cX7_answered 5 = .ok (.iload_n 1, 1) := by decide +kernel
theorem dX7_answered_6 : decode cX7_answered 6 = .ok (.invokevirtual 87, 3) := by decide +kernel
theorem dX7_answered_9 : decode cX7_answered 9 = .ok (.goto 8, 3) := by decide +kernel
theorem dX7_answered_12 : decode cX7_answered 12 = .ok (.aload_n 0, 1) := by decide +kernel
theorem dX7_answered_13 : decode cX7_answered 13 = .ok (.iload_n 1, 1) := by decide +kernel
theorem dX7_answered_14 : decode cX7_answered 14 = .ok (.invokevirtual 101, 3) := by decide +kernel
theorem dX7_answered_17 : decode cX7_answered 17 = .ok (.ireturn, 1) := by decide +kernel
theorem dX7_ringChanged_0 : decode cX7_ringChanged 0 = .ok (.aload_n 0, 1) := by decide +kernel
theorem dX7_ringChanged_1 : decode cX7_ringChanged 1 = .ok (.getfield 30, 3) := by decide +kernel
theorem dX7_ringChanged_4 : decode cX7_ringChanged 4 = .ok (.invokevirtual 145, 3) := by decide +kernel
theorem dX7_ringChanged_7 : decode cX7_ringChanged 7 = .ok (.aload_n 0, 1) := by decide +kernel
theorem dX7_ringChanged_8 : decode cX7_ringChanged 8 = .ok (.getfield 42, 3) := by decide +kernel
theorem dX7_ringChanged_11 : decode cX7_ringChanged 11 = .ok (.invokevirtual 282, 3) := by decide +kernel
theorem dX7_ringChanged_14 : decode cX7_ringChanged 14 = .ok (.return_, 1) := by decide +kernel
theorem dX7_tuneVoice_0 : decode cX7_tuneVoice 0 = .ok (.aload_n 0, 1) := by decide +kernel
theorem dX7_tuneVoice_1 : decode cX7_tuneVoice 1 = .ok (.getfield 42, 3) := by decide +kernel
theorem dX7_tuneVoice_4 : decode cX7_tuneVoice 4 = .ok (.aload_n 0, 1) := by decide +kernel
theorem dX7_tuneVoice_5 : decode cX7_tuneVoice 5 = .ok (.getfield 12, 3) := by decide +kernel
theorem dX7_tuneVoice_8 : decode cX7_tuneVoice 8 = .ok (.invokevirtual 283, 3) := by decide +kernel
theorem dX7_tuneVoice_11 : decode cX7_tuneVoice 11 = .ok (.aload_n 0, 1) := by decide +kernel
theorem dX7_tuneVoice_12 : decode cX7_tuneVoice 12 = .ok (.getfield 12, 3) := by decide +kernel
theorem dX7_tuneVoice_15 : decode cX7_tuneVoice 15 = .ok (.getfield 142, 3) := by decide +kernel
theorem dX7_tuneVoice_18 : decode cX7_tuneVoice 18 = .ok (.iconst 0, 1) := by decide +kernel
theorem dX7_tuneVoice_19 : decode cX7_tuneVoice 19 = .ok (.iaload, 1) := by decide +kernel
theorem dX7_tuneVoice_20 : decode cX7_tuneVoice 20 = .ok (.invokevirtual 263, 3) := by decide +kernel
theorem dX7_tuneVoice_23 : decode cX7_tuneVoice 23 = .ok (.return_, 1) := by decide +kernel
theorem dX7_performSaying_0 : decode cX7_performSaying 0 = .ok (.aload_n 0, 1) := by decide +kernel
theorem dX7_performSaying_1 : decode cX7_performSaying 1 = .ok (.getfield 12, 3) := by decide +kernel
theorem dX7_performSaying_4 : decode cX7_performSaying 4 = .ok (.iload_n 1, 1) := by decide +kernel
theorem dX7_performSaying_5 : decode cX7_performSaying 5 = .ok (.invokevirtual 120, 3) := by decide +kernel
theorem dX7_performSaying_8 : decode cX7_performSaying 8 = .ok (.ifCond .eq 6, 3) := by decide +kernel
theorem dX7_performSaying_11 : decode cX7_performSaying 11 = .ok (.bipush (-2), 2) := by decide +kernel
theorem dX7_performSaying_13 : decode cX7_performSaying 13 = .ok (.ireturn, 1) := by decide +kernel
theorem dX7_performSaying_14 : decode cX7_performSaying 14 = .ok (.aload_n 0, 1) := by decide +kernel
theorem dX7_performSaying_15 : decode cX7_performSaying 15 = .ok (.getfield 12, 3) := by decide +kernel
theorem dX7_performSaying_18 : decode cX7_performSaying 18 = .ok (.getfield 111, 3) := by decide +kernel
theorem dX7_performSaying_21 : decode cX7_performSaying 21 = .ok (.invokestatic 123, 3) := by decide +kernel
theorem dX7_performSaying_24 : decode cX7_performSaying 24 = .ok (.iconst 2, 1) := by decide +kernel
theorem dX7_performSaying_25 : decode cX7_performSaying 25 = .ok (.if_icmp .ge 6, 3) := by decide +kernel
theorem dX7_performSaying_28 : decode cX7_performSaying 28 = .ok (.bipush (-3), 2) := by decide +kernel
theorem dX7_performSaying_30 : decode cX7_performSaying 30 = .ok (.ireturn, 1) := by decide +kernel
theorem dX7_performSaying_31 : decode cX7_performSaying 31 = .ok (.aload_n 0, 1) := by decide +kernel
theorem dX7_performSaying_32 : decode cX7_performSaying 32 = .ok (.invokevirtual 128, 3) := by decide +kernel
theorem dX7_performSaying_35 : decode cX7_performSaying 35 = .ok (.aload_n 0, 1) := by decide +kernel
theorem dX7_performSaying_36 : decode cX7_performSaying 36 = .ok (.getfield 42, 3) := by decide +kernel
theorem dX7_performSaying_39 : decode cX7_performSaying 39 = .ok (.aload_n 0, 1) := by decide +kernel
theorem dX7_performSaying_40 : decode cX7_performSaying 40 = .ok (.getfield 12, 3) := by decide +kernel
theorem dX7_performSaying_43 : decode cX7_performSaying 43 = .ok (.getfield 111, 3) := by decide +kernel
theorem dX7_performSaying_46 : decode cX7_performSaying 46 = .ok (.aload_n 0, 1) := by decide +kernel
theorem dX7_performSaying_47 : decode cX7_performSaying 47 = .ok (.getfield 12, 3) := by decide +kernel
theorem dX7_performSaying_50 : decode cX7_performSaying 50 = .ok (.invokevirtual 196, 3) := by decide +kernel
theorem dX7_performSaying_53 : decode cX7_performSaying 53 = .ok (.iload_n 1, 1) := by decide +kernel
theorem dX7_performSaying_54 : decode cX7_performSaying 54 = .ok (.iconst 0, 1) := by decide +kernel
theorem dX7_performSaying_55 : decode cX7_performSaying 55 = .ok (.invokevirtual 204, 3) := by decide +kernel
theorem dX7_performSaying_58 : decode cX7_performSaying 58 = .ok (.istore_n 2, 1) := by decide +kernel
theorem dX7_performSaying_59 : decode cX7_performSaying 59 = .ok (.aload_n 0, 1) := by decide +kernel
theorem dX7_performSaying_60 : decode cX7_performSaying 60 = .ok (.getfield 30, 3) := by decide +kernel
theorem dX7_performSaying_63 : decode cX7_performSaying 63 = .ok (.iconst 0, 1) := by decide +kernel
theorem dX7_performSaying_64 : decode cX7_performSaying 64 = .ok (.aload_n 0, 1) := by decide +kernel
theorem dX7_performSaying_65 : decode cX7_performSaying 65 = .ok (.getfield 12, 3) := by decide +kernel
theorem dX7_performSaying_68 : decode cX7_performSaying 68 = .ok (.invokevirtual 286, 3) := by decide +kernel
theorem dX7_performSaying_71 : decode cX7_performSaying 71 = .ok (.aload_n 0, 1) := by decide +kernel
theorem dX7_performSaying_72 : decode cX7_performSaying 72 = .ok (.getfield 12, 3) := by decide +kernel
theorem dX7_performSaying_75 : decode cX7_performSaying 75 = .ok (.aload_n 0, 1) := by decide +kernel
theorem dX7_performSaying_76 : decode cX7_performSaying 76 = .ok (.getfield 42, 3) := by decide +kernel
theorem dX7_performSaying_79 : decode cX7_performSaying 79 = .ok (.aload_n 0, 1) := by decide +kernel
theorem dX7_performSaying_80 : decode cX7_performSaying 80 = .ok (.getfield 12, 3) := by decide +kernel
theorem dX7_performSaying_83 : decode cX7_performSaying 83 = .ok (.getfield 111, 3) := by decide +kernel
theorem dX7_performSaying_86 : decode cX7_performSaying 86 = .ok (.iload_n 2, 1) := by decide +kernel
theorem dX7_performSaying_87 : decode cX7_performSaying 87 = .ok (.invokevirtual 290, 3) := by decide +kernel
theorem dX7_performSaying_90 : decode cX7_performSaying 90 = .ok (.invokevirtual 293, 3) := by decide +kernel
theorem dX7_performSaying_93 : decode cX7_performSaying 93 = .ok (.iload_n 2, 1) := by decide +kernel
theorem dX7_performSaying_94 : decode cX7_performSaying 94 = .ok (.ireturn, 1) := by decide +kernel
theorem dX7_performMove_0 : decode cX7_performMove 0 = .ok (.aload_n 0, 1) := by decide +kernel
theorem dX7_performMove_1 : decode cX7_performMove 1 = .ok (.getfield 12, 3) := by decide +kernel
theorem dX7_performMove_4 : decode cX7_performMove 4 = .ok (.iload_n 2, 1) := by decide +kernel
theorem dX7_performMove_5 : decode cX7_performMove 5 = .ok (.invokevirtual 104, 3) := by decide +kernel
theorem dX7_performMove_8 : decode cX7_performMove 8 = .ok (.ifCond .eq 6, 3) := by decide +kernel
theorem dX7_performMove_11 : decode cX7_performMove 11 = .ok (.bipush (-2), 2) := by decide +kernel
theorem dX7_performMove_13 : decode cX7_performMove 13 = .ok (.ireturn, 1) := by decide +kernel
theorem dX7_performMove_14 : decode cX7_performMove 14 = .ok (.aload_n 0, 1) := by decide +kernel
theorem dX7_performMove_15 : decode cX7_performMove 15 = .ok (.getfield 12, 3) := by decide +kernel
theorem dX7_performMove_18 : decode cX7_performMove 18 = .ok (.getfield 111, 3) := by decide +kernel
theorem dX7_performMove_21 : decode cX7_performMove 21 = .ok (.iload_n 2, 1) := by decide +kernel
theorem dX7_performMove_22 : decode cX7_performMove 22 = .ok (.ishr, 1) := by decide +kernel
theorem dX7_performMove_23 : decode cX7_performMove 23 = .ok (.iconst 1, 1) := by decide +kernel
theorem dX7_performMove_24 : decode cX7_performMove 24 = .ok (.iand, 1) := by decide +kernel
theorem dX7_performMove_25 : decode cX7_performMove 25 = .ok (.iconst 1, 1) := by decide +kernel
theorem dX7_performMove_26 : decode cX7_performMove 26 = .ok (.if_icmp .ne 7, 3) := by decide +kernel
theorem dX7_performMove_29 : decode cX7_performMove 29 = .ok (.iconst 1, 1) := by decide +kernel
theorem dX7_performMove_30 : decode cX7_performMove 30 = .ok (.goto 4, 3) := by decide +kernel
theorem dX7_performMove_33 : decode cX7_performMove 33 = .ok (.iconst 0, 1) := by decide +kernel
theorem dX7_performMove_34 : decode cX7_performMove 34 = .ok (.istore_n 3, 1) := by decide +kernel
theorem dX7_performMove_35 : decode cX7_performMove 35 = .ok (.iload_n 3, 1) := by decide +kernel
theorem dX7_performMove_36 : decode cX7_performMove 36 = .ok (.iload_n 1, 1) := by decide +kernel
theorem dX7_performMove_37 : decode cX7_performMove 37 = .ok (.iconst 1, 1) := by decide +kernel
theorem dX7_performMove_38 : decode cX7_performMove 38 = .ok (.if_icmp .ne 7, 3) := by decide +kernel
theorem dX7_performMove_41 : decode cX7_performMove 41 = .ok (.iconst 1, 1) := by decide +kernel
theorem dX7_performMove_42 : decode cX7_performMove 42 = .ok (.goto 4, 3) := by decide +kernel
theorem dX7_performMove_45 : decode cX7_performMove 45 = .ok (.iconst 0, 1) := by decide +kernel
theorem dX7_performMove_46 : decode cX7_performMove 46 = .ok (.if_icmp .ne 6, 3) := by decide +kernel
theorem dX7_performMove_49 : decode cX7_performMove 49 = .ok (.bipush (-3), 2) := by decide +kernel
theorem dX7_performMove_51 : decode cX7_performMove 51 = .ok (.ireturn, 1) := by decide +kernel
theorem dX7_performMove_52 : decode cX7_performMove 52 = .ok (.aload_n 0, 1) := by decide +kernel
theorem dX7_performMove_53 : decode cX7_performMove 53 = .ok (.getfield 30, 3) := by decide +kernel
theorem dX7_performMove_56 : decode cX7_performMove 56 = .ok (.iload_n 1, 1) := by decide +kernel
theorem dX7_performMove_57 : decode cX7_performMove 57 = .ok (.aload_n 0, 1) := by decide +kernel
theorem dX7_performMove_58 : decode cX7_performMove 58 = .ok (.getfield 12, 3) := by decide +kernel
theorem dX7_performMove_61 : decode cX7_performMove 61 = .ok (.invokevirtual 286, 3) := by decide +kernel
theorem dX7_performMove_64 : decode cX7_performMove 64 = .ok (.aload_n 0, 1) := by decide +kernel
theorem dX7_performMove_65 : decode cX7_performMove 65 = .ok (.getfield 12, 3) := by decide +kernel
theorem dX7_performMove_68 : decode cX7_performMove 68 = .ok (.dup, 1) := by decide +kernel
theorem dX7_performMove_69 : decode cX7_performMove 69 = .ok (.getfield 111, 3) := by decide +kernel
theorem dX7_performMove_72 : decode cX7_performMove 72 = .ok (.iconst 1, 1) := by decide +kernel
theorem dX7_performMove_73 : decode cX7_performMove 73 = .ok (.iload_n 2, 1) := by decide +kernel
theorem dX7_performMove_74 : decode cX7_performMove 74 = .ok (.ishl, 1) := by decide +kernel
theorem dX7_performMove_75 : decode cX7_performMove 75 = .ok (.ixor, 1) := by decide +kernel
theorem dX7_performMove_76 : decode cX7_performMove 76 = .ok (.putfield 111, 3) := by decide +kernel
theorem dX7_performMove_79 : decode cX7_performMove 79 = .ok (.aload_n 0, 1) := by decide +kernel
theorem dX7_performMove_80 : decode cX7_performMove 80 = .ok (.getfield 12, 3) := by decide +kernel
theorem dX7_performMove_83 : decode cX7_performMove 83 = .ok (.getfield 111, 3) := by decide +kernel
theorem dX7_performMove_86 : decode cX7_performMove 86 = .ok (.invokestatic 123, 3) := by decide +kernel
theorem dX7_performMove_89 : decode cX7_performMove 89 = .ok (.ireturn, 1) := by decide +kernel
theorem dX7_performRound_0 : decode cX7_performRound 0 = .ok (.aload_n 0, 1) := by decide +kernel
theorem dX7_performRound_1 : decode cX7_performRound 1 = .ok (.getfield 12, 3) := by decide +kernel
theorem dX7_performRound_4 : decode cX7_performRound 4 = .ok (.getfield 142, 3) := by decide +kernel
theorem dX7_performRound_7 : decode cX7_performRound 7 = .ok (.iconst 0, 1) := by decide +kernel
theorem dX7_performRound_8 : decode cX7_performRound 8 = .ok (.iaload, 1) := by decide +kernel
theorem dX7_performRound_9 : decode cX7_performRound 9 = .ok (.sipush 999, 3) := by decide +kernel
theorem dX7_performRound_12 : decode cX7_performRound 12 = .ok (.if_icmp .lt 6, 3) := by decide +kernel
theorem dX7_performRound_15 : decode cX7_performRound 15 = .ok (.bipush (-3), 2) := by decide +kernel
theorem dX7_performRound_17 : decode cX7_performRound 17 = .ok (.ireturn, 1) := by decide +kernel
theorem dX7_performRound_18 : decode cX7_performRound 18 = .ok (.aload_n 0, 1) := by decide +kernel
theorem dX7_performRound_19 : decode cX7_performRound 19 = .ok (.getfield 30, 3) := by decide +kernel
theorem dX7_performRound_22 : decode cX7_performRound 22 = .ok (.iconst 3, 1) := by decide +kernel
theorem dX7_performRound_23 : decode cX7_performRound 23 = .ok (.aload_n 0, 1) := by decide +kernel
theorem dX7_performRound_24 : decode cX7_performRound 24 = .ok (.getfield 12, 3) := by decide +kernel
theorem dX7_performRound_27 : decode cX7_performRound 27 = .ok (.invokevirtual 286, 3) := by decide +kernel
theorem dX7_performRound_30 : decode cX7_performRound 30 = .ok (.aload_n 0, 1) := by decide +kernel
theorem dX7_performRound_31 : decode cX7_performRound 31 = .ok (.getfield 12, 3) := by decide +kernel
theorem dX7_performRound_34 : decode cX7_performRound 34 = .ok (.aload_n 0, 1) := by decide +kernel
theorem dX7_performRound_35 : decode cX7_performRound 35 = .ok (.getfield 12, 3) := by decide +kernel
theorem dX7_performRound_38 : decode cX7_performRound 38 = .ok (.invokevirtual 296, 3) := by decide +kernel
theorem dX7_performRound_41 : decode cX7_performRound 41 = .ok (.bipush 6, 2) := by decide +kernel
theorem dX7_performRound_43 : decode cX7_performRound 43 = .ok (.imul, 1) := by decide +kernel
theorem dX7_performRound_44 : decode cX7_performRound 44 = .ok (.invokevirtual 293, 3) := by decide +kernel
theorem dX7_performRound_47 : decode cX7_performRound 47 = .ok (.aload_n 0, 1) := by decide +kernel
theorem dX7_performRound_48 : decode cX7_performRound 48 = .ok (.getfield 12, 3) := by decide +kernel
theorem dX7_performRound_51 : decode cX7_performRound 51 = .ok (.getfield 142, 3) := by decide +kernel
theorem dX7_performRound_54 : decode cX7_performRound 54 = .ok (.iconst 0, 1) := by decide +kernel
theorem dX7_performRound_55 : decode cX7_performRound 55 = .ok (.dup2, 1) := by decide +kernel
theorem dX7_performRound_56 : decode cX7_performRound 56 = .ok (.iaload, 1) := by decide +kernel
theorem dX7_performRound_57 : decode cX7_performRound 57 = .ok (.iconst 1, 1) := by decide +kernel
theorem dX7_performRound_58 : decode cX7_performRound 58 = .ok (.iadd, 1) := by decide +kernel
theorem dX7_performRound_59 : decode cX7_performRound 59 = .ok (.iastore, 1) := by decide +kernel
theorem dX7_performRound_60 : decode cX7_performRound 60 = .ok (.aload_n 0, 1) := by decide +kernel
theorem dX7_performRound_61 : decode cX7_performRound 61 = .ok (.getfield 12, 3) := by decide +kernel
theorem dX7_performRound_64 : decode cX7_performRound 64 = .ok (.getfield 142, 3) := by decide +kernel
theorem dX7_performRound_67 : decode cX7_performRound 67 = .ok (.iconst 0, 1) := by decide +kernel
theorem dX7_performRound_68 : decode cX7_performRound 68 = .ok (.iaload, 1) := by decide +kernel
theorem dX7_performRound_69 : decode cX7_performRound 69 = .ok (.ireturn, 1) := by decide +kernel
theorem dX7_runWhollyOrNot_0 : decode cX7_runWhollyOrNot 0 = .ok (.aload_n 0, 1) := by decide +kernel
theorem dX7_runWhollyOrNot_1 : decode cX7_runWhollyOrNot 1 = .ok (.getfield 12, 3) := by decide +kernel
theorem dX7_runWhollyOrNot_4 : decode cX7_runWhollyOrNot 4 = .ok (.getfield 111, 3) := by decide +kernel
theorem dX7_runWhollyOrNot_7 : decode cX7_runWhollyOrNot 7 = .ok (.istore_n 2, 1) := by decide +kernel
theorem dX7_runWhollyOrNot_8 : decode cX7_runWhollyOrNot 8 = .ok (.aload_n 0, 1) := by decide +kernel
theorem dX7_runWhollyOrNot_9 : decode cX7_runWhollyOrNot 9 = .ok (.getfield 12, 3) := by decide +kernel
theorem dX7_runWhollyOrNot_12 : decode cX7_runWhollyOrNot 12 = .ok (.getfield 142, 3) := by decide +kernel
theorem dX7_runWhollyOrNot_15 : decode cX7_runWhollyOrNot 15 = .ok (.iconst 1, 1) := by decide +kernel
theorem dX7_runWhollyOrNot_16 : decode cX7_runWhollyOrNot 16 = .ok (.iaload, 1) := by decide +kernel
theorem dX7_runWhollyOrNot_17 : decode cX7_runWhollyOrNot 17 = .ok (.istore_n 3, 1) := by decide +kernel
theorem dX7_runWhollyOrNot_18 : decode cX7_runWhollyOrNot 18 = .ok (.aload_n 0, 1) := by decide +kernel
theorem dX7_runWhollyOrNot_19 : decode cX7_runWhollyOrNot 19 = .ok (.getfield 12, 3) := by decide +kernel
theorem dX7_runWhollyOrNot_22 : decode cX7_runWhollyOrNot 22 = .ok (.getfield 142, 3) := by decide +kernel
theorem dX7_runWhollyOrNot_25 : decode cX7_runWhollyOrNot 25 = .ok (.iconst 0, 1) := by decide +kernel
theorem dX7_runWhollyOrNot_26 : decode cX7_runWhollyOrNot 26 = .ok (.iaload, 1) := by decide +kernel
theorem dX7_runWhollyOrNot_27 : decode cX7_runWhollyOrNot 27 = .ok (.istore 4, 2) := by decide +kernel
theorem dX7_runWhollyOrNot_29 : decode cX7_runWhollyOrNot 29 = .ok (.aload_n 0, 1) := by decide +kernel
theorem dX7_runWhollyOrNot_30 : decode cX7_runWhollyOrNot 30 = .ok (.getfield 34, 3) := by decide +kernel
theorem dX7_runWhollyOrNot_33 : decode cX7_runWhollyOrNot 33 = .ok (.aload_n 0, 1) := by decide +kernel
theorem dX7_runWhollyOrNot_34 : decode cX7_runWhollyOrNot 34 = .ok (.getfield 30, 3) := by decide +kernel
theorem dX7_runWhollyOrNot_37 : decode cX7_runWhollyOrNot 37 = .ok (.invokevirtual 299, 3) := by decide +kernel
theorem dX7_runWhollyOrNot_40 : decode cX7_runWhollyOrNot 40 = .ok (.iconst 0, 1) := by decide +kernel
theorem dX7_runWhollyOrNot_41 : decode cX7_runWhollyOrNot 41 = .ok (.istore 5, 2) := by decide +kernel
theorem dX7_runWhollyOrNot_43 : decode cX7_runWhollyOrNot 43 = .ok (.iconst (-1), 1) := by decide +kernel
theorem dX7_runWhollyOrNot_44 : decode cX7_runWhollyOrNot 44 = .ok (.istore 6, 2) := by decide +kernel
theorem dX7_runWhollyOrNot_46 : decode cX7_runWhollyOrNot 46 = .ok (.iconst 0, 1) := by decide +kernel
theorem dX7_runWhollyOrNot_47 : decode cX7_runWhollyOrNot 47 = .ok (.istore 7, 2) := by decide +kernel
theorem dX7_runWhollyOrNot_49 : decode cX7_runWhollyOrNot 49 = .ok (.iload 7, 2) := by decide +kernel
theorem dX7_runWhollyOrNot_51 : decode cX7_runWhollyOrNot 51 = .ok (.aload_n 1, 1) := by decide +kernel
theorem dX7_runWhollyOrNot_52 : decode cX7_runWhollyOrNot 52 = .ok (.getfield 302, 3) := by decide +kernel
theorem dX7_runWhollyOrNot_55 : decode cX7_runWhollyOrNot 55 = .ok (.if_icmp .ge 148, 3) := by decide +kernel
theorem dX7_runWhollyOrNot_58 : decode cX7_runWhollyOrNot 58 = .ok (.iconst 0, 1) := by decide +kernel
theorem dX7_runWhollyOrNot_59 : decode cX7_runWhollyOrNot 59 = .ok (.istore 8, 2) := by decide +kernel
theorem dX7_runWhollyOrNot_61 : decode cX7_runWhollyOrNot 61 = .ok (.iload 8, 2) := by decide +kernel
theorem dX7_runWhollyOrNot_63 : decode cX7_runWhollyOrNot 63 = .ok (.aload_n 1, 1) := by decide +kernel
theorem dX7_runWhollyOrNot_64 : decode cX7_runWhollyOrNot 64 = .ok (.getfield 305, 3) := by decide +kernel
theorem dX7_runWhollyOrNot_67 : decode cX7_runWhollyOrNot 67 = .ok (.iload 7, 2) := by decide +kernel
theorem dX7_runWhollyOrNot_69 : decode cX7_runWhollyOrNot 69 = .ok (.iaload, 1) := by decide +kernel
theorem dX7_runWhollyOrNot_70 : decode cX7_runWhollyOrNot 70 = .ok (.if_icmp .ge 127, 3) := by decide +kernel
theorem dX7_runWhollyOrNot_73 : decode cX7_runWhollyOrNot 73 = .ok (.aload_n 0, 1) := by decide +kernel
theorem dX7_runWhollyOrNot_74 : decode cX7_runWhollyOrNot 74 = .ok (.iload 5, 2) := by decide +kernel
theorem dX7_runWhollyOrNot_76 : decode cX7_runWhollyOrNot 76 = .ok (.iload 6, 2) := by decide +kernel
theorem dX7_runWhollyOrNot_78 : decode cX7_runWhollyOrNot 78 = .ok (.invokevirtual 308, 3) := by decide +kernel
theorem dX7_runWhollyOrNot_81 : decode cX7_runWhollyOrNot 81 = .ok (.aload_n 1, 1) := by decide +kernel
theorem dX7_runWhollyOrNot_82 : decode cX7_runWhollyOrNot 82 = .ok (.getfield 312, 3) := by decide +kernel
theorem dX7_runWhollyOrNot_85 : decode cX7_runWhollyOrNot 85 = .ok (.iload 7, 2) := by decide +kernel
theorem dX7_runWhollyOrNot_87 : decode cX7_runWhollyOrNot 87 = .ok (.iaload, 1) := by decide +kernel
theorem dX7_runWhollyOrNot_88 : decode cX7_runWhollyOrNot 88 = .ok (.istore 9, 2) := by decide +kernel
theorem dX7_runWhollyOrNot_90 : decode cX7_runWhollyOrNot 90 = .ok (.iload 9, 2) := by decide +kernel
theorem dX7_runWhollyOrNot_92 : decode cX7_runWhollyOrNot 92 = .ok (.ifCond .eq 24, 3) := by decide +kernel
theorem dX7_runWhollyOrNot_95 : decode cX7_runWhollyOrNot 95 = .ok (.aload_n 1, 1) := by decide +kernel
theorem dX7_runWhollyOrNot_96 : decode cX7_runWhollyOrNot 96 = .ok (.iload 9, 2) := by decide +kernel
theorem dX7_runWhollyOrNot_98 : decode cX7_runWhollyOrNot 98 = .ok (.aload_n 0, 1) := by decide +kernel
theorem dX7_runWhollyOrNot_99 : decode cX7_runWhollyOrNot 99 = .ok (.getfield 66, 3) := by decide +kernel
theorem dX7_runWhollyOrNot_102 : decode cX7_runWhollyOrNot 102 = .ok (.aload_n 0, 1) := by decide +kernel
theorem dX7_runWhollyOrNot_103 : decode cX7_runWhollyOrNot 103 = .ok (.getfield 71, 3) := by decide +kernel
theorem dX7_runWhollyOrNot_106 : decode cX7_runWhollyOrNot 106 = .ok (.invokevirtual 315, 3) := by decide +kernel
theorem dX7_runWhollyOrNot_109 : decode cX7_runWhollyOrNot 109 = .ok (.iconst 1, 1) := by decide +kernel
theorem dX7_runWhollyOrNot_110 : decode cX7_runWhollyOrNot 110 = .ok (.if_icmp .eq 6, 3) := by decide +kernel
theorem dX7_runWhollyOrNot_113 : decode cX7_runWhollyOrNot 113 = .ok (.goto 78, 3) := by decide +kernel
theorem dX7_runWhollyOrNot_116 : decode cX7_runWhollyOrNot 116 = .ok (.aload_n 0, 1) := by decide +kernel
theorem dX7_runWhollyOrNot_117 : decode cX7_runWhollyOrNot 117 = .ok (.aload_n 1, 1) := by decide +kernel
theorem dX7_runWhollyOrNot_118 : decode cX7_runWhollyOrNot 118 = .ok (.iload 7, 2) := by decide +kernel
theorem dX7_runWhollyOrNot_120 : decode cX7_runWhollyOrNot 120 = .ok (.invokevirtual 319, 3) := by decide +kernel
theorem dX7_runWhollyOrNot_123 : decode cX7_runWhollyOrNot 123 = .ok (.istore 10, 2) := by decide +kernel
theorem dX7_runWhollyOrNot_125 : decode cX7_runWhollyOrNot 125 = .ok (.iload 10, 2) := by decide +kernel
theorem dX7_runWhollyOrNot_127 : decode cX7_runWhollyOrNot 127 = .ok (.ifCond .ge 47, 3) := by decide +kernel
theorem dX7_runWhollyOrNot_130 : decode cX7_runWhollyOrNot 130 = .ok (.aload_n 0, 1) := by decide +kernel
theorem dX7_runWhollyOrNot_131 : decode cX7_runWhollyOrNot 131 = .ok (.getfield 12, 3) := by decide +kernel
theorem dX7_runWhollyOrNot_134 : decode cX7_runWhollyOrNot 134 = .ok (.iload_n 2, 1) := by decide +kernel
theorem dX7_runWhollyOrNot_135 : decode cX7_runWhollyOrNot 135 = .ok (.bipush 6, 2) := by decide +kernel
theorem dX7_runWhollyOrNot_137 : decode cX7_runWhollyOrNot 137 = .ok (.imul, 1) := by decide +kernel
theorem dX7_runWhollyOrNot_138 : decode cX7_runWhollyOrNot 138 = .ok (.iload_n 3, 1) := by decide +kernel
theorem dX7_runWhollyOrNot_139 : decode cX7_runWhollyOrNot 139 = .ok (.iadd, 1) := by decide +kernel
theorem dX7_runWhollyOrNot_140 : decode cX7_runWhollyOrNot 140 = .ok (.invokevirtual 293, 3) := by decide +kernel
theorem dX7_runWhollyOrNot_143 : decode cX7_runWhollyOrNot 143 = .ok (.aload_n 0, 1) := by decide +kernel
theorem dX7_runWhollyOrNot_144 : decode cX7_runWhollyOrNot 144 = .ok (.getfield 12, 3) := by decide +kernel
theorem dX7_runWhollyOrNot_147 : decode cX7_runWhollyOrNot 147 = .ok (.getfield 142, 3) := by decide +kernel
theorem dX7_runWhollyOrNot_150 : decode cX7_runWhollyOrNot 150 = .ok (.iconst 0, 1) := by decide +kernel
theorem dX7_runWhollyOrNot_151 : decode cX7_runWhollyOrNot 151 = .ok (.iload 4, 2) := by decide +kernel
theorem dX7_runWhollyOrNot_153 : decode cX7_runWhollyOrNot 153 = .ok (.iastore, 1) := by decide +kernel
theorem dX7_runWhollyOrNot_154 : decode cX7_runWhollyOrNot 154 = .ok (.aload_n 0, 1) := by decide +kernel
theorem dX7_runWhollyOrNot_155 : decode cX7_runWhollyOrNot 155 = .ok (.getfield 30, 3) := by decide +kernel
theorem dX7_runWhollyOrNot_158 : decode cX7_runWhollyOrNot 158 = .ok (.aload_n 0, 1) := by decide +kernel
theorem dX7_runWhollyOrNot_159 : decode cX7_runWhollyOrNot 159 = .ok (.getfield 34, 3) := by decide +kernel
theorem dX7_runWhollyOrNot_162 : decode cX7_runWhollyOrNot 162 = .ok (.invokevirtual 299, 3) := by decide +kernel
theorem dX7_runWhollyOrNot_165 : decode cX7_runWhollyOrNot 165 = .ok (.aload_n 0, 1) := by decide +kernel
theorem dX7_runWhollyOrNot_166 : decode cX7_runWhollyOrNot 166 = .ok (.iload 7, 2) := by decide +kernel
theorem dX7_runWhollyOrNot_168 : decode cX7_runWhollyOrNot 168 = .ok (.putfield 81, 3) := by decide +kernel
theorem dX7_runWhollyOrNot_171 : decode cX7_runWhollyOrNot 171 = .ok (.bipush (-3), 2) := by decide +kernel
theorem dX7_runWhollyOrNot_173 : decode cX7_runWhollyOrNot 173 = .ok (.ireturn, 1) := by decide +kernel
theorem dX7_runWhollyOrNot_174 : decode cX7_runWhollyOrNot 174 = .ok (.iinc 5 1, 3) := by decide +kernel
theorem dX7_runWhollyOrNot_177 : decode cX7_runWhollyOrNot 177 = .ok (.aload_n 1, 1) := by decide +kernel
theorem dX7_runWhollyOrNot_178 : decode cX7_runWhollyOrNot 178 = .ok (.getfield 323, 3) := by decide +kernel
theorem dX7_runWhollyOrNot_181 : decode cX7_runWhollyOrNot 181 = .ok (.iload 7, 2) := by decide +kernel
theorem dX7_runWhollyOrNot_183 : decode cX7_runWhollyOrNot 183 = .ok (.iaload, 1) := by decide +kernel
theorem dX7_runWhollyOrNot_184 : decode cX7_runWhollyOrNot 184 = .ok (.ifCond .ne 7, 3) := by decide +kernel
theorem dX7_runWhollyOrNot_187 : decode cX7_runWhollyOrNot 187 = .ok (.iload 10, 2) := by decide +kernel
theorem dX7_runWhollyOrNot_189 : decode cX7_runWhollyOrNot 189 = .ok (.istore 6, 2) := by decide +kernel
theorem dX7_runWhollyOrNot_191 : decode cX7_runWhollyOrNot 191 = .ok (.iinc 8 1, 3) := by decide +kernel
theorem dX7_runWhollyOrNot_194 : decode cX7_runWhollyOrNot 194 = .ok (.goto (-133), 3) := by decide +kernel
theorem dX7_runWhollyOrNot_197 : decode cX7_runWhollyOrNot 197 = .ok (.iinc 7 1, 3) := by decide +kernel
theorem dX7_runWhollyOrNot_200 : decode cX7_runWhollyOrNot 200 = .ok (.goto (-151), 3) := by decide +kernel
theorem dX7_runWhollyOrNot_203 : decode cX7_runWhollyOrNot 203 = .ok (.iload 5, 2) := by decide +kernel
theorem dX7_runWhollyOrNot_205 : decode cX7_runWhollyOrNot 205 = .ok (.ireturn, 1) := by decide +kernel
theorem dX7_runClause_0 : decode cX7_runClause 0 = .ok (.iconst 0, 1) := by decide +kernel
theorem dX7_runClause_1 : decode cX7_runClause 1 = .ok (.istore_n 3, 1) := by decide +kernel
theorem dX7_runClause_2 : decode cX7_runClause 2 = .ok (.aload_n 1, 1) := by decide +kernel
theorem dX7_runClause_3 : decode cX7_runClause 3 = .ok (.getfield 326, 3) := by decide +kernel
theorem dX7_runClause_6 : decode cX7_runClause 6 = .ok (.iload_n 2, 1) := by decide +kernel
theorem dX7_runClause_7 : decode cX7_runClause 7 = .ok (.iaload, 1) := by decide +kernel
theorem dX7_runClause_8 : decode cX7_runClause 8 = .ok (.ifCond .eq 32, 3) := by decide +kernel
theorem dX7_runClause_11 : decode cX7_runClause 11 = .ok (.aload_n 1, 1) := by decide +kernel
theorem dX7_runClause_12 : decode cX7_runClause 12 = .ok (.aload_n 1, 1) := by decide +kernel
theorem dX7_runClause_13 : decode cX7_runClause 13 = .ok (.getfield 326, 3) := by decide +kernel
theorem dX7_runClause_16 : decode cX7_runClause 16 = .ok (.iload_n 2, 1) := by decide +kernel
theorem dX7_runClause_17 : decode cX7_runClause 17 = .ok (.iaload, 1) := by decide +kernel
theorem dX7_runClause_18 : decode cX7_runClause 18 = .ok (.aload_n 0, 1) := by decide +kernel
theorem dX7_runClause_19 : decode cX7_runClause 19 = .ok (.getfield 66, 3) := by decide +kernel
theorem dX7_runClause_22 : decode cX7_runClause 22 = .ok (.aload_n 0, 1) := by decide +kernel
theorem dX7_runClause_23 : decode cX7_runClause 23 = .ok (.getfield 71, 3) := by decide +kernel
theorem dX7_runClause_26 : decode cX7_runClause 26 = .ok (.invokevirtual 315, 3) := by decide +kernel
theorem dX7_runClause_29 : decode cX7_runClause 29 = .ok (.istore_n 3, 1) := by decide +kernel
theorem dX7_runClause_30 : decode cX7_runClause 30 = .ok (.iload_n 3, 1) := by decide +kernel
theorem dX7_runClause_31 : decode cX7_runClause 31 = .ok (.ldc_w 329, 3) := by decide +kernel
theorem dX7_runClause_34 : decode cX7_runClause 34 = .ok (.if_icmp .ne 6, 3) := by decide +kernel
theorem dX7_runClause_37 : decode cX7_runClause 37 = .ok (.bipush (-3), 2) := by decide +kernel
theorem dX7_runClause_39 : decode cX7_runClause 39 = .ok (.ireturn, 1) := by decide +kernel
theorem dX7_runClause_40 : decode cX7_runClause 40 = .ok (.aload_n 1, 1) := by decide +kernel
theorem dX7_runClause_41 : decode cX7_runClause 41 = .ok (.getfield 323, 3) := by decide +kernel
theorem dX7_runClause_44 : decode cX7_runClause 44 = .ok (.iload_n 2, 1) := by decide +kernel
theorem dX7_runClause_45 : decode cX7_runClause 45 = .ok (.iaload, 1) := by decide +kernel
theorem dX7_runClause_46 : decode cX7_runClause 46 = .ok (.tableswitch 44 0 2 #[26, 32, 32], 26) := by decide +kernel
theorem dX7_runClause_72 : decode cX7_runClause 72 = .ok (.aload_n 0, 1) := by decide +kernel
theorem dX7_runClause_73 : decode cX7_runClause 73 = .ok (.iload_n 3, 1) := by decide +kernel
theorem dX7_runClause_74 : decode cX7_runClause 74 = .ok (.invokevirtual 193, 3) := by decide +kernel
theorem dX7_runClause_77 : decode cX7_runClause 77 = .ok (.ireturn, 1) := by decide +kernel
theorem dX7_runClause_78 : decode cX7_runClause 78 = .ok (.aload_n 0, 1) := by decide +kernel
theorem dX7_runClause_79 : decode cX7_runClause 79 = .ok (.aload_n 1, 1) := by decide +kernel
theorem dX7_runClause_80 : decode cX7_runClause 80 = .ok (.getfield 323, 3) := by decide +kernel
theorem dX7_runClause_83 : decode cX7_runClause 83 = .ok (.iload_n 2, 1) := by decide +kernel
theorem dX7_runClause_84 : decode cX7_runClause 84 = .ok (.iaload, 1) := by decide +kernel
theorem dX7_runClause_85 : decode cX7_runClause 85 = .ok (.iload_n 3, 1) := by decide +kernel
theorem dX7_runClause_86 : decode cX7_runClause 86 = .ok (.invokevirtual 214, 3) := by decide +kernel
theorem dX7_runClause_89 : decode cX7_runClause 89 = .ok (.ireturn, 1) := by decide +kernel
theorem dX7_runClause_90 : decode cX7_runClause 90 = .ok (.aload_n 0, 1) := by decide +kernel
theorem dX7_runClause_91 : decode cX7_runClause 91 = .ok (.invokevirtual 217, 3) := by decide +kernel
theorem dX7_runClause_94 : decode cX7_runClause 94 = .ok (.ireturn, 1) := by decide +kernel
theorem dX7_gatherFacts_0 : decode cX7_gatherFacts 0 = .ok (.aload_n 0, 1) := by decide +kernel
theorem dX7_gatherFacts_1 : decode cX7_gatherFacts 1 = .ok (.getfield 66, 3) := by decide +kernel
theorem dX7_gatherFacts_4 : decode cX7_gatherFacts 4 = .ok (.iconst 0, 1) := by decide +kernel
theorem dX7_gatherFacts_5 : decode cX7_gatherFacts 5 = .ok (.aload_n 0, 1) := by decide +kernel
theorem dX7_gatherFacts_6 : decode cX7_gatherFacts 6 = .ok (.getfield 12, 3) := by decide +kernel
theorem dX7_gatherFacts_9 : decode cX7_gatherFacts 9 = .ok (.getfield 142, 3) := by decide +kernel
theorem dX7_gatherFacts_12 : decode cX7_gatherFacts 12 = .ok (.iconst 0, 1) := by decide +kernel
theorem dX7_gatherFacts_13 : decode cX7_gatherFacts 13 = .ok (.iaload, 1) := by decide +kernel
theorem dX7_gatherFacts_14 : decode cX7_gatherFacts 14 = .ok (.iastore, 1) := by decide +kernel
theorem dX7_gatherFacts_15 : decode cX7_gatherFacts 15 = .ok (.aload_n 0, 1) := by decide +kernel
theorem dX7_gatherFacts_16 : decode cX7_gatherFacts 16 = .ok (.getfield 66, 3) := by decide +kernel
theorem dX7_gatherFacts_19 : decode cX7_gatherFacts 19 = .ok (.iconst 1, 1) := by decide +kernel
theorem dX7_gatherFacts_20 : decode cX7_gatherFacts 20 = .ok (.iload_n 1, 1) := by decide +kernel
theorem dX7_gatherFacts_21 : decode cX7_gatherFacts 21 = .ok (.iastore, 1) := by decide +kernel
theorem dX7_gatherFacts_22 : decode cX7_gatherFacts 22 = .ok (.aload_n 0, 1) := by decide +kernel
theorem dX7_gatherFacts_23 : decode cX7_gatherFacts 23 = .ok (.getfield 66, 3) := by decide +kernel
theorem dX7_gatherFacts_26 : decode cX7_gatherFacts 26 = .ok (.iconst 2, 1) := by decide +kernel
theorem dX7_gatherFacts_27 : decode cX7_gatherFacts 27 = .ok (.iload_n 2, 1) := by decide +kernel
theorem dX7_gatherFacts_28 : decode cX7_gatherFacts 28 = .ok (.iastore, 1) := by decide +kernel
theorem dX7_gatherFacts_29 : decode cX7_gatherFacts 29 = .ok (.aload_n 0, 1) := by decide +kernel
theorem dX7_gatherFacts_30 : decode cX7_gatherFacts 30 = .ok (.getfield 66, 3) := by decide +kernel
theorem dX7_gatherFacts_33 : decode cX7_gatherFacts 33 = .ok (.iconst 3, 1) := by decide +kernel
theorem dX7_gatherFacts_34 : decode cX7_gatherFacts 34 = .ok (.aload_n 0, 1) := by decide +kernel
theorem dX7_gatherFacts_35 : decode cX7_gatherFacts 35 = .ok (.getfield 12, 3) := by decide +kernel
theorem dX7_gatherFacts_38 : decode cX7_gatherFacts 38 = .ok (.getfield 111, 3) := by decide +kernel
theorem dX7_gatherFacts_41 : decode cX7_gatherFacts 41 = .ok (.invokestatic 123, 3) := by decide +kernel
theorem dX7_gatherFacts_44 : decode cX7_gatherFacts 44 = .ok (.iastore, 1) := by decide +kernel
theorem dX7_gatherFacts_45 : decode cX7_gatherFacts 45 = .ok (.aload_n 0, 1) := by decide +kernel
theorem dX7_gatherFacts_46 : decode cX7_gatherFacts 46 = .ok (.getfield 66, 3) := by decide +kernel
theorem dX7_gatherFacts_49 : decode cX7_gatherFacts 49 = .ok (.iconst 4, 1) := by decide +kernel
theorem dX7_gatherFacts_50 : decode cX7_gatherFacts 50 = .ok (.aload_n 0, 1) := by decide +kernel
theorem dX7_gatherFacts_51 : decode cX7_gatherFacts 51 = .ok (.getfield 12, 3) := by decide +kernel
theorem dX7_gatherFacts_54 : decode cX7_gatherFacts 54 = .ok (.getfield 142, 3) := by decide +kernel
theorem dX7_gatherFacts_57 : decode cX7_gatherFacts 57 = .ok (.iconst 1, 1) := by decide +kernel
theorem dX7_gatherFacts_58 : decode cX7_gatherFacts 58 = .ok (.iaload, 1) := by decide +kernel
theorem dX7_gatherFacts_59 : decode cX7_gatherFacts 59 = .ok (.iastore, 1) := by decide +kernel
theorem dX7_gatherFacts_60 : decode cX7_gatherFacts 60 = .ok (.iconst 0, 1) := by decide +kernel
theorem dX7_gatherFacts_61 : decode cX7_gatherFacts 61 = .ok (.istore_n 3, 1) := by decide +kernel
theorem dX7_gatherFacts_62 : decode cX7_gatherFacts 62 = .ok (.iload_n 3, 1) := by decide +kernel
theorem dX7_gatherFacts_63 : decode cX7_gatherFacts 63 = .ok (.bipush 6, 2) := by decide +kernel
theorem dX7_gatherFacts_65 : decode cX7_gatherFacts 65 = .ok (.if_icmp .ge 82, 3) := by decide +kernel
theorem dX7_gatherFacts_68 : decode cX7_gatherFacts 68 = .ok (.iload_n 3, 1) := by decide +kernel
theorem dX7_gatherFacts_69 : decode cX7_gatherFacts 69 = .ok (.aload_n 0, 1) := by decide +kernel
theorem dX7_gatherFacts_70 : decode cX7_gatherFacts 70 = .ok (.getfield 12, 3) := by decide +kernel
theorem dX7_gatherFacts_73 : decode cX7_gatherFacts 73 = .ok (.getfield 91, 3) := by decide +kernel
theorem dX7_gatherFacts_76 : decode cX7_gatherFacts 76 = .ok (.if_icmp .ge 7, 3) := by decide +kernel
theorem dX7_gatherFacts_79 : decode cX7_gatherFacts 79 = .ok (.iconst 1, 1) := by decide +kernel
theorem dX7_gatherFacts_80 : decode cX7_gatherFacts 80 = .ok (.goto 4, 3) := by decide +kernel
theorem dX7_gatherFacts_83 : decode cX7_gatherFacts 83 = .ok (.iconst 0, 1) := by decide +kernel
theorem dX7_gatherFacts_84 : decode cX7_gatherFacts 84 = .ok (.istore 4, 2) := by decide +kernel
theorem dX7_gatherFacts_86 : decode cX7_gatherFacts 86 = .ok (.aload_n 0, 1) := by decide +kernel
theorem dX7_gatherFacts_87 : decode cX7_gatherFacts 87 = .ok (.getfield 66, 3) := by decide +kernel
theorem dX7_gatherFacts_90 : decode cX7_gatherFacts 90 = .ok (.iconst 5, 1) := by decide +kernel
theorem dX7_gatherFacts_91 : decode cX7_gatherFacts 91 = .ok (.iload_n 3, 1) := by decide +kernel
theorem dX7_gatherFacts_92 : decode cX7_gatherFacts 92 = .ok (.iadd, 1) := by decide +kernel
theorem dX7_gatherFacts_93 : decode cX7_gatherFacts 93 = .ok (.iload 4, 2) := by decide +kernel
theorem dX7_gatherFacts_95 : decode cX7_gatherFacts 95 = .ok (.ifCond .eq 17, 3) := by decide +kernel
theorem dX7_gatherFacts_98 : decode cX7_gatherFacts 98 = .ok (.aload_n 0, 1) := by decide +kernel
theorem dX7_gatherFacts_99 : decode cX7_gatherFacts 99 = .ok (.getfield 12, 3) := by decide +kernel
theorem dX7_gatherFacts_102 : decode cX7_gatherFacts 102 = .ok (.getfield 111, 3) := by decide +kernel
theorem dX7_gatherFacts_105 : decode cX7_gatherFacts 105 = .ok (.iload_n 3, 1) := by decide +kernel
theorem dX7_gatherFacts_106 : decode cX7_gatherFacts 106 = .ok (.ishr, 1) := by decide +kernel
theorem dX7_gatherFacts_107 : decode cX7_gatherFacts 107 = .ok (.iconst 1, 1) := by decide +kernel
theorem dX7_gatherFacts_108 : decode cX7_gatherFacts 108 = .ok (.iand, 1) := by decide +kernel
theorem dX7_gatherFacts_109 : decode cX7_gatherFacts 109 = .ok (.goto 4, 3) := by decide +kernel
theorem dX7_gatherFacts_112 : decode cX7_gatherFacts 112 = .ok (.iconst (-1), 1) := by decide +kernel
theorem dX7_gatherFacts_113 : decode cX7_gatherFacts 113 = .ok (.iastore, 1) := by decide +kernel
theorem dX7_gatherFacts_114 : decode cX7_gatherFacts 114 = .ok (.aload_n 0, 1) := by decide +kernel
theorem dX7_gatherFacts_115 : decode cX7_gatherFacts 115 = .ok (.getfield 66, 3) := by decide +kernel
theorem dX7_gatherFacts_118 : decode cX7_gatherFacts 118 = .ok (.bipush 11, 2) := by decide +kernel
theorem dX7_gatherFacts_120 : decode cX7_gatherFacts 120 = .ok (.iload_n 3, 1) := by decide +kernel
theorem dX7_gatherFacts_121 : decode cX7_gatherFacts 121 = .ok (.iadd, 1) := by decide +kernel
theorem dX7_gatherFacts_122 : decode cX7_gatherFacts 122 = .ok (.iload 4, 2) := by decide +kernel
theorem dX7_gatherFacts_124 : decode cX7_gatherFacts 124 = .ok (.ifCond .eq 15, 3) := by decide +kernel
theorem dX7_gatherFacts_127 : decode cX7_gatherFacts 127 = .ok (.aload_n 0, 1) := by decide +kernel
theorem dX7_gatherFacts_128 : decode cX7_gatherFacts 128 = .ok (.getfield 12, 3) := by decide +kernel
theorem dX7_gatherFacts_131 : decode cX7_gatherFacts 131 = .ok (.getfield 108, 3) := by decide +kernel
theorem dX7_gatherFacts_134 : decode cX7_gatherFacts 134 = .ok (.iload_n 3, 1) := by decide +kernel
theorem dX7_gatherFacts_135 : decode cX7_gatherFacts 135 = .ok (.iaload, 1) := by decide +kernel
theorem dX7_gatherFacts_136 : decode cX7_gatherFacts 136 = .ok (.goto 4, 3) := by decide +kernel
theorem dX7_gatherFacts_139 : decode cX7_gatherFacts 139 = .ok (.iconst (-1), 1) := by decide +kernel
theorem dX7_gatherFacts_140 : decode cX7_gatherFacts 140 = .ok (.iastore, 1) := by decide +kernel
theorem dX7_gatherFacts_141 : decode cX7_gatherFacts 141 = .ok (.iinc 3 1, 3) := by decide +kernel
theorem dX7_gatherFacts_144 : decode cX7_gatherFacts 144 = .ok (.goto (-82), 3) := by decide +kernel
theorem dX7_gatherFacts_147 : decode cX7_gatherFacts 147 = .ok (.return_, 1) := by decide +kernel
