theorem dX8_bothOf_0 : decode cX8_bothOf 0 = .ok (.aload_n 0, 1) := by decide +kernel
theorem dX8_bothOf_1 : decode cX8_bothOf 1 = .ok (.iload_n 1, 1) := by decide +kernel
theorem dX8_bothOf_2 : decode cX8_bothOf 2 = .ok (.invokevirtual 306, 3) := by decide +kernel
theorem dX8_bothOf_5 : decode cX8_bothOf 5 = .ok (.istore_n 2, 1) := by decide +kernel
theorem dX8_bothOf_6 : decode cX8_bothOf 6 = .ok (.aload_n 0, 1) := by decide +kernel
theorem dX8_bothOf_7 : decode cX8_bothOf 7 = .ok (.bipush 7, 2) := by decide +kernel
theorem dX8_bothOf_9 : decode cX8_bothOf 9 = .ok (.invokevirtual 278, 3) := by decide +kernel
theorem dX8_bothOf_12 : decode cX8_bothOf 12 = .ok (.ifCond .eq 38, 3) := by decide +kernel
theorem dX8_bothOf_15 : decode cX8_bothOf 15 = .ok (.aload_n 0, 1) := by decide +kernel
theorem dX8_bothOf_16 : decode cX8_bothOf 16 = .ok (.iload_n 1, 1) := by decide +kernel
theorem dX8_bothOf_17 : decode cX8_bothOf 17 = .ok (.ifCond .eq 11, 3) := by decide +kernel
theorem dX8_bothOf_20 : decode cX8_bothOf 20 = .ok (.iload_n 2, 1) := by decide +kernel
theorem dX8_bothOf_21 : decode cX8_bothOf 21 = .ok (.ifCond .eq 7, 3) := by decide +kernel
theorem dX8_bothOf_24 : decode cX8_bothOf 24 = .ok (.iconst 1, 1) := by decide +kernel
theorem dX8_bothOf_25 : decode cX8_bothOf 25 = .ok (.goto 4, 3) := by decide +kernel
theorem dX8_bothOf_28 : decode cX8_bothOf 28 = .ok (.iconst 0, 1) := by decide +kernel
theorem dX8_bothOf_29 : decode cX8_bothOf 29 = .ok (.invokevirtual 306, 3) := by decide +kernel
theorem dX8_bothOf_32 : decode cX8_bothOf 32 = .ok (.istore_n 3, 1) := by decide +kernel
theorem dX8_bothOf_33 : decode cX8_bothOf 33 = .ok (.iload_n 2, 1) := by decide +kernel
theorem dX8_bothOf_34 : decode cX8_bothOf 34 = .ok (.ifCond .eq 11, 3) := by decide +kernel
theorem dX8_bothOf_37 : decode cX8_bothOf 37 = .ok (.iload_n 3, 1) := by decide +kernel
theorem dX8_bothOf_38 : decode cX8_bothOf 38 = .ok (.ifCond .eq 7, 3) := by decide +kernel
theorem dX8_bothOf_41 : decode cX8_bothOf 41 = .ok (.iconst 1, 1) := by decide +kernel
theorem dX8_bothOf_42 : decode cX8_bothOf 42 = .ok (.goto 4, 3) := by decide +kernel
theorem dX8_bothOf_45 : decode cX8_bothOf 45 = .ok (.iconst 0, 1) := by decide +kernel
theorem dX8_bothOf_46 : decode cX8_bothOf 46 = .ok (.istore_n 2, 1) := by decide +kernel
theorem dX8_bothOf_47 : decode cX8_bothOf 47 = .ok (.goto (-41), 3) := by decide +kernel
theorem dX8_bothOf_50 : decode cX8_bothOf 50 = .ok (.iload_n 2, 1) := by decide +kernel
theorem dX8_bothOf_51 : decode cX8_bothOf 51 = .ok (.ireturn, 1) := by decide +kernel
theorem dX8_plainOf_0 : decode cX8_plainOf 0 = .ok (.iconst 0, 1) := by decide +kernel
theorem dX8_plainOf_1 : decode cX8_plainOf 1 = .ok (.istore_n 2, 1) := by decide +kernel
theorem dX8_plainOf_2 : decode cX8_plainOf 2 = .ok (.aload_n 0, 1) := by decide +kernel
theorem dX8_plainOf_3 : decode cX8_plainOf 3 = .ok (.bipush 8, 2) := by decide +kernel
theorem dX8_plainOf_5 : decode cX8_plainOf 5 = .ok (.invokevirtual 278, 3) := by decide +kernel
theorem dX8_plainOf_8 : decode cX8_plainOf 8 = .ok (.ifCond .eq 16, 3) := by decide +kernel
theorem dX8_plainOf_11 : decode cX8_plainOf 11 = .ok (.iload_n 2, 1) := by decide +kernel
theorem dX8_plainOf_12 : decode cX8_plainOf 12 = .ok (.ifCond .ne 7, 3) := by decide +kernel
theorem dX8_plainOf_15 : decode cX8_plainOf 15 = .ok (.iconst 1, 1) := by decide +kernel
theorem dX8_plainOf_16 : decode cX8_plainOf 16 = .ok (.goto 4, 3) := by decide +kernel
theorem dX8_plainOf_19 : decode cX8_plainOf 19 = .ok (.iconst 0, 1) := by decide +kernel
theorem dX8_plainOf_20 : decode cX8_plainOf 20 = .ok (.istore_n 2, 1) := by decide +kernel
theorem dX8_plainOf_21 : decode cX8_plainOf 21 = .ok (.goto (-19), 3) := by decide +kernel
theorem dX8_plainOf_24 : decode cX8_plainOf 24 = .ok (.aload_n 0, 1) := by decide +kernel
theorem dX8_plainOf_25 : decode cX8_plainOf 25 = .ok (.iload_n 1, 1) := by decide +kernel
theorem dX8_plainOf_26 : decode cX8_plainOf 26 = .ok (.invokevirtual 309, 3) := by decide +kernel
theorem dX8_plainOf_29 : decode cX8_plainOf 29 = .ok (.iload_n 2, 1) := by decide +kernel
theorem dX8_plainOf_30 : decode cX8_plainOf 30 = .ok (.if_icmp .eq 7, 3) := by decide +kernel
theorem dX8_plainOf_33 : decode cX8_plainOf 33 = .ok (.iconst 1, 1) := by decide +kernel
theorem dX8_plainOf_34 : decode cX8_plainOf 34 = .ok (.goto 4, 3) := by decide +kernel
theorem dX8_plainOf_37 : decode cX8_plainOf 37 = .ok (.iconst 0, 1) := by decide +kernel
theorem dX8_plainOf_38 : decode cX8_plainOf 38 = .ok (.ireturn, 1) := by decide +kernel
theorem dX8_positiveOf_0 : decode cX8_positiveOf 0 = .ok (.aload_n 0, 1) := by decide +kernel
theorem dX8_positiveOf_1 : decode cX8_positiveOf 1 = .ok (.bipush 40, 2) := by decide +kernel
theorem dX8_positiveOf_3 : decode cX8_positiveOf 3 = .ok (.invokestatic 213, 3) := by decide +kernel
theorem dX8_positiveOf_6 : decode cX8_positiveOf 6 = .ok (.invokevirtual 278, 3) := by decide +kernel
theorem dX8_positiveOf_9 : decode cX8_positiveOf 9 = .ok (.ifCond .eq 21, 3) := by decide +kernel
theorem dX8_positiveOf_12 : decode cX8_positiveOf 12 = .ok (.aload_n 0, 1) := by decide +kernel
theorem dX8_positiveOf_13 : decode cX8_positiveOf 13 = .ok (.iload_n 1, 1) := by decide +kernel
theorem dX8_positiveOf_14 : decode cX8_positiveOf 14 = .ok (.invokevirtual 312, 3) := by decide +kernel
theorem dX8_positiveOf_17 : decode cX8_positiveOf 17 = .ok (.istore_n 2, 1) := by decide +kernel
theorem dX8_positiveOf_18 : decode cX8_positiveOf 18 = .ok (.aload_n 0, 1) := by decide +kernel
theorem dX8_positiveOf_19 : decode cX8_positiveOf 19 = .ok (.dup, 1) := by decide +kernel
theorem dX8_positiveOf_20 : decode cX8_positiveOf 20 = .ok (.getfield 254, 3) := by decide +kernel
theorem dX8_positiveOf_23 : decode cX8_positiveOf 23 = .ok (.iconst 1, 1) := by decide +kernel
theorem dX8_positiveOf_24 : decode cX8_positiveOf 24 = .ok (.iadd, 1) := by decide +kernel
theorem dX8_positiveOf_25 : decode cX8_positiveOf 25 = .ok (.putfield 254, 3) := by decide +kernel
theorem dX8_positiveOf_28 : decode cX8_positiveOf 28 = .ok (.iload_n 2, 1) := by decide +kernel
theorem dX8_positiveOf_29 : decode cX8_positiveOf 29 = .ok (.ireturn, 1) := by decide +kernel
theorem dX8_positiveOf_30 : decode cX8_positiveOf 30 = .ok (.aload_n 0, 1) := by decide +kernel
theorem dX8_positiveOf_31 : decode cX8_positiveOf 31 = .ok (.iload_n 1, 1) := by decide +kernel
theorem dX8_positiveOf_32 : decode cX8_positiveOf 32 = .ok (.invokevirtual 281, 3) := by decide +kernel
theorem dX8_positiveOf_35 : decode cX8_positiveOf 35 = .ok (.lstore_n 2, 1) := by decide +kernel
theorem dX8_positiveOf_36 : decode cX8_positiveOf 36 = .ok (.aload_n 0, 1) := by decide +kernel
theorem dX8_positiveOf_37 : decode cX8_positiveOf 37 = .ok (.aload_n 0, 1) := by decide +kernel
theorem dX8_positiveOf_38 : decode cX8_positiveOf 38 = .ok (.getfield 254, 3) := by decide +kernel
theorem dX8_positiveOf_41 : decode cX8_positiveOf 41 = .ok (.invokevirtual 257, 3) := by decide +kernel
theorem dX8_positiveOf_44 : decode cX8_positiveOf 44 = .ok (.istore 4, 2) := by decide +kernel
theorem dX8_positiveOf_46 : decode cX8_positiveOf 46 = .ok (.aload_n 0, 1) := by decide +kernel
theorem dX8_positiveOf_47 : decode cX8_positiveOf 47 = .ok (.dup, 1) := by decide +kernel
theorem dX8_positiveOf_48 : decode cX8_positiveOf 48 = .ok (.getfield 254, 3) := by decide +kernel
theorem dX8_positiveOf_51 : decode cX8_positiveOf 51 = .ok (.iconst 1, 1) := by decide +kernel
theorem dX8_positiveOf_52 : decode cX8_positiveOf 52 = .ok (.iadd, 1) := by decide +kernel
theorem dX8_positiveOf_53 : decode cX8_positiveOf 53 = .ok (.putfield 254, 3) := by decide +kernel
theorem dX8_positiveOf_56 : decode cX8_positiveOf 56 = .ok (.aload_n 0, 1) := by decide +kernel
theorem dX8_positiveOf_57 : decode cX8_positiveOf 57 = .ok (.iload_n 1, 1) := by decide +kernel
theorem dX8_positiveOf_58 : decode cX8_positiveOf 58 = .ok (.invokevirtual 281, 3) := by decide +kernel
theorem dX8_positiveOf_61 : decode cX8_positiveOf 61 = .ok (.lstore 5, 2) := by decide +kernel
theorem dX8_positiveOf_63 : decode cX8_positiveOf 63 = .ok (.iload_n 1, 1) := by decide +kernel
theorem dX8_positiveOf_64 : decode cX8_positiveOf 64 = .ok (.ifCond .eq 61, 3) := by decide +kernel
theorem dX8_positiveOf_67 : decode cX8_positiveOf 67 = .ok (.aload_n 0, 1) := by decide +kernel
theorem dX8_positiveOf_68 : decode cX8_positiveOf 68 = .ok (.getfield 264, 3) := by decide +kernel
theorem dX8_positiveOf_71 : decode cX8_positiveOf 71 = .ok (.ifCond .ne 54, 3) := by decide +kernel
theorem dX8_positiveOf_74 : decode cX8_positiveOf 74 = .ok (.iload 4, 2) := by decide +kernel
theorem dX8_positiveOf_76 : decode cX8_positiveOf 76 = .ok (.bipush 60, 2) := by decide +kernel
theorem dX8_positiveOf_78 : decode cX8_positiveOf 78 = .ok (.invokestatic 213, 3) := by decide +kernel
theorem dX8_positiveOf_81 : decode cX8_positiveOf 81 = .ok (.if_icmp .ne 13, 3) := by decide +kernel
theorem dX8_positiveOf_84 : decode cX8_positiveOf 84 = .ok (.lload_n 2, 1) := by decide +kernel
theorem dX8_positiveOf_85 : decode cX8_positiveOf 85 = .ok (.lload 5, 2) := by decide +kernel
theorem dX8_positiveOf_87 : decode cX8_positiveOf 87 = .ok (.lcmp, 1) := by decide +kernel
theorem dX8_positiveOf_88 : decode cX8_positiveOf 88 = .ok (.ifCond .ge 37, 3) := by decide +kernel
theorem dX8_positiveOf_91 : decode cX8_positiveOf 91 = .ok (.goto 30, 3) := by decide +kernel
theorem dX8_positiveOf_94 : decode cX8_positiveOf 94 = .ok (.iload 4, 2) := by decide +kernel
theorem dX8_positiveOf_96 : decode cX8_positiveOf 96 = .ok (.bipush 62, 2) := by decide +kernel
theorem dX8_positiveOf_98 : decode cX8_positiveOf 98 = .ok (.invokestatic 213, 3) := by decide +kernel
theorem dX8_positiveOf_101 : decode cX8_positiveOf 101 = .ok (.if_icmp .ne 13, 3) := by decide +kernel
theorem dX8_positiveOf_104 : decode cX8_positiveOf 104 = .ok (.lload_n 2, 1) := by decide +kernel
theorem dX8_positiveOf_105 : decode cX8_positiveOf 105 = .ok (.lload 5, 2) := by decide +kernel
theorem dX8_positiveOf_107 : decode cX8_positiveOf 107 = .ok (.lcmp, 1) := by decide +kernel
theorem dX8_positiveOf_108 : decode cX8_positiveOf 108 = .ok (.ifCond .le 17, 3) := by decide +kernel
theorem dX8_positiveOf_111 : decode cX8_positiveOf 111 = .ok (.goto 10, 3) := by decide +kernel
theorem dX8_positiveOf_114 : decode cX8_positiveOf 114 = .ok (.lload_n 2, 1) := by decide +kernel
theorem dX8_positiveOf_115 : decode cX8_positiveOf 115 = .ok (.lload 5, 2) := by decide +kernel
theorem dX8_positiveOf_117 : decode cX8_positiveOf 117 = .ok (.lcmp, 1) := by decide +kernel
theorem dX8_positiveOf_118 : decode cX8_positiveOf 118 = .ok (.ifCond .ne 7, 3) := by decide +kernel
theorem dX8_positiveOf_121 : decode cX8_positiveOf 121 = .ok (.iconst 1, 1) := by decide +kernel
theorem dX8_positiveOf_122 : decode cX8_positiveOf 122 = .ok (.goto 4, 3) := by decide +kernel
theorem dX8_positiveOf_125 : decode cX8_positiveOf 125 = .ok (.iconst 0, 1) := by decide +kernel
theorem dX8_positiveOf_126 : decode cX8_positiveOf 126 = .ok (.ireturn, 1) := by decide +kernel
theorem dX8_setsAsked_0 : decode cX8_setsAsked 0 = .ok (.aload_n 0, 1) := by decide +kernel
theorem dX8_setsAsked_1 : decode cX8_setsAsked 1 = .ok (.getfield 63, 3) := by decide +kernel
theorem dX8_setsAsked_4 : decode cX8_setsAsked 4 = .ok (.iconst 0, 1) := by decide +kernel
theorem dX8_setsAsked_5 : decode cX8_setsAsked 5 = .ok (.iload_n 2, 1) := by decide +kernel
theorem dX8_setsAsked_6 : decode cX8_setsAsked 6 = .ok (.iastore, 1) := by decide +kernel
theorem dX8_setsAsked_7 : decode cX8_setsAsked 7 = .ok (.aload_n 0, 1) := by decide +kernel
theorem dX8_setsAsked_8 : decode cX8_setsAsked 8 = .ok (.getfield 63, 3) := by decide +kernel
theorem dX8_setsAsked_11 : decode cX8_setsAsked 11 = .ok (.iconst 1, 1) := by decide +kernel
theorem dX8_setsAsked_12 : decode cX8_setsAsked 12 = .ok (.iload_n 1, 1) := by decide +kernel
theorem dX8_setsAsked_13 : decode cX8_setsAsked 13 = .ok (.iastore, 1) := by decide +kernel
theorem dX8_setsAsked_14 : decode cX8_setsAsked 14 = .ok (.aload_n 0, 1) := by decide +kernel
theorem dX8_setsAsked_15 : decode cX8_setsAsked 15 = .ok (.getfield 63, 3) := by decide +kernel
theorem dX8_setsAsked_18 : decode cX8_setsAsked 18 = .ok (.iconst 2, 1) := by decide +kernel
theorem dX8_setsAsked_19 : decode cX8_setsAsked 19 = .ok (.iload_n 3, 1) := by decide +kernel
theorem dX8_setsAsked_20 : decode cX8_setsAsked 20 = .ok (.iastore, 1) := by decide +kernel
theorem dX8_setsAsked_21 : decode cX8_setsAsked 21 = .ok (.aload_n 0, 1) := by decide +kernel
theorem dX8_setsAsked_22 : decode cX8_setsAsked 22 = .ok (.getfield 63, 3) := by decide +kernel
theorem dX8_setsAsked_25 : decode cX8_setsAsked 25 = .ok (.iconst 3, 1) := by decide +kernel
theorem dX8_setsAsked_26 : decode cX8_setsAsked 26 = .ok (.aload_n 0, 1) := by decide +kernel
theorem dX8_setsAsked_27 : decode cX8_setsAsked 27 = .ok (.getfield 28, 3) := by decide +kernel
theorem dX8_setsAsked_30 : decode cX8_setsAsked 30 = .ok (.bipush 15, 2) := by decide +kernel
theorem dX8_setsAsked_32 : decode cX8_setsAsked 32 = .ok (.iaload, 1) := by decide +kernel
theorem dX8_setsAsked_33 : decode cX8_setsAsked 33 = .ok (.iastore, 1) := by decide +kernel
theorem dX8_setsAsked_34 : decode cX8_setsAsked 34 = .ok (.aload_n 0, 1) := by decide +kernel
theorem dX8_setsAsked_35 : decode cX8_setsAsked 35 = .ok (.getfield 63, 3) := by decide +kernel
theorem dX8_setsAsked_38 : decode cX8_setsAsked 38 = .ok (.iconst 4, 1) := by decide +kernel
theorem dX8_setsAsked_39 : decode cX8_setsAsked 39 = .ok (.aload_n 0, 1) := by decide +kernel
theorem dX8_setsAsked_40 : decode cX8_setsAsked 40 = .ok (.getfield 28, 3) := by decide +kernel
theorem dX8_setsAsked_43 : decode cX8_setsAsked 43 = .ok (.iconst 3, 1) := by decide +kernel
theorem dX8_setsAsked_44 : decode cX8_setsAsked 44 = .ok (.iload_n 2, 1) := by decide +kernel
theorem dX8_setsAsked_45 : decode cX8_setsAsked 45 = .ok (.iadd, 1) := by decide +kernel
theorem dX8_setsAsked_46 : decode cX8_setsAsked 46 = .ok (.iaload, 1) := by decide +kernel
theorem dX8_setsAsked_47 : decode cX8_setsAsked 47 = .ok (.iastore, 1) := by decide +kernel
theorem dX8_setsAsked_48 : decode cX8_setsAsked 48 = .ok (.aload_n 0, 1) := by decide +kernel
theorem dX8_setsAsked_49 : decode cX8_setsAsked 49 = .ok (.getfield 63, 3) := by decide +kernel
theorem dX8_setsAsked_52 : decode cX8_setsAsked 52 = .ok (.iconst 5, 1) := by decide +kernel
theorem dX8_setsAsked_53 : decode cX8_setsAsked 53 = .ok (.iload 4, 2) := by decide +kernel
theorem dX8_setsAsked_55 : decode cX8_setsAsked 55 = .ok (.iastore, 1) := by decide +kernel
theorem dX8_setsAsked_56 : decode cX8_setsAsked 56 = .ok (.aload_n 0, 1) := by decide +kernel
theorem dX8_setsAsked_57 : decode cX8_setsAsked 57 = .ok (.getfield 63, 3) := by decide +kernel
theorem dX8_setsAsked_60 : decode cX8_setsAsked 60 = .ok (.bipush 6, 2) := by decide +kernel
theorem dX8_setsAsked_62 : decode cX8_setsAsked 62 = .ok (.aload_n 0, 1) := by decide +kernel
theorem dX8_setsAsked_63 : decode cX8_setsAsked 63 = .ok (.getfield 28, 3) := by decide +kernel
theorem dX8_setsAsked_66 : decode cX8_setsAsked 66 = .ok (.iconst 2, 1) := by decide +kernel
theorem dX8_setsAsked_67 : decode cX8_setsAsked 67 = .ok (.iaload, 1) := by decide +kernel
theorem dX8_setsAsked_68 : decode cX8_setsAsked 68 = .ok (.iastore, 1) := by decide +kernel
theorem dX8_setsAsked_69 : decode cX8_setsAsked 69 = .ok (.return_, 1) := by decide +kernel
theorem dX8_tells_0 : decode cX8_tells 0 = .ok (.aload_n 0, 1) := by decide +kernel
theorem dX8_tells_1 : decode cX8_tells 1 = .ok (.getfield 28, 3) := by decide +kernel
theorem dX8_tells_4 : decode cX8_tells 4 = .ok (.bipush 19, 2) := by decide +kernel
theorem dX8_tells_6 : decode cX8_tells 6 = .ok (.iaload, 1) := by decide +kernel
theorem dX8_tells_7 : decode cX8_tells 7 = .ok (.iconst (-1), 1) := by decide +kernel
theorem dX8_tells_8 : decode cX8_tells 8 = .ok (.if_icmp .ne 6, 3) := by decide +kernel
theorem dX8_tells_11 : decode cX8_tells 11 = .ok (.iload 6, 2) := by decide +kernel
theorem dX8_tells_13 : decode cX8_tells 13 = .ok (.ireturn, 1) := by decide +kernel
theorem dX8_tells_14 : decode cX8_tells 14 = .ok (.aload_n 0, 1) := by decide +kernel
theorem dX8_tells_15 : decode cX8_tells 15 = .ok (.iload_n 2, 1) := by decide +kernel
theorem dX8_tells_16 : decode cX8_tells 16 = .ok (.iload_n 3, 1) := by decide +kernel
theorem dX8_tells_17 : decode cX8_tells 17 = .ok (.iload 4, 2) := by decide +kernel
theorem dX8_tells_19 : decode cX8_tells 19 = .ok (.iload 5, 2) := by decide +kernel
theorem dX8_tells_21 : decode cX8_tells 21 = .ok (.invokevirtual 315, 3) := by decide +kernel
theorem dX8_tells_24 : decode cX8_tells 24 = .ok (.aload_n 0, 1) := by decide +kernel
theorem dX8_tells_25 : decode cX8_tells 25 = .ok (.iconst 0, 1) := by decide +kernel
theorem dX8_tells_26 : decode cX8_tells 26 = .ok (.putfield 284, 3) := by decide +kernel
theorem dX8_tells_29 : decode cX8_tells 29 = .ok (.iload 6, 2) := by decide +kernel
theorem dX8_tells_31 : decode cX8_tells 31 = .ok (.i2l, 1) := by decide +kernel
theorem dX8_tells_32 : decode cX8_tells 32 = .ok (.lstore 7, 2) := by decide +kernel
theorem dX8_tells_34 : decode cX8_tells 34 = .ok (.aload_n 0, 1) := by decide +kernel
theorem dX8_tells_35 : decode cX8_tells 35 = .ok (.sipush 400, 3) := by decide +kernel
theorem dX8_tells_38 : decode cX8_tells 38 = .ok (.aload_n 0, 1) := by decide +kernel
theorem dX8_tells_39 : decode cX8_tells 39 = .ok (.getfield 28, 3) := by decide +kernel
theorem dX8_tells_42 : decode cX8_tells 42 = .ok (.bipush 19, 2) := by decide +kernel
theorem dX8_tells_44 : decode cX8_tells 44 = .ok (.iaload, 1) := by decide +kernel
theorem dX8_tells_45 : decode cX8_tells 45 = .ok (.imul, 1) := by decide +kernel
theorem dX8_tells_46 : decode cX8_tells 46 = .ok (.putfield 254, 3) := by decide +kernel
theorem dX8_tells_49 : decode cX8_tells 49 = .ok (.aload_n 0, 1) := by decide +kernel
theorem dX8_tells_50 : decode cX8_tells 50 = .ok (.aload_n 0, 1) := by decide +kernel
theorem dX8_tells_51 : decode cX8_tells 51 = .ok (.getfield 254, 3) := by decide +kernel
theorem dX8_tells_54 : decode cX8_tells 54 = .ok (.aload_n 0, 1) := by decide +kernel
theorem dX8_tells_55 : decode cX8_tells 55 = .ok (.getfield 28, 3) := by decide +kernel
theorem dX8_tells_58 : decode cX8_tells 58 = .ok (.bipush 20, 2) := by decide +kernel
theorem dX8_tells_60 : decode cX8_tells 60 = .ok (.aload_n 0, 1) := by decide +kernel
theorem dX8_tells_61 : decode cX8_tells 61 = .ok (.getfield 28, 3) := by decide +kernel
theorem dX8_tells_64 : decode cX8_tells 64 = .ok (.bipush 19, 2) := by decide +kernel
theorem dX8_tells_66 : decode cX8_tells 66 = .ok (.iaload, 1) := by decide +kernel
theorem dX8_tells_67 : decode cX8_tells 67 = .ok (.iadd, 1) := by decide +kernel
theorem dX8_tells_68 : decode cX8_tells 68 = .ok (.iaload, 1) := by decide +kernel
theorem dX8_tells_69 : decode cX8_tells 69 = .ok (.iadd, 1) := by decide +kernel
theorem dX8_tells_70 : decode cX8_tells 70 = .ok (.putfield 251, 3) := by decide +kernel
theorem dX8_tells_73 : decode cX8_tells 73 = .ok (.aload_n 0, 1) := by decide +kernel
theorem dX8_tells_74 : decode cX8_tells 74 = .ok (.getfield 254, 3) := by decide +kernel
theorem dX8_tells_77 : decode cX8_tells 77 = .ok (.aload_n 0, 1) := by decide +kernel
theorem dX8_tells_78 : decode cX8_tells 78 = .ok (.getfield 251, 3) := by decide +kernel
theorem dX8_tells_81 : decode cX8_tells 81 = .ok (.if_icmp .ge 145, 3) := by decide +kernel
theorem dX8_tells_84 : decode cX8_tells 84 = .ok (.aload_n 0, 1) := by decide +kernel
theorem dX8_tells_85 : decode cX8_tells 85 = .ok (.aload_n 0, 1) := by decide +kernel
theorem dX8_tells_86 : decode cX8_tells 86 = .ok (.getfield 254, 3) := by decide +kernel
theorem dX8_tells_89 : decode cX8_tells 89 = .ok (.invokevirtual 257, 3) := by decide +kernel
theorem dX8_tells_92 : decode cX8_tells 92 = .ok (.istore 9, 2) := by decide +kernel
theorem dX8_tells_94 : decode cX8_tells 94 = .ok (.aload_n 0, 1) := by decide +kernel
theorem dX8_tells_95 : decode cX8_tells 95 = .ok (.iconst 0, 1) := by decide +kernel
theorem dX8_tells_96 : decode cX8_tells 96 = .ok (.putfield 264, 3) := by decide +kernel
theorem dX8_tells_99 : decode cX8_tells 99 = .ok (.aload_n 0, 1) := by decide +kernel
theorem dX8_tells_100 : decode cX8_tells 100 = .ok (.dup, 1) := by decide +kernel
theorem dX8_tells_101 : decode cX8_tells 101 = .ok (.getfield 254, 3) := by decide +kernel
theorem dX8_tells_104 : decode cX8_tells 104 = .ok (.iconst 1, 1) := by decide +kernel
theorem dX8_tells_105 : decode cX8_tells 105 = .ok (.iadd, 1) := by decide +kernel
theorem dX8_tells_106 : decode cX8_tells 106 = .ok (.putfield 254, 3) := by decide +kernel
theorem dX8_tells_109 : decode cX8_tells 109 = .ok (.iload 9, 2) := by decide +kernel
theorem dX8_tells_111 : decode cX8_tells 111 = .ok (.iconst 1, 1) := by decide +kernel
theorem dX8_tells_112 : decode cX8_tells 112 = .ok (.if_icmp .ne 11, 3) := by decide +kernel
theorem dX8_tells_115 : decode cX8_tells 115 = .ok (.aload_n 0, 1) := by decide +kernel
theorem dX8_tells_116 : decode cX8_tells 116 = .ok (.iconst 1, 1) := by decide +kernel
theorem dX8_tells_117 : decode cX8_tells 117 = .ok (.invokevirtual 281, 3) := by decide +kernel
theorem dX8_tells_120 : decode cX8_tells 120 = .ok (.goto 4, 3) := by decide +kernel
theorem dX8_tells_123 : decode cX8_tells 123 = .ok (.lconst 1, 1) := by decide +kernel
theorem dX8_tells_124 : decode cX8_tells 124 = .ok (.lstore 10, 2) := by decide +kernel
theorem dX8_tells_126 : decode cX8_tells 126 = .ok (.aload_n 0, 1) := by decide +kernel
theorem dX8_tells_127 : decode cX8_tells 127 = .ok (.getfield 264, 3) := by decide +kernel
theorem dX8_tells_130 : decode cX8_tells 130 = .ok (.istore 12, 2) := by decide +kernel
theorem dX8_tells_132 : decode cX8_tells 132 = .ok (.aload_n 0, 1) := by decide +kernel
theorem dX8_tells_133 : decode cX8_tells 133 = .ok (.iconst 0, 1) := by decide +kernel
theorem dX8_tells_134 : decode cX8_tells 134 = .ok (.putfield 264, 3) := by decide +kernel
theorem dX8_tells_137 : decode cX8_tells 137 = .ok (.aload_n 0, 1) := by decide +kernel
theorem dX8_tells_138 : decode cX8_tells 138 = .ok (.iconst 5, 1) := by decide +kernel
theorem dX8_tells_139 : decode cX8_tells 139 = .ok (.invokevirtual 278, 3) := by decide +kernel
theorem dX8_tells_142 : decode cX8_tells 142 = .ok (.ifCond .eq 11, 3) := by decide +kernel
theorem dX8_tells_145 : decode cX8_tells 145 = .ok (.aload_n 0, 1) := by decide +kernel
theorem dX8_tells_146 : decode cX8_tells 146 = .ok (.iconst 1, 1) := by decide +kernel
theorem dX8_tells_147 : decode cX8_tells 147 = .ok (.invokevirtual 312, 3) := by decide +kernel
theorem dX8_tells_150 : decode cX8_tells 150 = .ok (.ifCond .eq 7, 3) := by decide +kernel
theorem dX8_tells_153 : decode cX8_tells 153 = .ok (.iconst 1, 1) := by decide +kernel
theorem dX8_tells_154 : decode cX8_tells 154 = .ok (.goto 4, 3) := by decide +kernel
theorem dX8_tells_157 : decode cX8_tells 157 = .ok (.iconst 0, 1) := by decide +kernel
theorem dX8_tells_158 : decode cX8_tells 158 = .ok (.istore 13, 2) := by decide +kernel
theorem dX8_tells_160 : decode cX8_tells 160 = .ok (.iload 9, 2) := by decide +kernel
theorem dX8_tells_162 : decode cX8_tells 162 = .ok (.iload_n 1, 1) := by decide +kernel
theorem dX8_tells_163 : decode cX8_tells 163 = .ok (.if_icmp .ne 50, 3) := by decide +kernel
theorem dX8_tells_166 : decode cX8_tells 166 = .ok (.iload 13, 2) := by decide +kernel
theorem dX8_tells_168 : decode cX8_tells 168 = .ok (.ifCond .eq 45, 3) := by decide +kernel
theorem dX8_tells_171 : decode cX8_tells 171 = .ok (.aload_n 0, 1) := by decide +kernel
theorem dX8_tells_172 : decode cX8_tells 172 = .ok (.getfield 264, 3) := by decide +kernel
theorem dX8_tells_175 : decode cX8_tells 175 = .ok (.ifCond .ne 38, 3) := by decide +kernel
theorem dX8_tells_178 : decode cX8_tells 178 = .ok (.iload 12, 2) := by decide +kernel
theorem dX8_tells_180 : decode cX8_tells 180 = .ok (.ifCond .ne 33, 3) := by decide +kernel
theorem dX8_tells_183 : decode cX8_tells 183 = .ok (.lload 10, 2) := by decide +kernel
theorem dX8_tells_185 : decode cX8_tells 185 = .ok (.lconst 1, 1) := by decide +kernel
theorem dX8_tells_186 : decode cX8_tells 186 = .ok (.lcmp, 1) := by decide +kernel
theorem dX8_tells_187 : decode cX8_tells 187 = .ok (.ifCond .ge 7, 3) := by decide +kernel
theorem dX8_tells_190 : decode cX8_tells 190 = .ok (.lconst 1, 1) := by decide +kernel
theorem dX8_tells_191 : decode cX8_tells 191 = .ok (.goto 20, 3) := by decide +kernel
theorem dX8_tells_194 : decode cX8_tells 194 = .ok (.lload 10, 2) := by decide +kernel
theorem dX8_tells_196 : decode cX8_tells 196 = .ok (.ldc2_w 319, 3) := by decide +kernel
theorem dX8_tells_199 : decode cX8_tells 199 = .ok (.lcmp, 1) := by decide +kernel
theorem dX8_tells_200 : decode cX8_tells 200 = .ok (.ifCond .le 9, 3) := by decide +kernel
theorem dX8_tells_203 : decode cX8_tells 203 = .ok (.ldc2_w 319, 3) := by decide +kernel
theorem dX8_tells_206 : decode cX8_tells 206 = .ok (.goto 5, 3) := by decide +kernel
theorem dX8_tells_209 : decode cX8_tells 209 = .ok (.lload 10, 2) := by decide +kernel
theorem dX8_tells_211 : decode cX8_tells 211 = .ok (.lstore 7, 2) := by decide +kernel
theorem dX8_tells_213 : decode cX8_tells 213 = .ok (.aload_n 0, 1) := by decide +kernel
theorem dX8_tells_214 : decode cX8_tells 214 = .ok (.dup, 1) := by decide +kernel
theorem dX8_tells_215 : decode cX8_tells 215 = .ok (.getfield 254, 3) := by decide +kernel
theorem dX8_tells_218 : decode cX8_tells 218 = .ok (.iconst 1, 1) := by decide +kernel
theorem dX8_tells_219 : decode cX8_tells 219 = .ok (.iadd, 1) := by decide +kernel
theorem dX8_tells_220 : decode cX8_tells 220 = .ok (.putfield 254, 3) := by decide +kernel
theorem dX8_tells_223 : decode cX8_tells 223 = .ok (.goto (-150), 3) := by decide +kernel
theorem dX8_tells_226 : decode cX8_tells 226 = .ok (.lload 7, 2) := by decide +kernel
theorem dX8_tells_228 : decode cX8_tells 228 = .ok (.l2i, 1) := by decide +kernel
theorem dX8_tells_229 : decode cX8_tells 229 = .ok (.ireturn, 1) := by decide +kernel
theorem dX8_beatsOf_0 : decode cX8_beatsOf 0 = .ok (.aload_n 0, 1) := by decide +kernel
theorem dX8_beatsOf_1 : decode cX8_beatsOf 1 = .ok (.iconst 1, 1) := by decide +kernel
theorem dX8_beatsOf_2 : decode cX8_beatsOf 2 = .ok (.iload_n 1, 1) := by decide +kernel
theorem dX8_beatsOf_3 : decode cX8_beatsOf 3 = .ok (.iload_n 2, 1) := by decide +kernel
theorem dX8_beatsOf_4 : decode cX8_beatsOf 4 = .ok (.iconst 0, 1) := by decide +kernel
theorem dX8_beatsOf_5 : decode cX8_beatsOf 5 = .ok (.iload_n 3, 1) := by decide +kernel
theorem dX8_beatsOf_6 : decode cX8_beatsOf 6 = .ok (.aload_n 0, 1) := by decide +kernel
theorem dX8_beatsOf_7 : decode cX8_beatsOf 7 = .ok (.getfield 28, 3) := by decide +kernel
theorem dX8_beatsOf_10 : decode cX8_beatsOf 10 = .ok (.bipush 9, 2) := by decide +kernel
theorem dX8_beatsOf_12 : decode cX8_beatsOf 12 = .ok (.iload_n 1, 1) := by decide +kernel
theorem dX8_beatsOf_13 : decode cX8_beatsOf 13 = .ok (.iadd, 1) := by decide +kernel
theorem dX8_beatsOf_14 : decode cX8_beatsOf 14 = .ok (.iaload, 1) := by decide +kernel
theorem dX8_beatsOf_15 : decode cX8_beatsOf 15 = .ok (.invokevirtual 321, 3) := by decide +kernel
theorem dX8_beatsOf_18 : decode cX8_beatsOf 18 = .ok (.ireturn, 1) := by decide +kernel
theorem dX8_isSo_0 : decode cX8_isSo 0 = .ok (.aload_n 0, 1) := by decide +kernel
theorem dX8_isSo_1 : decode cX8_isSo 1 = .ok (.iload_n 1, 1) := by decide +kernel
theorem dX8_isSo_2 : decode cX8_isSo 2 = .ok (.iload_n 2, 1) := by decide +kernel
theorem dX8_isSo_3 : decode cX8_isSo 3 = .ok (.iload_n 3, 1) := by decide +kernel
theorem dX8_isSo_4 : decode cX8_isSo 4 = .ok (.iload 4, 2) := by decide +kernel
theorem dX8_isSo_6 : decode cX8_isSo 6 = .ok (.iload 5, 2) := by decide +kernel
theorem dX8_isSo_8 : decode cX8_isSo 8 = .ok (.iconst 0, 1) := by decide +kernel
theorem dX8_isSo_9 : decode cX8_isSo 9 = .ok (.invokevirtual 321, 3) := by decide +kernel
theorem dX8_isSo_12 : decode cX8_isSo 12 = .ok (.iconst 1, 1) := by decide +kernel
theorem dX8_isSo_13 : decode cX8_isSo 13 = .ok (.if_icmp .ne 7, 3) := by decide +kernel
theorem dX8_isSo_16 : decode cX8_isSo 16 = .ok (.iconst 1, 1) := by decide +kernel
theorem dX8_isSo_17 : decode cX8_isSo 17 = .ok (.goto 4, 3) := by decide +kernel
theorem dX8_isSo_20 : decode cX8_isSo 20 = .ok (.iconst 0, 1) := by decide +kernel
theorem dX8_isSo_21 : decode cX8_isSo 21 = .ok (.ireturn, 1) := by decide +kernel
theorem dX8_asks_0 : decode cX8_asks 0 = .ok (.aload_n 0, 1) := by decide +kernel
theorem dX8_asks_1 : decode cX8_asks 1 = .ok (.iload_n 1, 1) := by decide +kernel
theorem dX8_asks_2 : decode cX8_asks 2 = .ok (.invokevirtual 136, 3) := by decide +kernel
theorem dX8_asks_5 : decode cX8_asks 5 = .ok (.ifCond .eq 21, 3) := by decide +kernel
theorem dX8_asks_8 : decode cX8_asks 8 = .ok (.aload_n 0, 1) := by decide +kernel
theorem dX8_asks_9 : decode cX8_asks 9 = .ok (.iload_n 2, 1) := by decide +kernel
theorem dX8_asks_10 : decode cX8_asks 10 = .ok (.invokevirtual 132, 3) := by decide +kernel
theorem dX8_asks_13 : decode cX8_asks 13 = .ok (.ifCond .eq 13, 3) := by decide +kernel
theorem dX8_asks_16 : decode cX8_asks 16 = .ok (.iload_n 3, 1) := by decide +kernel
theorem dX8_asks_17 : decode cX8_asks 17 = .ok (.iconst 0, 1) := by decide +kernel
theorem dX8_asks_18 : decode cX8_asks 18 = .ok (.bipush 15, 2) := by decide +kernel
theorem dX8_asks_20 : decode cX8_asks 20 = .ok (.invokestatic 115, 3) := by decide +kernel
theorem dX8_asks_23 : decode cX8_asks 23 = .ok (.ifCond .ne 5, 3) := by decide +kernel
theorem dX8_asks_26 : decode cX8_asks 26 = .ok (.iconst (-1), 1) := by decide +kernel
theorem dX8_asks_27 : decode cX8_asks 27 = .ok (.ireturn, 1) := by decide +kernel
theorem dX8_asks_28 : decode cX8_asks 28 = .ok (.iload 4, 2) := by decide +kernel
theorem dX8_asks_30 : decode cX8_asks 30 = .ok (.tableswitch 104 0 3 #[30, 41, 62, 83], 30) := by decide +kernel
theorem dX8_asks_60 : decode cX8_asks 60 = .ok (.aload_n 0, 1) := by decide +kernel
theorem dX8_asks_61 : decode cX8_asks 61 = .ok (.iload_n 1, 1) := by decide +kernel
theorem dX8_asks_62 : decode cX8_asks 62 = .ok (.iload_n 2, 1) := by decide +kernel
theorem dX8_asks_63 : decode cX8_asks 63 = .ok (.aload_n 0, 1) := by decide +kernel
theorem dX8_asks_64 : decode cX8_asks 64 = .ok (.invokevirtual 293, 3) := by decide +kernel
theorem dX8_asks_67 : decode cX8_asks 67 = .ok (.invokevirtual 325, 3) := by decide +kernel
theorem dX8_asks_70 : decode cX8_asks 70 = .ok (.ireturn, 1) := by decide +kernel
theorem dX8_asks_71 : decode cX8_asks 71 = .ok (.aload_n 0, 1) := by decide +kernel
theorem dX8_asks_72 : decode cX8_asks 72 = .ok (.iconst 2, 1) := by decide +kernel
theorem dX8_asks_73 : decode cX8_asks 73 = .ok (.iload_n 1, 1) := by decide +kernel
theorem dX8_asks_74 : decode cX8_asks 74 = .ok (.iload_n 2, 1) := by decide +kernel
theorem dX8_asks_75 : decode cX8_asks 75 = .ok (.iload_n 3, 1) := by decide +kernel
theorem dX8_asks_76 : decode cX8_asks 76 = .ok (.aload_n 0, 1) := by decide +kernel
theorem dX8_asks_77 : decode cX8_asks 77 = .ok (.invokevirtual 293, 3) := by decide +kernel
theorem dX8_asks_80 : decode cX8_asks 80 = .ok (.invokevirtual 329, 3) := by decide +kernel
theorem dX8_asks_83 : decode cX8_asks 83 = .ok (.ifCond .eq 7, 3) := by decide +kernel
theorem dX8_asks_86 : decode cX8_asks 86 = .ok (.iconst 1, 1) := by decide +kernel
theorem dX8_asks_87 : decode cX8_asks 87 = .ok (.goto 4, 3) := by decide +kernel
theorem dX8_asks_90 : decode cX8_asks 90 = .ok (.iconst 0, 1) := by decide +kernel
theorem dX8_asks_91 : decode cX8_asks 91 = .ok (.ireturn, 1) := by decide +kernel
theorem dX8_asks_92 : decode cX8_asks 92 = .ok (.aload_n 0, 1) := by decide +kernel
theorem dX8_asks_93 : decode cX8_asks 93 = .ok (.iconst 3, 1) := by decide +kernel
theorem dX8_asks_94 : decode cX8_asks 94 = .ok (.iload_n 1, 1) := by decide +kernel
theorem dX8_asks_95 : decode cX8_asks 95 = .ok (.iload_n 2, 1) := by decide +kernel
theorem dX8_asks_96 : decode cX8_asks 96 = .ok (.iload_n 3, 1) := by decide +kernel
theorem dX8_asks_97 : decode cX8_asks 97 = .ok (.aload_n 0, 1) := by decide +kernel
theorem dX8_asks_98 : decode cX8_asks 98 = .ok (.invokevirtual 293, 3) := by decide +kernel
theorem dX8_asks_101 : decode cX8_asks 101 = .ok (.invokevirtual 329, 3) := by decide +kernel
theorem dX8_asks_104 : decode cX8_asks 104 = .ok (.ifCond .eq 7, 3) := by decide +kernel
theorem dX8_asks_107 : decode cX8_asks 107 = .ok (.iconst 1, 1) := by decide +kernel
theorem dX8_asks_108 : decode cX8_asks 108 = .ok (.goto 4, 3) := by decide +kernel
theorem dX8_asks_111 : decode cX8_asks 111 = .ok (.iconst 0, 1) := by decide +kernel
theorem dX8_asks_112 : decode cX8_asks 112 = .ok (.ireturn, 1) := by decide +kernel
theorem dX8_asks_113 : decode cX8_asks 113 = .ok (.aload_n 0, 1) := by decide +kernel
theorem dX8_asks_114 : decode cX8_asks 114 = .ok (.iconst 4, 1) := by decide +kernel
theorem dX8_asks_115 : decode cX8_asks 115 = .ok (.iload_n 1, 1) := by decide +kernel
theorem dX8_asks_116 : decode cX8_asks 116 = .ok (.iload_n 2, 1) := by decide +kernel
theorem dX8_asks_117 : decode cX8_asks 117 = .ok (.iload_n 3, 1) := by decide +kernel
theorem dX8_asks_118 : decode cX8_asks 118 = .ok (.aload_n 0, 1) := by decide +kernel
theorem dX8_asks_119 : decode cX8_asks 119 = .ok (.invokevirtual 293, 3) := by decide +kernel
theorem dX8_asks_122 : decode cX8_asks 122 = .ok (.invokevirtual 329, 3) := by decide +kernel
theorem dX8_asks_125 : decode cX8_asks 125 = .ok (.ifCond .eq 7, 3) := by decide +kernel
theorem dX8_asks_128 : decode cX8_asks 128 = .ok (.iconst 1, 1) := by decide +kernel
theorem dX8_asks_129 : decode cX8_asks 129 = .ok (.goto 4, 3) := by decide +kernel
theorem dX8_asks_132 : decode cX8_asks 132 = .ok (.iconst 0, 1) := by decide +kernel
theorem dX8_asks_133 : decode cX8_asks 133 = .ok (.ireturn, 1) := by decide +kernel
theorem dX8_asks_134 : decode cX8_asks 134 = .ok (.iconst (-1), 1) := by decide +kernel
theorem dX8_asks_135 : decode cX8_asks 135 = .ok (.ireturn, 1) := by decide +kernel
theorem dX8_nextIn_0 : decode cX8_nextIn 0 = .ok (.aload_n 0, 1) := by decide +kernel
theorem dX8_nextIn_1 : decode cX8_nextIn 1 = .ok (.getfield 28, 3) := by decide +kernel
theorem dX8_nextIn_4 : decode cX8_nextIn 4 = .ok (.bipush 16, 2) := by decide +kernel
theorem dX8_nextIn_6 : decode cX8_nextIn 6 = .ok (.iaload, 1) := by decide +kernel
theorem dX8_nextIn_7 : decode cX8_nextIn 7 = .ok (.istore_n 3, 1) := by decide +kernel
theorem dX8_nextIn_8 : decode cX8_nextIn 8 = .ok (.iload_n 1, 1) := by decide +kernel
theorem dX8_nextIn_9 : decode cX8_nextIn 9 = .ok (.iload_n 2, 1) := by decide +kernel
theorem dX8_nextIn_10 : decode cX8_nextIn 10 = .ok (.iadd, 1) := by decide +kernel
theorem dX8_nextIn_11 : decode cX8_nextIn 11 = .ok (.iload_n 3, 1) := by decide +kernel
theorem dX8_nextIn_12 : decode cX8_nextIn 12 = .ok (.iadd, 1) := by decide +kernel
theorem dX8_nextIn_13 : decode cX8_nextIn 13 = .ok (.iload_n 3, 1) := by decide +kernel
theorem dX8_nextIn_14 : decode cX8_nextIn 14 = .ok (.irem, 1) := by decide +kernel
theorem dX8_nextIn_15 : decode cX8_nextIn 15 = .ok (.istore 4, 2) := by decide +kernel
theorem dX8_nextIn_17 : decode cX8_nextIn 17 = .ok (.aload_n 0, 1) := by decide +kernel
theorem dX8_nextIn_18 : decode cX8_nextIn 18 = .ok (.getfield 28, 3) := by decide +kernel
theorem dX8_nextIn_21 : decode cX8_nextIn 21 = .ok (.iconst 0, 1) := by decide +kernel
theorem dX8_nextIn_22 : decode cX8_nextIn 22 = .ok (.iaload, 1) := by decide +kernel
theorem dX8_nextIn_23 : decode cX8_nextIn 23 = .ok (.iload 4, 2) := by decide +kernel
theorem dX8_nextIn_25 : decode cX8_nextIn 25 = .ok (.invokestatic 18, 3) := by decide +kernel
theorem dX8_nextIn_28 : decode cX8_nextIn 28 = .ok (.ifCond .ne 16, 3) := by decide +kernel
theorem dX8_nextIn_31 : decode cX8_nextIn 31 = .ok (.iload 4, 2) := by decide +kernel
theorem dX8_nextIn_33 : decode cX8_nextIn 33 = .ok (.iload_n 2, 1) := by decide +kernel
theorem dX8_nextIn_34 : decode cX8_nextIn 34 = .ok (.iadd, 1) := by decide +kernel
theorem dX8_nextIn_35 : decode cX8_nextIn 35 = .ok (.iload_n 3, 1) := by decide +kernel
theorem dX8_nextIn_36 : decode cX8_nextIn 36 = .ok (.iadd, 1) := by decide +kernel
theorem dX8_nextIn_37 : decode cX8_nextIn 37 = .ok (.iload_n 3, 1) := by decide +kernel
theorem dX8_nextIn_38 : decode cX8_nextIn 38 = .ok (.irem, 1) := by decide +kernel
theorem dX8_nextIn_39 : decode cX8_nextIn 39 = .ok (.istore 4, 2) := by decide +kernel
theorem dX8_nextIn_41 : decode cX8_nextIn 41 = .ok (.goto (-24), 3) := by decide +kernel
theorem dX8_nextIn_44 : decode cX8_nextIn 44 = .ok (.iload 4, 2) := by decide +kernel
theorem dX8_nextIn_46 : decode cX8_nextIn 46 = .ok (.ireturn, 1) := by decide +kernel
theorem dX8_canSay_0 : decode cX8_canSay 0 = .ok (.aload_n 0, 1) := by decide +kernel
theorem dX8_canSay_1 : decode cX8_canSay 1 = .ok (.invokevirtual 293, 3) := by decide +kernel
theorem dX8_canSay_4 : decode cX8_canSay 4 = .ok (.iconst 1, 1) := by decide +kernel
theorem dX8_canSay_5 : decode cX8_canSay 5 = .ok (.if_icmp .le 7, 3) := by decide +kernel
theorem dX8_canSay_8 : decode cX8_canSay 8 = .ok (.iconst 1, 1) := by decide +kernel
theorem dX8_canSay_9 : decode cX8_canSay 9 = .ok (.goto 4, 3) := by decide +kernel
theorem dX8_canSay_12 : decode cX8_canSay 12 = .ok (.iconst 0, 1) := by decide +kernel
theorem dX8_canSay_13 : decode cX8_canSay 13 = .ok (.ireturn, 1) := by decide +kernel
theorem dX8_beginner_0 : decode cX8_beginner 0 = .ok (.aload_n 0, 1) := by decide +kernel
theorem dX8_beginner_1 : decode cX8_beginner 1 = .ok (.getfield 28, 3) := by decide +kernel
theorem dX8_beginner_4 : decode cX8_beginner 4 = .ok (.iconst 1, 1) := by decide +kernel
theorem dX8_beginner_5 : decode cX8_beginner 5 = .ok (.iaload, 1) := by decide +kernel
theorem dX8_beginner_6 : decode cX8_beginner 6 = .ok (.aload_n 0, 1) := by decide +kernel
theorem dX8_beginner_7 : decode cX8_beginner 7 = .ok (.getfield 28, 3) := by decide +kernel
theorem dX8_beginner_10 : decode cX8_beginner 10 = .ok (.bipush 16, 2) := by decide +kernel
theorem dX8_beginner_12 : decode cX8_beginner 12 = .ok (.iaload, 1) := by decide +kernel
theorem dX8_beginner_13 : decode cX8_beginner 13 = .ok (.irem, 1) := by decide +kernel
theorem dX8_beginner_14 : decode cX8_beginner 14 = .ok (.istore_n 1, 1) := by decide +kernel
theorem dX8_beginner_15 : decode cX8_beginner 15 = .ok (.aload_n 0, 1) := by decide +kernel
theorem dX8_beginner_16 : decode cX8_beginner 16 = .ok (.getfield 28, 3) := by decide +kernel
theorem dX8_beginner_19 : decode cX8_beginner 19 = .ok (.iconst 0, 1) := by decide +kernel
theorem dX8_beginner_20 : decode cX8_beginner 20 = .ok (.iaload, 1) := by decide +kernel
theorem dX8_beginner_21 : decode cX8_beginner 21 = .ok (.iload_n 1, 1) := by decide +kernel
theorem dX8_beginner_22 : decode cX8_beginner 22 = .ok (.invokestatic 18, 3) := by decide +kernel
theorem dX8_beginner_25 : decode cX8_beginner 25 = .ok (.ifCond .eq 7, 3) := by decide +kernel
theorem dX8_beginner_28 : decode cX8_beginner 28 = .ok (.iload_n 1, 1) := by decide +kernel
theorem dX8_beginner_29 : decode cX8_beginner 29 = .ok (.goto 9, 3) := by decide +kernel
theorem dX8_beginner_32 : decode cX8_beginner 32 = .ok (.aload_n 0, 1) := by decide +kernel
theorem dX8_beginner_33 : decode cX8_beginner 33 = .ok (.iload_n 1, 1) := by decide +kernel
theorem dX8_beginner_34 : decode cX8_beginner 34 = .ok (.iconst 1, 1) := by decide +kernel
theorem dX8_beginner_35 : decode cX8_beginner 35 = .ok (.invokevirtual 333, 3) := by decide +kernel
theorem dX8_beginner_38 : decode cX8_beginner 38 = .ok (.ireturn, 1) := by decide +kernel
theorem dX8_passedOn_0 : decode cX8_passedOn 0 = .ok (.iload_n 2, 1) := by decide +kernel
theorem dX8_passedOn_1 : decode cX8_passedOn 1 = .ok (.istore 6, 2) := by decide +kernel
theorem dX8_passedOn_3 : decode cX8_passedOn 3 = .ok (.iconst 0, 1) := by decide +kernel
theorem dX8_passedOn_4 : decode cX8_passedOn 4 = .ok (.istore 7, 2) := by decide +kernel
theorem dX8_passedOn_6 : decode cX8_passedOn 6 = .ok (.iload 7, 2) := by decide +kernel
theorem dX8_passedOn_8 : decode cX8_passedOn 8 = .ok (.iload 5, 2) := by decide +kernel
theorem dX8_passedOn_10 : decode cX8_passedOn 10 = .ok (.if_icmp .ge 33, 3) := by decide +kernel
theorem dX8_passedOn_13 : decode cX8_passedOn 13 = .ok (.aload_n 0, 1) := by decide +kernel
theorem dX8_passedOn_14 : decode cX8_passedOn 14 = .ok (.iconst 2, 1) := by decide +kernel
theorem dX8_passedOn_15 : decode cX8_passedOn 15 = .ok (.iload_n 1, 1) := by decide +kernel
theorem dX8_passedOn_16 : decode cX8_passedOn 16 = .ok (.iload 6, 2) := by decide +kernel
theorem dX8_passedOn_18 : decode cX8_passedOn 18 = .ok (.iload_n 3, 1) := by decide +kernel
theorem dX8_passedOn_19 : decode cX8_passedOn 19 = .ok (.iload 5, 2) := by decide +kernel
theorem dX8_passedOn_21 : decode cX8_passedOn 21 = .ok (.invokevirtual 329, 3) := by decide +kernel
theorem dX8_passedOn_24 : decode cX8_passedOn 24 = .ok (.ifCond .eq 19, 3) := by decide +kernel
theorem dX8_passedOn_27 : decode cX8_passedOn 27 = .ok (.aload_n 0, 1) := by decide +kernel
theorem dX8_passedOn_28 : decode cX8_passedOn 28 = .ok (.iload 6, 2) := by decide +kernel
theorem dX8_passedOn_30 : decode cX8_passedOn 30 = .ok (.iload 4, 2) := by decide +kernel
theorem dX8_passedOn_32 : decode cX8_passedOn 32 = .ok (.invokevirtual 333, 3) := by decide +kernel
theorem dX8_passedOn_35 : decode cX8_passedOn 35 = .ok (.istore 6, 2) := by decide +kernel
theorem dX8_passedOn_37 : decode cX8_passedOn 37 = .ok (.iinc 7 1, 3) := by decide +kernel
theorem dX8_passedOn_40 : decode cX8_passedOn 40 = .ok (.goto (-34), 3) := by decide +kernel
theorem dX8_passedOn_43 : decode cX8_passedOn 43 = .ok (.iload 6, 2) := by decide +kernel
theorem dX8_passedOn_45 : decode cX8_passedOn 45 = .ok (.ireturn, 1) := by decide +kernel
theorem dX8_counts_0 : decode cX8_counts 0 = .ok (.aload_n 0, 1) := by decide +kernel
theorem dX8_counts_1 : decode cX8_counts 1 = .ok (.invokevirtual 293, 3) := by decide +kernel
theorem dX8_counts_4 : decode cX8_counts 4 = .ok (.istore_n 3, 1) := by decide +kernel
theorem dX8_counts_5 : decode cX8_counts 5 = .ok (.aload_n 0, 1) := by decide +kernel
theorem dX8_counts_6 : decode cX8_counts 6 = .ok (.invokevirtual 336, 3) := by decide +kernel
theorem dX8_counts_9 : decode cX8_counts 9 = .ok (.istore 4, 2) := by decide +kernel
theorem dX8_counts_11 : decode cX8_counts 11 = .ok (.iconst 1, 1) := by decide +kernel
theorem dX8_counts_12 : decode cX8_counts 12 = .ok (.aload_n 0, 1) := by decide +kernel
theorem dX8_counts_13 : decode cX8_counts 13 = .ok (.iload_n 1, 1) := by decide +kernel
theorem dX8_counts_14 : decode cX8_counts 14 = .ok (.iload 4, 2) := by decide +kernel
theorem dX8_counts_16 : decode cX8_counts 16 = .ok (.iload_n 3, 1) := by decide +kernel
theorem dX8_counts_17 : decode cX8_counts 17 = .ok (.invokevirtual 325, 3) := by decide +kernel
theorem dX8_counts_20 : decode cX8_counts 20 = .ok (.iload_n 2, 1) := by decide +kernel
theorem dX8_counts_21 : decode cX8_counts 21 = .ok (.isub, 1) := by decide +kernel
theorem dX8_counts_22 : decode cX8_counts 22 = .ok (.invokestatic 339, 3) := by decide +kernel
theorem dX8_counts_25 : decode cX8_counts 25 = .ok (.istore 5, 2) := by decide +kernel
theorem dX8_counts_27 : decode cX8_counts 27 = .ok (.iconst 1, 1) := by decide +kernel
theorem dX8_counts_28 : decode cX8_counts 28 = .ok (.istore 6, 2) := by decide +kernel
theorem dX8_counts_30 : decode cX8_counts 30 = .ok (.aload_n 0, 1) := by decide +kernel
theorem dX8_counts_31 : decode cX8_counts 31 = .ok (.getfield 66, 3) := by decide +kernel
theorem dX8_counts_34 : decode cX8_counts 34 = .ok (.iconst 0, 1) := by decide +kernel
theorem dX8_counts_35 : decode cX8_counts 35 = .ok (.iload 4, 2) := by decide +kernel
theorem dX8_counts_37 : decode cX8_counts 37 = .ok (.iastore, 1) := by decide +kernel
theorem dX8_counts_38 : decode cX8_counts 38 = .ok (.iconst 1, 1) := by decide +kernel
theorem dX8_counts_39 : decode cX8_counts 39 = .ok (.istore 7, 2) := by decide +kernel
theorem dX8_counts_41 : decode cX8_counts 41 = .ok (.iload 7, 2) := by decide +kernel
theorem dX8_counts_43 : decode cX8_counts 43 = .ok (.iload 5, 2) := by decide +kernel
theorem dX8_counts_45 : decode cX8_counts 45 = .ok (.if_icmp .gt 67, 3) := by decide +kernel
theorem dX8_counts_48 : decode cX8_counts 48 = .ok (.iload 7, 2) := by decide +kernel
theorem dX8_counts_50 : decode cX8_counts 50 = .ok (.iconst 1, 1) := by decide +kernel
theorem dX8_counts_51 : decode cX8_counts 51 = .ok (.if_icmp .le 13, 3) := by decide +kernel
theorem dX8_counts_54 : decode cX8_counts 54 = .ok (.aload_n 0, 1) := by decide +kernel
theorem dX8_counts_55 : decode cX8_counts 55 = .ok (.iload 4, 2) := by decide +kernel
theorem dX8_counts_57 : decode cX8_counts 57 = .ok (.iload 6, 2) := by decide +kernel
theorem dX8_counts_59 : decode cX8_counts 59 = .ok (.invokevirtual 333, 3) := by decide +kernel
theorem dX8_counts_62 : decode cX8_counts 62 = .ok (.istore 4, 2) := by decide +kernel
theorem dX8_counts_64 : decode cX8_counts 64 = .ok (.aload_n 0, 1) := by decide +kernel
theorem dX8_counts_65 : decode cX8_counts 65 = .ok (.iload_n 1, 1) := by decide +kernel
theorem dX8_counts_66 : decode cX8_counts 66 = .ok (.iload 4, 2) := by decide +kernel
theorem dX8_counts_68 : decode cX8_counts 68 = .ok (.iload 7, 2) := by decide +kernel
theorem dX8_counts_70 : decode cX8_counts 70 = .ok (.iload 6, 2) := by decide +kernel
theorem dX8_counts_72 : decode cX8_counts 72 = .ok (.iload_n 3, 1) := by decide +kernel
theorem dX8_counts_73 : decode cX8_counts 73 = .ok (.invokevirtual 342, 3) := by decide +kernel
theorem dX8_counts_76 : decode cX8_counts 76 = .ok (.istore 4, 2) := by decide +kernel
theorem dX8_counts_78 : decode cX8_counts 78 = .ok (.aload_n 0, 1) := by decide +kernel
theorem dX8_counts_79 : decode cX8_counts 79 = .ok (.getfield 66, 3) := by decide +kernel
theorem dX8_counts_82 : decode cX8_counts 82 = .ok (.iload 7, 2) := by decide +kernel
theorem dX8_counts_84 : decode cX8_counts 84 = .ok (.iload 4, 2) := by decide +kernel
theorem dX8_counts_86 : decode cX8_counts 86 = .ok (.iastore, 1) := by decide +kernel
theorem dX8_counts_87 : decode cX8_counts 87 = .ok (.aload_n 0, 1) := by decide +kernel
theorem dX8_counts_88 : decode cX8_counts 88 = .ok (.iconst 3, 1) := by decide +kernel
theorem dX8_counts_89 : decode cX8_counts 89 = .ok (.iload_n 1, 1) := by decide +kernel
theorem dX8_counts_90 : decode cX8_counts 90 = .ok (.iload 4, 2) := by decide +kernel
theorem dX8_counts_92 : decode cX8_counts 92 = .ok (.iload 7, 2) := by decide +kernel
theorem dX8_counts_94 : decode cX8_counts 94 = .ok (.iload_n 3, 1) := by decide +kernel
theorem dX8_counts_95 : decode cX8_counts 95 = .ok (.invokevirtual 329, 3) := by decide +kernel
theorem dX8_counts_98 : decode cX8_counts 98 = .ok (.ifCond .eq 8, 3) := by decide +kernel
theorem dX8_counts_101 : decode cX8_counts 101 = .ok (.iload 6, 2) := by decide +kernel
theorem dX8_counts_103 : decode cX8_counts 103 = .ok (.ineg, 1) := by decide +kernel
theorem dX8_counts_104 : decode cX8_counts 104 = .ok (.istore 6, 2) := by decide +kernel
theorem dX8_counts_106 : decode cX8_counts 106 = .ok (.iinc 7 1, 3) := by decide +kernel
theorem dX8_counts_109 : decode cX8_counts 109 = .ok (.goto (-68), 3) := by decide +kernel
theorem dX8_counts_112 : decode cX8_counts 112 = .ok (.iload 5, 2) := by decide +kernel
theorem dX8_counts_114 : decode cX8_counts 114 = .ok (.ireturn, 1) := by decide +kernel
theorem dX8_says_0 : decode cX8_says 0 = .ok (.aload_n 0, 1) := by decide +kernel
theorem dX8_says_1 : decode cX8_says 1 = .ok (.iload_n 1, 1) := by decide +kernel
theorem dX8_says_2 : decode cX8_says 2 = .ok (.iload_n 2, 1) := by decide +kernel
theorem dX8_says_3 : decode cX8_says 3 = .ok (.invokevirtual 346, 3) := by decide +kernel
theorem dX8_says_6 : decode cX8_says 6 = .ok (.istore_n 3, 1) := by decide +kernel
theorem dX8_says_7 : decode cX8_says 7 = .ok (.aload_n 0, 1) := by decide +kernel
theorem dX8_says_8 : decode cX8_says 8 = .ok (.getfield 66, 3) := by decide +kernel
theorem dX8_says_11 : decode cX8_says 11 = .ok (.iload_n 3, 1) := by decide +kernel
theorem dX8_says_12 : decode cX8_says 12 = .ok (.iaload, 1) := by decide +kernel
theorem dX8_says_13 : decode cX8_says 13 = .ok (.istore 4, 2) := by decide +kernel
theorem dX8_says_15 : decode cX8_says 15 = .ok (.aload_n 0, 1) := by decide +kernel
theorem dX8_says_16 : decode cX8_says 16 = .ok (.iconst 4, 1) := by decide +kernel
theorem dX8_says_17 : decode cX8_says 17 = .ok (.iload_n 1, 1) := by decide +kernel
theorem dX8_says_18 : decode cX8_says 18 = .ok (.iload 4, 2) := by decide +kernel
theorem dX8_says_20 : decode cX8_says 20 = .ok (.iload_n 3, 1) := by decide +kernel
theorem dX8_says_21 : decode cX8_says 21 = .ok (.aload_n 0, 1) := by decide +kernel
theorem dX8_says_22 : decode cX8_says 22 = .ok (.invokevirtual 293, 3) := by decide +kernel
theorem dX8_says_25 : decode cX8_says 25 = .ok (.invokevirtual 329, 3) := by decide +kernel
theorem dX8_says_28 : decode cX8_says 28 = .ok (.istore 5, 2) := by decide +kernel
theorem dX8_says_30 : decode cX8_says 30 = .ok (.aload_n 0, 1) := by decide +kernel
theorem dX8_says_31 : decode cX8_says 31 = .ok (.getfield 28, 3) := by decide +kernel
theorem dX8_says_34 : decode cX8_says 34 = .ok (.iconst 1, 1) := by decide +kernel
theorem dX8_says_35 : decode cX8_says 35 = .ok (.iload 4, 2) := by decide +kernel
theorem dX8_says_37 : decode cX8_says 37 = .ok (.iconst 1, 1) := by decide +kernel
theorem dX8_says_38 : decode cX8_says 38 = .ok (.iadd, 1) := by decide +kernel
theorem dX8_says_39 : decode cX8_says 39 = .ok (.aload_n 0, 1) := by decide +kernel
theorem dX8_says_40 : decode cX8_says 40 = .ok (.getfield 28, 3) := by decide +kernel
theorem dX8_says_43 : decode cX8_says 43 = .ok (.bipush 16, 2) := by decide +kernel
theorem dX8_says_45 : decode cX8_says 45 = .ok (.iaload, 1) := by decide +kernel
theorem dX8_says_46 : decode cX8_says 46 = .ok (.irem, 1) := by decide +kernel
theorem dX8_says_47 : decode cX8_says 47 = .ok (.iastore, 1) := by decide +kernel
theorem dX8_says_48 : decode cX8_says 48 = .ok (.iload 5, 2) := by decide +kernel
theorem dX8_says_50 : decode cX8_says 50 = .ok (.ifCond .eq 9, 3) := by decide +kernel
theorem dX8_says_53 : decode cX8_says 53 = .ok (.bipush 100, 2) := by decide +kernel
theorem dX8_says_55 : decode cX8_says 55 = .ok (.iload 4, 2) := by decide +kernel
theorem dX8_says_57 : decode cX8_says 57 = .ok (.iadd, 1) := by decide +kernel
theorem dX8_says_58 : decode cX8_says 58 = .ok (.ireturn, 1) := by decide +kernel
theorem dX8_says_59 : decode cX8_says 59 = .ok (.aload_n 0, 1) := by decide +kernel
theorem dX8_says_60 : decode cX8_says 60 = .ok (.getfield 28, 3) := by decide +kernel
theorem dX8_says_63 : decode cX8_says 63 = .ok (.iconst 0, 1) := by decide +kernel
theorem dX8_says_64 : decode cX8_says 64 = .ok (.dup2, 1) := by decide +kernel
theorem dX8_says_65 : decode cX8_says 65 = .ok (.iaload, 1) := by decide +kernel
theorem dX8_says_66 : decode cX8_says 66 = .ok (.iconst 1, 1) := by decide +kernel
theorem dX8_says_67 : decode cX8_says 67 = .ok (.iload 4, 2) := by decide +kernel
theorem dX8_says_69 : decode cX8_says 69 = .ok (.ishl, 1) := by decide +kernel
theorem dX8_says_70 : decode cX8_says 70 = .ok (.iconst (-1), 1) := by decide +kernel
theorem dX8_says_71 : decode cX8_says 71 = .ok (.ixor, 1) := by decide +kernel
theorem dX8_says_72 : decode cX8_says 72 = .ok (.iand, 1) := by decide +kernel
theorem dX8_says_73 : decode cX8_says 73 = .ok (.iastore, 1) := by decide +kernel
theorem dX8_says_74 : decode cX8_says 74 = .ok (.iload 4, 2) := by decide +kernel
theorem dX8_says_76 : decode cX8_says 76 = .ok (.ireturn, 1) := by decide +kernel
theorem dX8_roundPasses_0 : decode cX8_roundPasses 0 = .ok (.aload_n 0, 1) := by decide +kernel
theorem dX8_roundPasses_1 : decode cX8_roundPasses 1 = .ok (.getfield 28, 3) := by decide +kernel
theorem dX8_roundPasses_4 : decode cX8_roundPasses 4 = .ok (.iconst 0, 1) := by decide +kernel
theorem dX8_roundPasses_5 : decode cX8_roundPasses 5 = .ok (.aload_n 0, 1) := by decide +kernel
theorem dX8_roundPasses_6 : decode cX8_roundPasses 6 = .ok (.invokevirtual 349, 3) := by decide +kernel
theorem dX8_roundPasses_9 : decode cX8_roundPasses 9 = .ok (.iastore, 1) := by decide +kernel
theorem dX8_roundPasses_10 : decode cX8_roundPasses 10 = .ok (.aload_n 0, 1) := by decide +kernel
theorem dX8_roundPasses_11 : decode cX8_roundPasses 11 = .ok (.getfield 28, 3) := by decide +kernel
theorem dX8_roundPasses_14 : decode cX8_roundPasses 14 = .ok (.iconst 1, 1) := by decide +kernel
theorem dX8_roundPasses_15 : decode cX8_roundPasses 15 = .ok (.iconst 0, 1) := by decide +kernel
theorem dX8_roundPasses_16 : decode cX8_roundPasses 16 = .ok (.iastore, 1) := by decide +kernel
theorem dX8_roundPasses_17 : decode cX8_roundPasses 17 = .ok (.aload_n 0, 1) := by decide +kernel
theorem dX8_roundPasses_18 : decode cX8_roundPasses 18 = .ok (.getfield 28, 3) := by decide +kernel
theorem dX8_roundPasses_21 : decode cX8_roundPasses 21 = .ok (.iconst 2, 1) := by decide +kernel
theorem dX8_roundPasses_22 : decode cX8_roundPasses 22 = .ok (.dup2, 1) := by decide +kernel
theorem dX8_roundPasses_23 : decode cX8_roundPasses 23 = .ok (.iaload, 1) := by decide +kernel
theorem dX8_roundPasses_24 : decode cX8_roundPasses 24 = .ok (.iconst 1, 1) := by decide +kernel
theorem dX8_roundPasses_25 : decode cX8_roundPasses 25 = .ok (.iadd, 1) := by decide +kernel
theorem dX8_roundPasses_26 : decode cX8_roundPasses 26 = .ok (.iastore, 1) := by decide +kernel
theorem dX8_roundPasses_27 : decode cX8_roundPasses 27 = .ok (.return_, 1) := by decide +kernel
theorem dX8_falls_0 : decode cX8_falls 0 = .ok (.aload_n 0, 1) := by decide +kernel
theorem dX8_falls_1 : decode cX8_falls 1 = .ok (.iload_n 1, 1) := by decide +kernel
theorem dX8_falls_2 : decode cX8_falls 2 = .ok (.invokevirtual 136, 3) := by decide +kernel
theorem dX8_falls_5 : decode cX8_falls 5 = .ok (.ifCond .eq 10, 3) := by decide +kernel
theorem dX8_falls_8 : decode cX8_falls 8 = .ok (.aload_n 0, 1) := by decide +kernel
theorem dX8_falls_9 : decode cX8_falls 9 = .ok (.invokevirtual 352, 3) := by decide +kernel
theorem dX8_falls_12 : decode cX8_falls 12 = .ok (.ifCond .ne 5, 3) := by decide +kernel
theorem dX8_falls_15 : decode cX8_falls 15 = .ok (.iconst (-1), 1) := by decide +kernel
theorem dX8_falls_16 : decode cX8_falls 16 = .ok (.ireturn, 1) := by decide +kernel
theorem dX8_falls_17 : decode cX8_falls 17 = .ok (.aload_n 0, 1) := by decide +kernel
theorem dX8_falls_18 : decode cX8_falls 18 = .ok (.iload_n 1, 1) := by decide +kernel
theorem dX8_falls_19 : decode cX8_falls 19 = .ok (.iconst 0, 1) := by decide +kernel
theorem dX8_falls_20 : decode cX8_falls 20 = .ok (.invokevirtual 346, 3) := by decide +kernel
theorem dX8_falls_23 : decode cX8_falls 23 = .ok (.istore_n 3, 1) := by decide +kernel
theorem dX8_falls_24 : decode cX8_falls 24 = .ok (.iload_n 2, 1) := by decide +kernel
theorem dX8_falls_25 : decode cX8_falls 25 = .ok (.iconst 0, 1) := by decide +kernel
theorem dX8_falls_26 : decode cX8_falls 26 = .ok (.iload_n 3, 1) := by decide +kernel
theorem dX8_falls_27 : decode cX8_falls 27 = .ok (.invokestatic 115, 3) := by decide +kernel
theorem dX8_falls_30 : decode cX8_falls 30 = .ok (.ifCond .ne 5, 3) := by decide +kernel
theorem dX8_falls_33 : decode cX8_falls 33 = .ok (.iconst (-1), 1) := by decide +kernel
theorem dX8_falls_34 : decode cX8_falls 34 = .ok (.ireturn, 1) := by decide +kernel
theorem dX8_falls_35 : decode cX8_falls 35 = .ok (.aload_n 0, 1) := by decide +kernel
theorem dX8_falls_36 : decode cX8_falls 36 = .ok (.getfield 66, 3) := by decide +kernel
theorem dX8_falls_39 : decode cX8_falls 39 = .ok (.iload_n 2, 1) := by decide +kernel
theorem dX8_falls_40 : decode cX8_falls 40 = .ok (.iaload, 1) := by decide +kernel
theorem dX8_falls_41 : decode cX8_falls 41 = .ok (.ireturn, 1) := by decide +kernel
theorem dX8_forgetsEldest_0 : decode cX8_forgetsEldest 0 = .ok (.iconst 4, 1) := by decide +kernel
theorem dX8_forgetsEldest_1 : decode cX8_forgetsEldest 1 = .ok (.istore_n 1, 1) := by decide +kernel
theorem dX8_forgetsEldest_2 : decode cX8_forgetsEldest 2 = .ok (.iconst 0, 1) := by decide +kernel
theorem dX8_forgetsEldest_3 : decode cX8_forgetsEldest 3 = .ok (.istore_n 2, 1) := by decide +kernel
theorem dX8_forgetsEldest_4 : decode cX8_forgetsEldest 4 = .ok (.iload_n 2, 1) := by decide +kernel
theorem dX8_forgetsEldest_5 : decode cX8_forgetsEldest 5 = .ok (.bipush 15, 2) := by decide +kernel
theorem dX8_forgetsEldest_7 : decode cX8_forgetsEldest 7 = .ok (.iload_n 1, 1) := by decide +kernel
theorem dX8_forgetsEldest_8 : decode cX8_forgetsEldest 8 = .ok (.imul, 1) := by decide +kernel
theorem dX8_forgetsEldest_9 : decode cX8_forgetsEldest 9 = .ok (.if_icmp .ge 23, 3) := by decide +kernel
theorem dX8_forgetsEldest_12 : decode cX8_forgetsEldest 12 = .ok (.aload_n 0, 1) := by decide +kernel
theorem dX8_forgetsEldest_13 : decode cX8_forgetsEldest 13 = .ok (.getfield 69, 3) := by decide +kernel
theorem dX8_forgetsEldest_16 : decode cX8_forgetsEldest 16 = .ok (.iload_n 2, 1) := by decide +kernel
theorem dX8_forgetsEldest_17 : decode cX8_forgetsEldest 17 = .ok (.aload_n 0, 1) := by decide +kernel
theorem dX8_forgetsEldest_18 : decode cX8_forgetsEldest 18 = .ok (.getfield 69, 3) := by decide +kernel
theorem dX8_forgetsEldest_21 : decode cX8_forgetsEldest 21 = .ok (.iload_n 2, 1) := by decide +kernel
theorem dX8_forgetsEldest_22 : decode cX8_forgetsEldest 22 = .ok (.iload_n 1, 1) := by decide +kernel
theorem dX8_forgetsEldest_23 : decode cX8_forgetsEldest 23 = .ok (.iadd, 1) := by decide +kernel
theorem dX8_forgetsEldest_24 : decode cX8_forgetsEldest 24 = .ok (.iaload, 1) := by decide +kernel
theorem dX8_forgetsEldest_25 : decode cX8_forgetsEldest 25 = .ok (.iastore, 1) := by decide +kernel
theorem dX8_forgetsEldest_26 : decode cX8_forgetsEldest 26 = .ok (.iinc 2 1, 3) := by decide +kernel
theorem dX8_forgetsEldest_29 : decode cX8_forgetsEldest 29 = .ok (.goto (-25), 3) := by decide +kernel
theorem dX8_forgetsEldest_32 : decode cX8_forgetsEldest 32 = .ok (.aload_n 0, 1) := by decide +kernel
theorem dX8_forgetsEldest_33 : decode cX8_forgetsEldest 33 = .ok (.dup, 1) := by decide +kernel
theorem dX8_forgetsEldest_34 : decode cX8_forgetsEldest 34 = .ok (.getfield 11, 3) := by decide +kernel
theorem dX8_forgetsEldest_37 : decode cX8_forgetsEldest 37 = .ok (.iconst 1, 1) := by decide +kernel
theorem dX8_forgetsEldest_38 : decode cX8_forgetsEldest 38 = .ok (.isub, 1) := by decide +kernel
theorem dX8_forgetsEldest_39 : decode cX8_forgetsEldest 39 = .ok (.putfield 11, 3) := by decide +kernel
theorem dX8_forgetsEldest_42 : decode cX8_forgetsEldest 42 = .ok (.return_, 1) := by decide +kernel
theorem dX8_keepsAll_0 : decode cX8_keepsAll 0 = .ok (.iconst 4, 1) := by decide +kernel
theorem dX8_keepsAll_1 : decode cX8_keepsAll 1 = .ok (.istore_n 2, 1) := by decide +kernel
theorem dX8_keepsAll_2 : decode cX8_keepsAll 2 = .ok (.aload_n 0, 1) := by decide +kernel
theorem dX8_keepsAll_3 : decode cX8_keepsAll 3 = .ok (.getfield 11, 3) := by decide +kernel
theorem dX8_keepsAll_6 : decode cX8_keepsAll 6 = .ok (.bipush 16, 2) := by decide +kernel
theorem dX8_keepsAll_8 : decode cX8_keepsAll 8 = .ok (.if_icmp .ne 7, 3) := by decide +kernel
theorem dX8_keepsAll_11 : decode cX8_keepsAll 11 = .ok (.aload_n 0, 1) := by decide +kernel
theorem dX8_keepsAll_12 : decode cX8_keepsAll 12 = .ok (.invokevirtual 355, 3) := by decide +kernel
theorem dX8_keepsAll_15 : decode cX8_keepsAll 15 = .ok (.iconst 0, 1) := by decide +kernel
theorem dX8_keepsAll_16 : decode cX8_keepsAll 16 = .ok (.istore_n 3, 1) := by decide +kernel
theorem dX8_keepsAll_17 : decode cX8_keepsAll 17 = .ok (.iload_n 3, 1) := by decide +kernel
theorem dX8_keepsAll_18 : decode cX8_keepsAll 18 = .ok (.iconst 3, 1) := by decide +kernel
theorem dX8_keepsAll_19 : decode cX8_keepsAll 19 = .ok (.if_icmp .ge 28, 3) := by decide +kernel
theorem dX8_keepsAll_22 : decode cX8_keepsAll 22 = .ok (.aload_n 0, 1) := by decide +kernel
theorem dX8_keepsAll_23 : decode cX8_keepsAll 23 = .ok (.getfield 69, 3) := by decide +kernel
theorem dX8_keepsAll_26 : decode cX8_keepsAll 26 = .ok (.iload_n 2, 1) := by decide +kernel
theorem dX8_keepsAll_27 : decode cX8_keepsAll 27 = .ok (.aload_n 0, 1) := by decide +kernel
theorem dX8_keepsAll_28 : decode cX8_keepsAll 28 = .ok (.getfield 11, 3) := by decide +kernel
theorem dX8_keepsAll_31 : decode cX8_keepsAll 31 = .ok (.imul, 1) := by decide +kernel
theorem dX8_keepsAll_32 : decode cX8_keepsAll 32 = .ok (.iload_n 3, 1) := by decide +kernel
theorem dX8_keepsAll_33 : decode cX8_keepsAll 33 = .ok (.iadd, 1) := by decide +kernel
theorem dX8_keepsAll_34 : decode cX8_keepsAll 34 = .ok (.aload_n 0, 1) := by decide +kernel
theorem dX8_keepsAll_35 : decode cX8_keepsAll 35 = .ok (.getfield 28, 3) := by decide +kernel
theorem dX8_keepsAll_38 : decode cX8_keepsAll 38 = .ok (.iload_n 3, 1) := by decide +kernel
theorem dX8_keepsAll_39 : decode cX8_keepsAll 39 = .ok (.iaload, 1) := by decide +kernel
theorem dX8_keepsAll_40 : decode cX8_keepsAll 40 = .ok (.iastore, 1) := by decide +kernel
theorem dX8_keepsAll_41 : decode cX8_keepsAll 41 = .ok (.iinc 3 1, 3) := by decide +kernel
theorem dX8_keepsAll_44 : decode cX8_keepsAll 44 = .ok (.goto (-27), 3) := by decide +kernel
theorem dX8_keepsAll_47 : decode cX8_keepsAll 47 = .ok (.aload_n 0, 1) := by decide +kernel
theorem dX8_keepsAll_48 : decode cX8_keepsAll 48 = .ok (.getfield 69, 3) := by decide +kernel
theorem dX8_keepsAll_51 : decode cX8_keepsAll 51 = .ok (.iload_n 2, 1) := by decide +kernel
theorem dX8_keepsAll_52 : decode cX8_keepsAll 52 = .ok (.aload_n 0, 1) := by decide +kernel
theorem dX8_keepsAll_53 : decode cX8_keepsAll 53 = .ok (.getfield 11, 3) := by decide +kernel
theorem dX8_keepsAll_56 : decode cX8_keepsAll 56 = .ok (.imul, 1) := by decide +kernel
theorem dX8_keepsAll_57 : decode cX8_keepsAll 57 = .ok (.iconst 3, 1) := by decide +kernel
theorem dX8_keepsAll_58 : decode cX8_keepsAll 58 = .ok (.iadd, 1) := by decide +kernel
theorem dX8_keepsAll_59 : decode cX8_keepsAll 59 = .ok (.iload_n 1, 1) := by decide +kernel
theorem dX8_keepsAll_60 : decode cX8_keepsAll 60 = .ok (.iastore, 1) := by decide +kernel
theorem dX8_keepsAll_61 : decode cX8_keepsAll 61 = .ok (.aload_n 0, 1) := by decide +kernel
theorem dX8_keepsAll_62 : decode cX8_keepsAll 62 = .ok (.dup, 1) := by decide +kernel
theorem dX8_keepsAll_63 : decode cX8_keepsAll 63 = .ok (.getfield 11, 3) := by decide +kernel
theorem dX8_keepsAll_66 : decode cX8_keepsAll 66 = .ok (.iconst 1, 1) := by decide +kernel
theorem dX8_keepsAll_67 : decode cX8_keepsAll 67 = .ok (.iadd, 1) := by decide +kernel
theorem dX8_keepsAll_68 : decode cX8_keepsAll 68 = .ok (.putfield 11, 3) := by decide +kernel
theorem dX8_keepsAll_71 : decode cX8_keepsAll 71 = .ok (.return_, 1) := by decide +kernel
theorem dX8_undo_0 : decode cX8_undo 0 = .ok (.aload_n 0, 1) := by decide +kernel
theorem dX8_undo_1 : decode cX8_undo 1 = .ok (.getfield 11, 3) := by decide +kernel
theorem dX8_undo_4 : decode cX8_undo 4 = .ok (.ifCond .ne 10, 3) := by decide +kernel
theorem dX8_undo_7 : decode cX8_undo 7 = .ok (.aload_n 0, 1) := by decide +kernel
theorem dX8_undo_8 : decode cX8_undo 8 = .ok (.bipush (-3), 2) := by decide +kernel
theorem dX8_undo_10 : decode cX8_undo 10 = .ok (.invokevirtual 119, 3) := by decide +kernel
theorem dX8_undo_13 : decode cX8_undo 13 = .ok (.ireturn, 1) := by decide +kernel
theorem dX8_undo_14 : decode cX8_undo 14 = .ok (.aload_n 0, 1) := by decide +kernel
theorem dX8_undo_15 : decode cX8_undo 15 = .ok (.dup, 1) := by decide +kernel
theorem dX8_undo_16 : decode cX8_undo 16 = .ok (.getfield 11, 3) := by decide +kernel
theorem dX8_undo_19 : decode cX8_undo 19 = .ok (.iconst 1, 1) := by decide +kernel
theorem dX8_undo_20 : decode cX8_undo 20 = .ok (.isub, 1) := by decide +kernel
theorem dX8_undo_21 : decode cX8_undo 21 = .ok (.putfield 11, 3) := by decide +kernel
theorem dX8_undo_24 : decode cX8_undo 24 = .ok (.iconst 4, 1) := by decide +kernel
theorem dX8_undo_25 : decode cX8_undo 25 = .ok (.aload_n 0, 1) := by decide +kernel
theorem dX8_undo_26 : decode cX8_undo 26 = .ok (.getfield 11, 3) := by decide +kernel
theorem dX8_undo_29 : decode cX8_undo 29 = .ok (.imul, 1) := by decide +kernel
theorem dX8_undo_30 : decode cX8_undo 30 = .ok (.istore_n 1, 1) := by decide +kernel
theorem dX8_undo_31 : decode cX8_undo 31 = .ok (.iconst 0, 1) := by decide +kernel
theorem dX8_undo_32 : decode cX8_undo 32 = .ok (.istore_n 2, 1) := by decide +kernel
theorem dX8_undo_33 : decode cX8_undo 33 = .ok (.iload_n 2, 1) := by decide +kernel
theorem dX8_undo_34 : decode cX8_undo 34 = .ok (.iconst 3, 1) := by decide +kernel
theorem dX8_undo_35 : decode cX8_undo 35 = .ok (.if_icmp .ge 23, 3) := by decide +kernel
theorem dX8_undo_38 : decode cX8_undo 38 = .ok (.aload_n 0, 1) := by decide +kernel
theorem dX8_undo_39 : decode cX8_undo 39 = .ok (.getfield 28, 3) := by decide +kernel
theorem dX8_undo_42 : decode cX8_undo 42 = .ok (.iload_n 2, 1) := by decide +kernel
theorem dX8_undo_43 : decode cX8_undo 43 = .ok (.aload_n 0, 1) := by decide +kernel
theorem dX8_undo_44 : decode cX8_undo 44 = .ok (.getfield 69, 3) := by decide +kernel
theorem dX8_undo_47 : decode cX8_undo 47 = .ok (.iload_n 1, 1) := by decide +kernel
theorem dX8_undo_48 : decode cX8_undo 48 = .ok (.iload_n 2, 1) := by decide +kernel
theorem dX8_undo_49 : decode cX8_undo 49 = .ok (.iadd, 1) := by decide +kernel
theorem dX8_undo_50 : decode cX8_undo 50 = .ok (.iaload, 1) := by decide +kernel
theorem dX8_undo_51 : decode cX8_undo 51 = .ok (.iastore, 1) := by decide +kernel
theorem dX8_undo_52 : decode cX8_undo 52 = .ok (.iinc 2 1, 3) := by decide +kernel
theorem dX8_undo_55 : decode cX8_undo 55 = .ok (.goto (-22), 3) := by decide +kernel
theorem dX8_undo_58 : decode cX8_undo 58 = .ok (.aload_n 0, 1) := by decide +kernel
theorem dX8_undo_59 : decode cX8_undo 59 = .ok (.aload_n 0, 1) := by decide +kernel
theorem dX8_undo_60 : decode cX8_undo 60 = .ok (.getfield 69, 3) := by decide +kernel
theorem dX8_undo_63 : decode cX8_undo 63 = .ok (.iload_n 1, 1) := by decide +kernel
theorem dX8_undo_64 : decode cX8_undo 64 = .ok (.iconst 3, 1) := by decide +kernel
theorem dX8_undo_65 : decode cX8_undo 65 = .ok (.iadd, 1) := by decide +kernel
theorem dX8_undo_66 : decode cX8_undo 66 = .ok (.iaload, 1) := by decide +kernel
theorem dX8_undo_67 : decode cX8_undo 67 = .ok (.invokevirtual 14, 3) := by decide +kernel
theorem dX8_undo_70 : decode cX8_undo 70 = .ok (.ireturn, 1) := by decide +kernel
theorem dX8_goodOr_0 : decode cX8_goodOr 0 = .ok (.iload_n 1, 1) := by decide +kernel
theorem dX8_goodOr_1 : decode cX8_goodOr 1 = .ok (.ifCond .ge 11, 3) := by decide +kernel
theorem dX8_goodOr_4 : decode cX8_goodOr 4 = .ok (.aload_n 0, 1) := by decide +kernel
theorem dX8_goodOr_5 : decode cX8_goodOr 5 = .ok (.iload_n 1, 1) := by decide +kernel
theorem dX8_goodOr_6 : decode cX8_goodOr 6 = .ok (.invokevirtual 119, 3) := by decide +kernel
theorem dX8_goodOr_9 : decode cX8_goodOr 9 = .ok (.goto 8, 3) := by decide +kernel
theorem dX8_goodOr_12 : decode cX8_goodOr 12 = .ok (.aload_n 0, 1) := by decide +kernel
theorem dX8_goodOr_13 : decode cX8_goodOr 13 = .ok (.iload_n 1, 1) := by decide +kernel
theorem dX8_goodOr_14 : decode cX8_goodOr 14 = .ok (.invokevirtual 14, 3) := by decide +kernel
theorem dX8_goodOr_17 : decode cX8_goodOr 17 = .ok (.ireturn, 1) := by decide +kernel
theorem dX8_saysKept_0 : decode cX8_saysKept 0 = .ok (.aload_n 0, 1) := by decide +kernel
theorem dX8_saysKept_1 : decode cX8_saysKept 1 = .ok (.iload_n 1, 1) := by decide +kernel
theorem dX8_saysKept_2 : decode cX8_saysKept 2 = .ok (.invokevirtual 136, 3) := by decide +kernel
theorem dX8_saysKept_5 : decode cX8_saysKept 5 = .ok (.ifCond .ne 6, 3) := by decide +kernel
theorem dX8_saysKept_8 : decode cX8_saysKept 8 = .ok (.bipush (-2), 2) := by decide +kernel
theorem dX8_saysKept_10 : decode cX8_saysKept 10 = .ok (.ireturn, 1) := by decide +kernel
theorem dX8_saysKept_11 : decode cX8_saysKept 11 = .ok (.aload_n 0, 1) := by decide +kernel
theorem dX8_saysKept_12 : decode cX8_saysKept 12 = .ok (.invokevirtual 352, 3) := by decide +kernel
theorem dX8_saysKept_15 : decode cX8_saysKept 15 = .ok (.ifCond .ne 6, 3) := by decide +kernel
theorem dX8_saysKept_18 : decode cX8_saysKept 18 = .ok (.bipush (-3), 2) := by decide +kernel
theorem dX8_saysKept_20 : decode cX8_saysKept 20 = .ok (.ireturn, 1) := by decide +kernel
theorem dX8_saysKept_21 : decode cX8_saysKept 21 = .ok (.aload_n 0, 1) := by decide +kernel
theorem dX8_saysKept_22 : decode cX8_saysKept 22 = .ok (.iconst 0, 1) := by decide +kernel
theorem dX8_saysKept_23 : decode cX8_saysKept 23 = .ok (.invokevirtual 358, 3) := by decide +kernel
theorem dX8_saysKept_26 : decode cX8_saysKept 26 = .ok (.aload_n 0, 1) := by decide +kernel
theorem dX8_saysKept_27 : decode cX8_saysKept 27 = .ok (.iload_n 1, 1) := by decide +kernel
theorem dX8_saysKept_28 : decode cX8_saysKept 28 = .ok (.iconst 0, 1) := by decide +kernel
theorem dX8_saysKept_29 : decode cX8_saysKept 29 = .ok (.invokevirtual 361, 3) := by decide +kernel
theorem dX8_saysKept_32 : decode cX8_saysKept 32 = .ok (.ireturn, 1) := by decide +kernel
theorem dX8_joinsKept_0 : decode cX8_joinsKept 0 = .ok (.aload_n 0, 1) := by decide +kernel
theorem dX8_joinsKept_1 : decode cX8_joinsKept 1 = .ok (.iload_n 1, 1) := by decide +kernel
theorem dX8_joinsKept_2 : decode cX8_joinsKept 2 = .ok (.invokevirtual 132, 3) := by decide +kernel
theorem dX8_joinsKept_5 : decode cX8_joinsKept 5 = .ok (.ifCond .ne 6, 3) := by decide +kernel
theorem dX8_joinsKept_8 : decode cX8_joinsKept 8 = .ok (.bipush (-2), 2) := by decide +kernel
theorem dX8_joinsKept_10 : decode cX8_joinsKept 10 = .ok (.ireturn, 1) := by decide +kernel
theorem dX8_joinsKept_11 : decode cX8_joinsKept 11 = .ok (.aload_n 0, 1) := by decide +kernel
theorem dX8_joinsKept_12 : decode cX8_joinsKept 12 = .ok (.getfield 28, 3) := by decide +kernel
theorem dX8_joinsKept_15 : decode cX8_joinsKept 15 = .ok (.iconst 0, 1) := by decide +kernel
theorem dX8_joinsKept_16 : decode cX8_joinsKept 16 = .ok (.iaload, 1) := by decide +kernel
theorem dX8_joinsKept_17 : decode cX8_joinsKept 17 = .ok (.iload_n 1, 1) := by decide +kernel
theorem dX8_joinsKept_18 : decode cX8_joinsKept 18 = .ok (.invokestatic 18, 3) := by decide +kernel
theorem dX8_joinsKept_21 : decode cX8_joinsKept 21 = .ok (.ifCond .eq 6, 3) := by decide +kernel
theorem dX8_joinsKept_24 : decode cX8_joinsKept 24 = .ok (.bipush (-3), 2) := by decide +kernel
theorem dX8_joinsKept_26 : decode cX8_joinsKept 26 = .ok (.ireturn, 1) := by decide +kernel
theorem dX8_joinsKept_27 : decode cX8_joinsKept 27 = .ok (.aload_n 0, 1) := by decide +kernel
theorem dX8_joinsKept_28 : decode cX8_joinsKept 28 = .ok (.iconst 1, 1) := by decide +kernel
theorem dX8_joinsKept_29 : decode cX8_joinsKept 29 = .ok (.invokevirtual 358, 3) := by decide +kernel
theorem dX8_joinsKept_32 : decode cX8_joinsKept 32 = .ok (.aload_n 0, 1) := by decide +kernel
theorem dX8_joinsKept_33 : decode cX8_joinsKept 33 = .ok (.getfield 28, 3) := by decide +kernel
theorem dX8_joinsKept_36 : decode cX8_joinsKept 36 = .ok (.iconst 0, 1) := by decide +kernel
theorem dX8_joinsKept_37 : decode cX8_joinsKept 37 = .ok (.dup2, 1) := by decide +kernel
theorem dX8_joinsKept_38 : decode cX8_joinsKept 38 = .ok (.iaload, 1) := by decide +kernel
theorem dX8_joinsKept_39 : decode cX8_joinsKept 39 = .ok (.iconst 1, 1) := by decide +kernel
theorem dX8_joinsKept_40 : decode cX8_joinsKept 40 = .ok (.iload_n 1, 1) := by decide +kernel
theorem dX8_joinsKept_41 : decode cX8_joinsKept 41 = .ok (.ishl, 1) := by decide +kernel
theorem dX8_joinsKept_42 : decode cX8_joinsKept 42 = .ok (.ior, 1) := by decide +kernel
theorem dX8_joinsKept_43 : decode cX8_joinsKept 43 = .ok (.iastore, 1) := by decide +kernel
theorem dX8_joinsKept_44 : decode cX8_joinsKept 44 = .ok (.aload_n 0, 1) := by decide +kernel
theorem dX8_joinsKept_45 : decode cX8_joinsKept 45 = .ok (.invokevirtual 293, 3) := by decide +kernel
theorem dX8_joinsKept_48 : decode cX8_joinsKept 48 = .ok (.ireturn, 1) := by decide +kernel
theorem dX8_leavesKept_0 : decode cX8_leavesKept 0 = .ok (.aload_n 0, 1) := by decide +kernel
theorem dX8_leavesKept_1 : decode cX8_leavesKept 1 = .ok (.iload_n 1, 1) := by decide +kernel
theorem dX8_leavesKept_2 : decode cX8_leavesKept 2 = .ok (.invokevirtual 132, 3) := by decide +kernel
theorem dX8_leavesKept_5 : decode cX8_leavesKept 5 = .ok (.ifCond .ne 6, 3) := by decide +kernel
theorem dX8_leavesKept_8 : decode cX8_leavesKept 8 = .ok (.bipush (-2), 2) := by decide +kernel
theorem dX8_leavesKept_10 : decode cX8_leavesKept 10 = .ok (.ireturn, 1) := by decide +kernel
theorem dX8_leavesKept_11 : decode cX8_leavesKept 11 = .ok (.aload_n 0, 1) := by decide +kernel
theorem dX8_leavesKept_12 : decode cX8_leavesKept 12 = .ok (.getfield 28, 3) := by decide +kernel
theorem dX8_leavesKept_15 : decode cX8_leavesKept 15 = .ok (.iconst 0, 1) := by decide +kernel
theorem dX8_leavesKept_16 : decode cX8_leavesKept 16 = .ok (.iaload, 1) := by decide +kernel
theorem dX8_leavesKept_17 : decode cX8_leavesKept 17 = .ok (.iload_n 1, 1) := by decide +kernel
theorem dX8_leavesKept_18 : decode cX8_leavesKept 18 = .ok (.invokestatic 18, 3) := by decide +kernel
theorem dX8_leavesKept_21 : decode cX8_leavesKept 21 = .ok (.ifCond .ne 6, 3) := by decide +kernel
theorem dX8_leavesKept_24 : decode cX8_leavesKept 24 = .ok (.bipush (-3), 2) := by decide +kernel
theorem dX8_leavesKept_26 : decode cX8_leavesKept 26 = .ok (.ireturn, 1) := by decide +kernel
theorem dX8_leavesKept_27 : decode cX8_leavesKept 27 = .ok (.aload_n 0, 1) := by decide +kernel
theorem dX8_leavesKept_28 : decode cX8_leavesKept 28 = .ok (.iconst 2, 1) := by decide +kernel
theorem dX8_leavesKept_29 : decode cX8_leavesKept 29 = .ok (.invokevirtual 358, 3) := by decide +kernel
theorem dX8_leavesKept_32 : decode cX8_leavesKept 32 = .ok (.aload_n 0, 1) := by decide +kernel
theorem dX8_leavesKept_33 : decode cX8_leavesKept 33 = .ok (.getfield 28, 3) := by decide +kernel
theorem dX8_leavesKept_36 : decode cX8_leavesKept 36 = .ok (.iconst 0, 1) := by decide +kernel
theorem dX8_leavesKept_37 : decode cX8_leavesKept 37 = .ok (.dup2, 1) := by decide +kernel
theorem dX8_leavesKept_38 : decode cX8_leavesKept 38 = .ok (.iaload, 1) := by decide +kernel
theorem dX8_leavesKept_39 : decode cX8_leavesKept 39 = .ok (.iconst 1, 1) := by decide +kernel
theorem dX8_leavesKept_40 : decode cX8_leavesKept 40 = .ok (.iload_n 1, 1) := by decide +kernel
theorem dX8_leavesKept_41 : decode cX8_leavesKept 41 = .ok (.ishl, 1) := by decide +kernel
theorem dX8_leavesKept_42 : decode cX8_leavesKept 42 = .ok (.iconst (-1), 1) := by decide +kernel
theorem dX8_leavesKept_43 : decode cX8_leavesKept 43 = .ok (.ixor, 1) := by decide +kernel
theorem dX8_leavesKept_44 : decode cX8_leavesKept 44 = .ok (.iand, 1) := by decide +kernel
theorem dX8_leavesKept_45 : decode cX8_leavesKept 45 = .ok (.iastore, 1) := by decide +kernel
theorem dX8_leavesKept_46 : decode cX8_leavesKept 46 = .ok (.aload_n 0, 1) := by decide +kernel
theorem dX8_leavesKept_47 : decode cX8_leavesKept 47 = .ok (.invokevirtual 293, 3) := by decide +kernel
theorem dX8_leavesKept_50 : decode cX8_leavesKept 50 = .ok (.ireturn, 1) := by decide +kernel
theorem dX8_passesKept_0 : decode cX8_passesKept 0 = .ok (.aload_n 0, 1) := by decide +kernel
theorem dX8_passesKept_1 : decode cX8_passesKept 1 = .ok (.getfield 28, 3) := by decide +kernel
theorem dX8_passesKept_4 : decode cX8_passesKept 4 = .ok (.iconst 2, 1) := by decide +kernel
theorem dX8_passesKept_5 : decode cX8_passesKept 5 = .ok (.iaload, 1) := by decide +kernel
theorem dX8_passesKept_6 : decode cX8_passesKept 6 = .ok (.sipush 999, 3) := by decide +kernel
theorem dX8_passesKept_9 : decode cX8_passesKept 9 = .ok (.if_icmp .ne 6, 3) := by decide +kernel
theorem dX8_passesKept_12 : decode cX8_passesKept 12 = .ok (.bipush (-3), 2) := by decide +kernel
theorem dX8_passesKept_14 : decode cX8_passesKept 14 = .ok (.ireturn, 1) := by decide +kernel
theorem dX8_passesKept_15 : decode cX8_passesKept 15 = .ok (.aload_n 0, 1) := by decide +kernel
theorem dX8_passesKept_16 : decode cX8_passesKept 16 = .ok (.iconst 3, 1) := by decide +kernel
theorem dX8_passesKept_17 : decode cX8_passesKept 17 = .ok (.invokevirtual 358, 3) := by decide +kernel
theorem dX8_passesKept_20 : decode cX8_passesKept 20 = .ok (.aload_n 0, 1) := by decide +kernel
theorem dX8_passesKept_21 : decode cX8_passesKept 21 = .ok (.invokevirtual 364, 3) := by decide +kernel
theorem dX8_passesKept_24 : decode cX8_passesKept 24 = .ok (.aload_n 0, 1) := by decide +kernel
theorem dX8_passesKept_25 : decode cX8_passesKept 25 = .ok (.getfield 28, 3) := by decide +kernel
theorem dX8_passesKept_28 : decode cX8_passesKept 28 = .ok (.iconst 2, 1) := by decide +kernel
theorem dX8_passesKept_29 : decode cX8_passesKept 29 = .ok (.iaload, 1) := by decide +kernel
theorem dX8_passesKept_30 : decode cX8_passesKept 30 = .ok (.ireturn, 1) := by decide +kernel
theorem dX8_say_0 : decode cX8_say 0 = .ok (.aload_n 0, 1) := by decide +kernel
theorem dX8_say_1 : decode cX8_say 1 = .ok (.aload_n 0, 1) := by decide +kernel
theorem dX8_say_2 : decode cX8_say 2 = .ok (.iload_n 1, 1) := by decide +kernel
theorem dX8_say_3 : decode cX8_say 3 = .ok (.invokevirtual 367, 3) := by decide +kernel
theorem dX8_say_6 : decode cX8_say 6 = .ok (.invokevirtual 370, 3) := by decide +kernel
theorem dX8_say_9 : decode cX8_say 9 = .ok (.ireturn, 1) := by decide +kernel
theorem dX8_join_0 : decode cX8_join 0 = .ok (.aload_n 0, 1) := by decide +kernel
theorem dX8_join_1 : decode cX8_join 1 = .ok (.aload_n 0, 1) := by decide +kernel
theorem dX8_join_2 : decode cX8_join 2 = .ok (.iload_n 1, 1) := by decide +kernel
theorem dX8_join_3 : decode cX8_join 3 = .ok (.invokevirtual 373, 3) := by decide +kernel
theorem dX8_join_6 : decode cX8_join 6 = .ok (.invokevirtual 370, 3) := by decide +kernel
theorem dX8_join_9 : decode cX8_join 9 = .ok (.ireturn, 1) := by decide +kernel
theorem dX8_leave_0 : decode cX8_leave 0 = .ok (.aload_n 0, 1) := by decide +kernel
theorem dX8_leave_1 : decode cX8_leave 1 = .ok (.aload_n 0, 1) := by decide +kernel
theorem dX8_leave_2 : decode cX8_leave 2 = .ok (.iload_n 1, 1) := by decide +kernel
theorem dX8_leave_3 : decode cX8_leave 3 = .ok (.invokevirtual 376, 3) := by decide +kernel
theorem dX8_leave_6 : decode cX8_leave 6 = .ok (.invokevirtual 370, 3) := by decide +kernel
theorem dX8_leave_9 : decode cX8_leave 9 = .ok (.ireturn, 1) := by decide +kernel
theorem dX8_pass_0 : decode cX8_pass 0 = .ok (.aload_n 0, 1) := by decide +kernel
theorem dX8_pass_1 : decode cX8_pass 1 = .ok (.aload_n 0, 1) := by decide +kernel
theorem dX8_pass_2 : decode cX8_pass 2 = .ok (.invokevirtual 379, 3) := by decide +kernel
theorem dX8_pass_5 : decode cX8_pass 5 = .ok (.invokevirtual 370, 3) := by decide +kernel
theorem dX8_pass_8 : decode cX8_pass 8 = .ok (.ireturn, 1) := by decide +kernel
theorem dX8_aloneNow_0 : decode cX8_aloneNow 0 = .ok (.aload_n 0, 1) := by decide +kernel
theorem dX8_aloneNow_1 : decode cX8_aloneNow 1 = .ok (.invokevirtual 293, 3) := by decide +kernel
theorem dX8_aloneNow_4 : decode cX8_aloneNow 4 = .ok (.iconst 1, 1) := by decide +kernel
theorem dX8_aloneNow_5 : decode cX8_aloneNow 5 = .ok (.if_icmp .ne 15, 3) := by decide +kernel
theorem dX8_aloneNow_8 : decode cX8_aloneNow 8 = .ok (.aload_n 0, 1) := by decide +kernel
theorem dX8_aloneNow_9 : decode cX8_aloneNow 9 = .ok (.getfield 28, 3) := by decide +kernel
theorem dX8_aloneNow_12 : decode cX8_aloneNow 12 = .ok (.iconst 0, 1) := by decide +kernel
theorem dX8_aloneNow_13 : decode cX8_aloneNow 13 = .ok (.iaload, 1) := by decide +kernel
theorem dX8_aloneNow_14 : decode cX8_aloneNow 14 = .ok (.invokestatic 382, 3) := by decide +kernel
theorem dX8_aloneNow_17 : decode cX8_aloneNow 17 = .ok (.goto 4, 3) := by decide +kernel
theorem dX8_aloneNow_20 : decode cX8_aloneNow 20 = .ok (.iconst (-1), 1) := by decide +kernel
theorem dX8_aloneNow_21 : decode cX8_aloneNow 21 = .ok (.ireturn, 1) := by decide +kernel
theorem dX8_leftBy_0 : decode cX8_leftBy 0 = .ok (.aload_n 0, 1) := by decide +kernel
theorem dX8_leftBy_1 : decode cX8_leftBy 1 = .ok (.iconst 0, 1) := by decide +kernel
theorem dX8_leftBy_2 : decode cX8_leftBy 2 = .ok (.invokevirtual 385, 3) := by decide +kernel
theorem dX8_leftBy_5 : decode cX8_leftBy 5 = .ok (.aload_n 0, 1) := by decide +kernel
theorem dX8_leftBy_6 : decode cX8_leftBy 6 = .ok (.iconst 0, 1) := by decide +kernel
theorem dX8_leftBy_7 : decode cX8_leftBy 7 = .ok (.putfield 388, 3) := by decide +kernel
theorem dX8_leftBy_10 : decode cX8_leftBy 10 = .ok (.iconst 0, 1) := by decide +kernel
theorem dX8_leftBy_11 : decode cX8_leftBy 11 = .ok (.istore_n 2, 1) := by decide +kernel
theorem dX8_leftBy_12 : decode cX8_leftBy 12 = .ok (.iload_n 2, 1) := by decide +kernel
theorem dX8_leftBy_13 : decode cX8_leftBy 13 = .ok (.bipush 60, 2) := by decide +kernel
theorem dX8_leftBy_15 : decode cX8_leftBy 15 = .ok (.if_icmp .ge 52, 3) := by decide +kernel
theorem dX8_leftBy_18 : decode cX8_leftBy 18 = .ok (.aload_n 0, 1) := by decide +kernel
theorem dX8_leftBy_19 : decode cX8_leftBy 19 = .ok (.invokevirtual 352, 3) := by decide +kernel
theorem dX8_leftBy_22 : decode cX8_leftBy 22 = .ok (.ifCond .eq 45, 3) := by decide +kernel
theorem dX8_leftBy_25 : decode cX8_leftBy 25 = .ok (.aload_n 0, 1) := by decide +kernel
theorem dX8_leftBy_26 : decode cX8_leftBy 26 = .ok (.iload_n 1, 1) := by decide +kernel
theorem dX8_leftBy_27 : decode cX8_leftBy 27 = .ok (.iconst 0, 1) := by decide +kernel
theorem dX8_leftBy_28 : decode cX8_leftBy 28 = .ok (.invokevirtual 361, 3) := by decide +kernel
theorem dX8_leftBy_31 : decode cX8_leftBy 31 = .ok (.istore_n 3, 1) := by decide +kernel
theorem dX8_leftBy_32 : decode cX8_leftBy 32 = .ok (.iload_n 3, 1) := by decide +kernel
theorem dX8_leftBy_33 : decode cX8_leftBy 33 = .ok (.bipush 100, 2) := by decide +kernel
theorem dX8_leftBy_35 : decode cX8_leftBy 35 = .ok (.if_icmp .lt 6, 3) := by decide +kernel
theorem dX8_leftBy_38 : decode cX8_leftBy 38 = .ok (.goto 23, 3) := by decide +kernel
theorem dX8_leftBy_41 : decode cX8_leftBy 41 = .ok (.aload_n 0, 1) := by decide +kernel
theorem dX8_leftBy_42 : decode cX8_leftBy 42 = .ok (.getfield 75, 3) := by decide +kernel
theorem dX8_leftBy_45 : decode cX8_leftBy 45 = .ok (.aload_n 0, 1) := by decide +kernel
theorem dX8_leftBy_46 : decode cX8_leftBy 46 = .ok (.getfield 388, 3) := by decide +kernel
theorem dX8_leftBy_49 : decode cX8_leftBy 49 = .ok (.iload_n 3, 1) := by decide +kernel
theorem dX8_leftBy_50 : decode cX8_leftBy 50 = .ok (.iastore, 1) := by decide +kernel
theorem dX8_leftBy_51 : decode cX8_leftBy 51 = .ok (.aload_n 0, 1) := by decide +kernel
theorem dX8_leftBy_52 : decode cX8_leftBy 52 = .ok (.dup, 1) := by decide +kernel
theorem dX8_leftBy_53 : decode cX8_leftBy 53 = .ok (.getfield 388, 3) := by decide +kernel
theorem dX8_leftBy_56 : decode cX8_leftBy 56 = .ok (.iconst 1, 1) := by decide +kernel
theorem dX8_leftBy_57 : decode cX8_leftBy 57 = .ok (.iadd, 1) := by decide +kernel
theorem dX8_leftBy_58 : decode cX8_leftBy 58 = .ok (.putfield 388, 3) := by decide +kernel
theorem dX8_leftBy_61 : decode cX8_leftBy 61 = .ok (.iinc 2 1, 3) := by decide +kernel
theorem dX8_leftBy_64 : decode cX8_leftBy 64 = .ok (.goto (-52), 3) := by decide +kernel
theorem dX8_leftBy_67 : decode cX8_leftBy 67 = .ok (.aload_n 0, 1) := by decide +kernel
theorem dX8_leftBy_68 : decode cX8_leftBy 68 = .ok (.invokevirtual 391, 3) := by decide +kernel
theorem dX8_leftBy_71 : decode cX8_leftBy 71 = .ok (.istore_n 2, 1) := by decide +kernel
theorem dX8_leftBy_72 : decode cX8_leftBy 72 = .ok (.aload_n 0, 1) := by decide +kernel
theorem dX8_leftBy_73 : decode cX8_leftBy 73 = .ok (.iconst 0, 1) := by decide +kernel
theorem dX8_leftBy_74 : decode cX8_leftBy 74 = .ok (.invokevirtual 394, 3) := by decide +kernel
theorem dX8_leftBy_77 : decode cX8_leftBy 77 = .ok (.iload_n 2, 1) := by decide +kernel
theorem dX8_leftBy_78 : decode cX8_leftBy 78 = .ok (.ireturn, 1) := by decide +kernel
theorem dX8_left_0 : decode cX8_left 0 = .ok (.aload_n 0, 1) := by decide +kernel
theorem dX8_left_1 : decode cX8_left 1 = .ok (.iload_n 1, 1) := by decide +kernel
theorem dX8_left_2 : decode cX8_left 2 = .ok (.invokevirtual 136, 3) := by decide +kernel
theorem dX8_left_5 : decode cX8_left 5 = .ok (.ifCond .eq 8, 3) := by decide +kernel
theorem dX8_left_8 : decode cX8_left 8 = .ok (.iload_n 2, 1) := by decide +kernel
theorem dX8_left_9 : decode cX8_left 9 = .ok (.iconst (-1), 1) := by decide +kernel
theorem dX8_left_10 : decode cX8_left 10 = .ok (.if_icmp .ge 5, 3) := by decide +kernel
theorem dX8_left_13 : decode cX8_left 13 = .ok (.iconst (-1), 1) := by decide +kernel
theorem dX8_left_14 : decode cX8_left 14 = .ok (.ireturn, 1) := by decide +kernel
theorem dX8_left_15 : decode cX8_left 15 = .ok (.aload_n 0, 1) := by decide +kernel
theorem dX8_left_16 : decode cX8_left 16 = .ok (.iload_n 1, 1) := by decide +kernel
theorem dX8_left_17 : decode cX8_left 17 = .ok (.invokevirtual 397, 3) := by decide +kernel
theorem dX8_left_20 : decode cX8_left 20 = .ok (.istore_n 3, 1) := by decide +kernel
theorem dX8_left_21 : decode cX8_left 21 = .ok (.iload_n 2, 1) := by decide +kernel
theorem dX8_left_22 : decode cX8_left 22 = .ok (.iconst (-1), 1) := by decide +kernel
theorem dX8_left_23 : decode cX8_left 23 = .ok (.if_icmp .eq 8, 3) := by decide +kernel
theorem dX8_left_26 : decode cX8_left 26 = .ok (.iload_n 3, 1) := by decide +kernel
theorem dX8_left_27 : decode cX8_left 27 = .ok (.iconst (-1), 1) := by decide +kernel
theorem dX8_left_28 : decode cX8_left 28 = .ok (.if_icmp .ne 5, 3) := by decide +kernel
theorem dX8_left_31 : decode cX8_left 31 = .ok (.iload_n 3, 1) := by decide +kernel
theorem dX8_left_32 : decode cX8_left 32 = .ok (.ireturn, 1) := by decide +kernel
theorem dX8_left_33 : decode cX8_left 33 = .ok (.iload_n 2, 1) := by decide +kernel
theorem dX8_left_34 : decode cX8_left 34 = .ok (.aload_n 0, 1) := by decide +kernel
theorem dX8_left_35 : decode cX8_left 35 = .ok (.getfield 388, 3) := by decide +kernel
theorem dX8_left_38 : decode cX8_left 38 = .ok (.if_icmp .ge 12, 3) := by decide +kernel
theorem dX8_left_41 : decode cX8_left 41 = .ok (.aload_n 0, 1) := by decide +kernel
theorem dX8_left_42 : decode cX8_left 42 = .ok (.getfield 75, 3) := by decide +kernel
theorem dX8_left_45 : decode cX8_left 45 = .ok (.iload_n 2, 1) := by decide +kernel
theorem dX8_left_46 : decode cX8_left 46 = .ok (.iaload, 1) := by decide +kernel
theorem dX8_left_47 : decode cX8_left 47 = .ok (.goto 4, 3) := by decide +kernel
theorem dX8_left_50 : decode cX8_left 50 = .ok (.iconst (-1), 1) := by decide +kernel
theorem dX8_left_51 : decode cX8_left 51 = .ok (.ireturn, 1) := by decide +kernel
theorem dX8_safe_0 : decode cX8_safe 0 = .ok (.aload_n 0, 1) := by decide +kernel
theorem dX8_safe_1 : decode cX8_safe 1 = .ok (.iload_n 1, 1) := by decide +kernel
theorem dX8_safe_2 : decode cX8_safe 2 = .ok (.invokevirtual 132, 3) := by decide +kernel
theorem dX8_safe_5 : decode cX8_safe 5 = .ok (.ifCond .eq 11, 3) := by decide +kernel
theorem dX8_safe_8 : decode cX8_safe 8 = .ok (.aload_n 0, 1) := by decide +kernel
theorem dX8_safe_9 : decode cX8_safe 9 = .ok (.iload_n 2, 1) := by decide +kernel
theorem dX8_safe_10 : decode cX8_safe 10 = .ok (.invokevirtual 136, 3) := by decide +kernel
theorem dX8_safe_13 : decode cX8_safe 13 = .ok (.ifCond .ne 5, 3) := by decide +kernel
theorem dX8_safe_16 : decode cX8_safe 16 = .ok (.iconst (-1), 1) := by decide +kernel
theorem dX8_safe_17 : decode cX8_safe 17 = .ok (.ireturn, 1) := by decide +kernel
theorem dX8_safe_18 : decode cX8_safe 18 = .ok (.aload_n 0, 1) := by decide +kernel
theorem dX8_safe_19 : decode cX8_safe 19 = .ok (.getfield 28, 3) := by decide +kernel
theorem dX8_safe_22 : decode cX8_safe 22 = .ok (.iconst 1, 1) := by decide +kernel
theorem dX8_safe_23 : decode cX8_safe 23 = .ok (.iaload, 1) := by decide +kernel
theorem dX8_safe_24 : decode cX8_safe 24 = .ok (.istore_n 3, 1) := by decide +kernel
theorem dX8_safe_25 : decode cX8_safe 25 = .ok (.iconst 0, 1) := by decide +kernel
theorem dX8_safe_26 : decode cX8_safe 26 = .ok (.istore 4, 2) := by decide +kernel
theorem dX8_safe_28 : decode cX8_safe 28 = .ok (.iconst 0, 1) := by decide +kernel
theorem dX8_safe_29 : decode cX8_safe 29 = .ok (.istore 5, 2) := by decide +kernel
theorem dX8_safe_31 : decode cX8_safe 31 = .ok (.iload 5, 2) := by decide +kernel
theorem dX8_safe_33 : decode cX8_safe 33 = .ok (.aload_n 0, 1) := by decide +kernel
theorem dX8_safe_34 : decode cX8_safe 34 = .ok (.getfield 28, 3) := by decide +kernel
theorem dX8_safe_37 : decode cX8_safe 37 = .ok (.bipush 16, 2) := by decide +kernel
theorem dX8_safe_39 : decode cX8_safe 39 = .ok (.iaload, 1) := by decide +kernel
theorem dX8_safe_40 : decode cX8_safe 40 = .ok (.if_icmp .ge 39, 3) := by decide +kernel
theorem dX8_safe_43 : decode cX8_safe 43 = .ok (.aload_n 0, 1) := by decide +kernel
theorem dX8_safe_44 : decode cX8_safe 44 = .ok (.getfield 28, 3) := by decide +kernel
theorem dX8_safe_47 : decode cX8_safe 47 = .ok (.iconst 1, 1) := by decide +kernel
theorem dX8_safe_48 : decode cX8_safe 48 = .ok (.iload 5, 2) := by decide +kernel
theorem dX8_safe_50 : decode cX8_safe 50 = .ok (.iastore, 1) := by decide +kernel
theorem dX8_safe_51 : decode cX8_safe 51 = .ok (.iload 4, 2) := by decide +kernel
theorem dX8_safe_53 : decode cX8_safe 53 = .ok (.aload_n 0, 1) := by decide +kernel
theorem dX8_safe_54 : decode cX8_safe 54 = .ok (.iload_n 2, 1) := by decide +kernel
theorem dX8_safe_55 : decode cX8_safe 55 = .ok (.invokevirtual 397, 3) := by decide +kernel
theorem dX8_safe_58 : decode cX8_safe 58 = .ok (.iload_n 1, 1) := by decide +kernel
theorem dX8_safe_59 : decode cX8_safe 59 = .ok (.if_icmp .ne 10, 3) := by decide +kernel
theorem dX8_safe_62 : decode cX8_safe 62 = .ok (.iconst 1, 1) := by decide +kernel
theorem dX8_safe_63 : decode cX8_safe 63 = .ok (.iload 5, 2) := by decide +kernel
theorem dX8_safe_65 : decode cX8_safe 65 = .ok (.ishl, 1) := by decide +kernel
theorem dX8_safe_66 : decode cX8_safe 66 = .ok (.goto 4, 3) := by decide +kernel
theorem dX8_safe_69 : decode cX8_safe 69 = .ok (.iconst 0, 1) := by decide +kernel
theorem dX8_safe_70 : decode cX8_safe 70 = .ok (.ior, 1) := by decide +kernel
theorem dX8_safe_71 : decode cX8_safe 71 = .ok (.istore 4, 2) := by decide +kernel
theorem dX8_safe_73 : decode cX8_safe 73 = .ok (.iinc 5 1, 3) := by decide +kernel
theorem dX8_safe_76 : decode cX8_safe 76 = .ok (.goto (-45), 3) := by decide +kernel
theorem dX8_safe_79 : decode cX8_safe 79 = .ok (.aload_n 0, 1) := by decide +kernel
theorem dX8_safe_80 : decode cX8_safe 80 = .ok (.getfield 28, 3) := by decide +kernel
theorem dX8_safe_83 : decode cX8_safe 83 = .ok (.iconst 1, 1) := by decide +kernel
theorem dX8_safe_84 : decode cX8_safe 84 = .ok (.iload_n 3, 1) := by decide +kernel
theorem dX8_safe_85 : decode cX8_safe 85 = .ok (.iastore, 1) := by decide +kernel
theorem dX8_safe_86 : decode cX8_safe 86 = .ok (.iload 4, 2) := by decide +kernel
theorem dX8_safe_88 : decode cX8_safe 88 = .ok (.ireturn, 1) := by decide +kernel
theorem dX8_compare_0 : decode cX8_compare 0 = .ok (.aload_n 0, 1) := by decide +kernel
theorem dX8_compare_1 : decode cX8_compare 1 = .ok (.iload_n 1, 1) := by decide +kernel
theorem dX8_compare_2 : decode cX8_compare 2 = .ok (.invokevirtual 248, 3) := by decide +kernel
theorem dX8_compare_5 : decode cX8_compare 5 = .ok (.ifCond .eq 11, 3) := by decide +kernel
theorem dX8_compare_8 : decode cX8_compare 8 = .ok (.aload_n 0, 1) := by decide +kernel
theorem dX8_compare_9 : decode cX8_compare 9 = .ok (.iload_n 2, 1) := by decide +kernel
theorem dX8_compare_10 : decode cX8_compare 10 = .ok (.invokevirtual 136, 3) := by decide +kernel
theorem dX8_compare_13 : decode cX8_compare 13 = .ok (.ifCond .ne 5, 3) := by decide +kernel
theorem dX8_compare_16 : decode cX8_compare 16 = .ok (.iconst (-1), 1) := by decide +kernel
theorem dX8_compare_17 : decode cX8_compare 17 = .ok (.ireturn, 1) := by decide +kernel
theorem dX8_compare_18 : decode cX8_compare 18 = .ok (.aload_n 0, 1) := by decide +kernel
theorem dX8_compare_19 : decode cX8_compare 19 = .ok (.getfield 28, 3) := by decide +kernel
theorem dX8_compare_22 : decode cX8_compare 22 = .ok (.bipush 19, 2) := by decide +kernel
theorem dX8_compare_24 : decode cX8_compare 24 = .ok (.iaload, 1) := by decide +kernel
theorem dX8_compare_25 : decode cX8_compare 25 = .ok (.istore_n 3, 1) := by decide +kernel
theorem dX8_compare_26 : decode cX8_compare 26 = .ok (.aload_n 0, 1) := by decide +kernel
theorem dX8_compare_27 : decode cX8_compare 27 = .ok (.getfield 28, 3) := by decide +kernel
theorem dX8_compare_30 : decode cX8_compare 30 = .ok (.bipush 19, 2) := by decide +kernel
theorem dX8_compare_32 : decode cX8_compare 32 = .ok (.iload_n 1, 1) := by decide +kernel
theorem dX8_compare_33 : decode cX8_compare 33 = .ok (.iastore, 1) := by decide +kernel
theorem dX8_compare_34 : decode cX8_compare 34 = .ok (.aload_n 0, 1) := by decide +kernel
theorem dX8_compare_35 : decode cX8_compare 35 = .ok (.iload_n 2, 1) := by decide +kernel
theorem dX8_compare_36 : decode cX8_compare 36 = .ok (.invokevirtual 397, 3) := by decide +kernel
theorem dX8_compare_39 : decode cX8_compare 39 = .ok (.istore 4, 2) := by decide +kernel
theorem dX8_compare_41 : decode cX8_compare 41 = .ok (.aload_n 0, 1) := by decide +kernel
theorem dX8_compare_42 : decode cX8_compare 42 = .ok (.getfield 28, 3) := by decide +kernel
theorem dX8_compare_45 : decode cX8_compare 45 = .ok (.bipush 19, 2) := by decide +kernel
theorem dX8_compare_47 : decode cX8_compare 47 = .ok (.iload_n 3, 1) := by decide +kernel
theorem dX8_compare_48 : decode cX8_compare 48 = .ok (.iastore, 1) := by decide +kernel
theorem dX8_compare_49 : decode cX8_compare 49 = .ok (.iload 4, 2) := by decide +kernel
theorem dX8_compare_51 : decode cX8_compare 51 = .ok (.ireturn, 1) := by decide +kernel
theorem dX8_stateNow_0 : decode cX8_stateNow 0 = .ok (.bipush 6, 2) := by decide +kernel
theorem dX8_stateNow_2 : decode cX8_stateNow 2 = .ok (.aload_n 0, 1) := by decide +kernel
theorem dX8_stateNow_3 : decode cX8_stateNow 3 = .ok (.getfield 28, 3) := by decide +kernel
theorem dX8_stateNow_6 : decode cX8_stateNow 6 = .ok (.iconst 0, 1) := by decide +kernel
theorem dX8_stateNow_7 : decode cX8_stateNow 7 = .ok (.iaload, 1) := by decide +kernel
theorem dX8_stateNow_8 : decode cX8_stateNow 8 = .ok (.imul, 1) := by decide +kernel
theorem dX8_stateNow_9 : decode cX8_stateNow 9 = .ok (.aload_n 0, 1) := by decide +kernel
theorem dX8_stateNow_10 : decode cX8_stateNow 10 = .ok (.getfield 28, 3) := by decide +kernel
theorem dX8_stateNow_13 : decode cX8_stateNow 13 = .ok (.iconst 1, 1) := by decide +kernel
theorem dX8_stateNow_14 : decode cX8_stateNow 14 = .ok (.iaload, 1) := by decide +kernel
theorem dX8_stateNow_15 : decode cX8_stateNow 15 = .ok (.iadd, 1) := by decide +kernel
theorem dX8_stateNow_16 : decode cX8_stateNow 16 = .ok (.ireturn, 1) := by decide +kernel
theorem dX8_insideOf_0 : decode cX8_insideOf 0 = .ok (.iload_n 0, 1) := by decide +kernel
theorem dX8_insideOf_1 : decode cX8_insideOf 1 = .ok (.bipush 6, 2) := by decide +kernel
theorem dX8_insideOf_3 : decode cX8_insideOf 3 = .ok (.idiv, 1) := by decide +kernel
theorem dX8_insideOf_4 : decode cX8_insideOf 4 = .ok (.ireturn, 1) := by decide +kernel
theorem dX8_setsState_0 : decode cX8_setsState 0 = .ok (.aload_n 0, 1) := by decide +kernel
theorem dX8_setsState_1 : decode cX8_setsState 1 = .ok (.getfield 28, 3) := by decide +kernel
theorem dX8_setsState_4 : decode cX8_setsState 4 = .ok (.iconst 0, 1) := by decide +kernel
theorem dX8_setsState_5 : decode cX8_setsState 5 = .ok (.iload_n 1, 1) := by decide +kernel
theorem dX8_setsState_6 : decode cX8_setsState 6 = .ok (.invokestatic 400, 3) := by decide +kernel
theorem dX8_setsState_9 : decode cX8_setsState 9 = .ok (.iastore, 1) := by decide +kernel
theorem dX8_setsState_10 : decode cX8_setsState 10 = .ok (.aload_n 0, 1) := by decide +kernel
theorem dX8_setsState_11 : decode cX8_setsState 11 = .ok (.getfield 28, 3) := by decide +kernel
theorem dX8_setsState_14 : decode cX8_setsState 14 = .ok (.iconst 1, 1) := by decide +kernel
theorem dX8_setsState_15 : decode cX8_setsState 15 = .ok (.iload_n 1, 1) := by decide +kernel
theorem dX8_setsState_16 : decode cX8_setsState 16 = .ok (.bipush 6, 2) := by decide +kernel
theorem dX8_setsState_18 : decode cX8_setsState 18 = .ok (.irem, 1) := by decide +kernel
theorem dX8_setsState_19 : decode cX8_setsState 19 = .ok (.iastore, 1) := by decide +kernel
theorem dX8_setsState_20 : decode cX8_setsState 20 = .ok (.return_, 1) := by decide +kernel
theorem dX8_isState_0 : decode cX8_isState 0 = .ok (.iload_n 1, 1) := by decide +kernel
theorem dX8_isState_1 : decode cX8_isState 1 = .ok (.invokestatic 400, 3) := by decide +kernel
theorem dX8_isState_4 : decode cX8_isState 4 = .ok (.aload_n 0, 1) := by decide +kernel
theorem dX8_isState_5 : decode cX8_isState 5 = .ok (.invokevirtual 349, 3) := by decide +kernel
theorem dX8_isState_8 : decode cX8_isState 8 = .ok (.if_icmp .gt 7, 3) := by decide +kernel
theorem dX8_isState_11 : decode cX8_isState 11 = .ok (.iconst 1, 1) := by decide +kernel
theorem dX8_isState_12 : decode cX8_isState 12 = .ok (.goto 4, 3) := by decide +kernel
theorem dX8_isState_15 : decode cX8_isState 15 = .ok (.iconst 0, 1) := by decide +kernel
theorem dX8_isState_16 : decode cX8_isState 16 = .ok (.ireturn, 1) := by decide +kernel
theorem dX8_laysLeads_0 : decode cX8_laysLeads 0 = .ok (.aload_n 0, 1) := by decide +kernel
theorem dX8_laysLeads_1 : decode cX8_laysLeads 1 = .ok (.iconst 0, 1) := by decide +kernel
theorem dX8_laysLeads_2 : decode cX8_laysLeads 2 = .ok (.invokevirtual 385, 3) := by decide +kernel
theorem dX8_laysLeads_5 : decode cX8_laysLeads 5 = .ok (.iconst 0, 1) := by decide +kernel
theorem dX8_laysLeads_6 : decode cX8_laysLeads 6 = .ok (.istore_n 1, 1) := by decide +kernel
theorem dX8_laysLeads_7 : decode cX8_laysLeads 7 = .ok (.iload_n 1, 1) := by decide +kernel
theorem dX8_laysLeads_8 : decode cX8_laysLeads 8 = .ok (.sipush 384, 3) := by decide +kernel
theorem dX8_laysLeads_11 : decode cX8_laysLeads 11 = .ok (.if_icmp .ge 76, 3) := by decide +kernel
theorem dX8_laysLeads_14 : decode cX8_laysLeads 14 = .ok (.aload_n 0, 1) := by decide +kernel
theorem dX8_laysLeads_15 : decode cX8_laysLeads 15 = .ok (.iload_n 1, 1) := by decide +kernel
theorem dX8_laysLeads_16 : decode cX8_laysLeads 16 = .ok (.invokevirtual 403, 3) := by decide +kernel
theorem dX8_laysLeads_19 : decode cX8_laysLeads 19 = .ok (.ifCond .eq 62, 3) := by decide +kernel
theorem dX8_laysLeads_22 : decode cX8_laysLeads 22 = .ok (.iload_n 1, 1) := by decide +kernel
theorem dX8_laysLeads_23 : decode cX8_laysLeads 23 = .ok (.invokestatic 400, 3) := by decide +kernel
theorem dX8_laysLeads_26 : decode cX8_laysLeads 26 = .ok (.invokestatic 125, 3) := by decide +kernel
theorem dX8_laysLeads_29 : decode cX8_laysLeads 29 = .ok (.iconst 2, 1) := by decide +kernel
theorem dX8_laysLeads_30 : decode cX8_laysLeads 30 = .ok (.if_icmp .ge 6, 3) := by decide +kernel
theorem dX8_laysLeads_33 : decode cX8_laysLeads 33 = .ok (.goto 48, 3) := by decide +kernel
theorem dX8_laysLeads_36 : decode cX8_laysLeads 36 = .ok (.iconst 0, 1) := by decide +kernel
theorem dX8_laysLeads_37 : decode cX8_laysLeads 37 = .ok (.istore_n 2, 1) := by decide +kernel
theorem dX8_laysLeads_38 : decode cX8_laysLeads 38 = .ok (.iload_n 2, 1) := by decide +kernel
theorem dX8_laysLeads_39 : decode cX8_laysLeads 39 = .ok (.aload_n 0, 1) := by decide +kernel
theorem dX8_laysLeads_40 : decode cX8_laysLeads 40 = .ok (.getfield 28, 3) := by decide +kernel
theorem dX8_laysLeads_43 : decode cX8_laysLeads 43 = .ok (.bipush 17, 2) := by decide +kernel
theorem dX8_laysLeads_45 : decode cX8_laysLeads 45 = .ok (.iaload, 1) := by decide +kernel
theorem dX8_laysLeads_46 : decode cX8_laysLeads 46 = .ok (.if_icmp .ge 35, 3) := by decide +kernel
theorem dX8_laysLeads_49 : decode cX8_laysLeads 49 = .ok (.aload_n 0, 1) := by decide +kernel
theorem dX8_laysLeads_50 : decode cX8_laysLeads 50 = .ok (.iload_n 1, 1) := by decide +kernel
theorem dX8_laysLeads_51 : decode cX8_laysLeads 51 = .ok (.invokevirtual 406, 3) := by decide +kernel
theorem dX8_laysLeads_54 : decode cX8_laysLeads 54 = .ok (.aload_n 0, 1) := by decide +kernel
theorem dX8_laysLeads_55 : decode cX8_laysLeads 55 = .ok (.iload_n 2, 1) := by decide +kernel
theorem dX8_laysLeads_56 : decode cX8_laysLeads 56 = .ok (.iconst 0, 1) := by decide +kernel
theorem dX8_laysLeads_57 : decode cX8_laysLeads 57 = .ok (.invokevirtual 361, 3) := by decide +kernel
theorem dX8_laysLeads_60 : decode cX8_laysLeads 60 = .ok (.pop, 1) := by decide +kernel
theorem dX8_laysLeads_61 : decode cX8_laysLeads 61 = .ok (.aload_n 0, 1) := by decide +kernel
theorem dX8_laysLeads_62 : decode cX8_laysLeads 62 = .ok (.getfield 78, 3) := by decide +kernel
theorem dX8_laysLeads_65 : decode cX8_laysLeads 65 = .ok (.iconst 5, 1) := by decide +kernel
theorem dX8_laysLeads_66 : decode cX8_laysLeads 66 = .ok (.iload_n 1, 1) := by decide +kernel
theorem dX8_laysLeads_67 : decode cX8_laysLeads 67 = .ok (.imul, 1) := by decide +kernel
theorem dX8_laysLeads_68 : decode cX8_laysLeads 68 = .ok (.iload_n 2, 1) := by decide +kernel
theorem dX8_laysLeads_69 : decode cX8_laysLeads 69 = .ok (.iadd, 1) := by decide +kernel
theorem dX8_laysLeads_70 : decode cX8_laysLeads 70 = .ok (.aload_n 0, 1) := by decide +kernel
theorem dX8_laysLeads_71 : decode cX8_laysLeads 71 = .ok (.invokevirtual 409, 3) := by decide +kernel
theorem dX8_laysLeads_74 : decode cX8_laysLeads 74 = .ok (.iastore, 1) := by decide +kernel
theorem dX8_laysLeads_75 : decode cX8_laysLeads 75 = .ok (.iinc 2 1, 3) := by decide +kernel
theorem dX8_laysLeads_78 : decode cX8_laysLeads 78 = .ok (.goto (-40), 3) := by decide +kernel
theorem dX8_laysLeads_81 : decode cX8_laysLeads 81 = .ok (.iinc 1 1, 3) := by decide +kernel
theorem dX8_laysLeads_84 : decode cX8_laysLeads 84 = .ok (.goto (-77), 3) := by decide +kernel
theorem dX8_laysLeads_87 : decode cX8_laysLeads 87 = .ok (.aload_n 0, 1) := by decide +kernel
theorem dX8_laysLeads_88 : decode cX8_laysLeads 88 = .ok (.iconst 0, 1) := by decide +kernel
theorem dX8_laysLeads_89 : decode cX8_laysLeads 89 = .ok (.invokevirtual 394, 3) := by decide +kernel
theorem dX8_laysLeads_92 : decode cX8_laysLeads 92 = .ok (.return_, 1) := by decide +kernel
theorem dX8_reaches_0 : decode cX8_reaches 0 = .ok (.aload_n 0, 1) := by decide +kernel
theorem dX8_reaches_1 : decode cX8_reaches 1 = .ok (.getfield 90, 3) := by decide +kernel
theorem dX8_reaches_4 : decode cX8_reaches 4 = .ok (.iload_n 1, 1) := by decide +kernel
theorem dX8_reaches_5 : decode cX8_reaches 5 = .ok (.baload, 1) := by decide +kernel
theorem dX8_reaches_6 : decode cX8_reaches 6 = .ok (.ifCond .eq 4, 3) := by decide +kernel
theorem dX8_reaches_9 : decode cX8_reaches 9 = .ok (.return_, 1) := by decide +kernel
theorem dX8_reaches_10 : decode cX8_reaches 10 = .ok (.aload_n 0, 1) := by decide +kernel
theorem dX8_reaches_11 : decode cX8_reaches 11 = .ok (.getfield 90, 3) := by decide +kernel
theorem dX8_reaches_14 : decode cX8_reaches 14 = .ok (.iload_n 1, 1) := by decide +kernel
theorem dX8_reaches_15 : decode cX8_reaches 15 = .ok (.iconst 1, 1) := by decide +kernel
theorem dX8_reaches_16 : decode cX8_reaches 16 = .ok (.bastore, 1) := by decide +kernel
theorem dX8_reaches_17 : decode cX8_reaches 17 = .ok (.aload_n 0, 1) := by decide +kernel
theorem dX8_reaches_18 : decode cX8_reaches 18 = .ok (.getfield 81, 3) := by decide +kernel
theorem dX8_reaches_21 : decode cX8_reaches 21 = .ok (.aload_n 0, 1) := by decide +kernel
theorem dX8_reaches_22 : decode cX8_reaches 22 = .ok (.getfield 412, 3) := by decide +kernel
theorem dX8_reaches_25 : decode cX8_reaches 25 = .ok (.iload_n 1, 1) := by decide +kernel
theorem dX8_reaches_26 : decode cX8_reaches 26 = .ok (.iastore, 1) := by decide +kernel
theorem dX8_reaches_27 : decode cX8_reaches 27 = .ok (.aload_n 0, 1) := by decide +kernel
theorem dX8_reaches_28 : decode cX8_reaches 28 = .ok (.getfield 84, 3) := by decide +kernel
theorem dX8_reaches_31 : decode cX8_reaches 31 = .ok (.iload_n 1, 1) := by decide +kernel
theorem dX8_reaches_32 : decode cX8_reaches 32 = .ok (.iload_n 2, 1) := by decide +kernel
theorem dX8_reaches_33 : decode cX8_reaches 33 = .ok (.iastore, 1) := by decide +kernel
theorem dX8_reaches_34 : decode cX8_reaches 34 = .ok (.aload_n 0, 1) := by decide +kernel
theorem dX8_reaches_35 : decode cX8_reaches 35 = .ok (.getfield 87, 3) := by decide +kernel
theorem dX8_reaches_38 : decode cX8_reaches 38 = .ok (.iload_n 1, 1) := by decide +kernel
theorem dX8_reaches_39 : decode cX8_reaches 39 = .ok (.iload_n 3, 1) := by decide +kernel
theorem dX8_reaches_40 : decode cX8_reaches 40 = .ok (.iastore, 1) := by decide +kernel
theorem dX8_reaches_41 : decode cX8_reaches 41 = .ok (.aload_n 0, 1) := by decide +kernel
theorem dX8_reaches_42 : decode cX8_reaches 42 = .ok (.dup, 1) := by decide +kernel
theorem dX8_reaches_43 : decode cX8_reaches 43 = .ok (.getfield 412, 3) := by decide +kernel
theorem dX8_reaches_46 : decode cX8_reaches 46 = .ok (.iconst 1, 1) := by decide +kernel
theorem dX8_reaches_47 : decode cX8_reaches 47 = .ok (.iadd, 1) := by decide +kernel
theorem dX8_reaches_48 : decode cX8_reaches 48 = .ok (.putfield 412, 3) := by decide +kernel
theorem dX8_reaches_51 : decode cX8_reaches 51 = .ok (.return_, 1) := by decide +kernel
theorem dX8_reachesAlone_0 : decode cX8_reachesAlone 0 = .ok (.iconst 0, 1) := by decide +kernel
theorem dX8_reachesAlone_1 : decode cX8_reachesAlone 1 = .ok (.istore_n 2, 1) := by decide +kernel
theorem dX8_reachesAlone_2 : decode cX8_reachesAlone 2 = .ok (.iload_n 2, 1) := by decide +kernel
theorem dX8_reachesAlone_3 : decode cX8_reachesAlone 3 = .ok (.sipush 384, 3) := by decide +kernel
theorem dX8_reachesAlone_6 : decode cX8_reachesAlone 6 = .ok (.if_icmp .ge 16, 3) := by decide +kernel
theorem dX8_reachesAlone_9 : decode cX8_reachesAlone 9 = .ok (.aload_n 0, 1) := by decide +kernel
theorem dX8_reachesAlone_10 : decode cX8_reachesAlone 10 = .ok (.getfield 90, 3) := by decide +kernel
theorem dX8_reachesAlone_13 : decode cX8_reachesAlone 13 = .ok (.iload_n 2, 1) := by decide +kernel
theorem dX8_reachesAlone_14 : decode cX8_reachesAlone 14 = .ok (.iconst 0, 1) := by decide +kernel
theorem dX8_reachesAlone_15 : decode cX8_reachesAlone 15 = .ok (.bastore, 1) := by decide +kernel
theorem dX8_reachesAlone_16 : decode cX8_reachesAlone 16 = .ok (.iinc 2 1, 3) := by decide +kernel
theorem dX8_reachesAlone_19 : decode cX8_reachesAlone 19 = .ok (.goto (-17), 3) := by decide +kernel
theorem dX8_reachesAlone_22 : decode cX8_reachesAlone 22 = .ok (.aload_n 0, 1) := by decide +kernel
theorem dX8_reachesAlone_23 : decode cX8_reachesAlone 23 = .ok (.iconst 0, 1) := by decide +kernel
theorem dX8_reachesAlone_24 : decode cX8_reachesAlone 24 = .ok (.putfield 412, 3) := by decide +kernel
theorem dX8_reachesAlone_27 : decode cX8_reachesAlone 27 = .ok (.aload_n 0, 1) := by decide +kernel
theorem dX8_reachesAlone_28 : decode cX8_reachesAlone 28 = .ok (.aload_n 0, 1) := by decide +kernel
theorem dX8_reachesAlone_29 : decode cX8_reachesAlone 29 = .ok (.invokevirtual 409, 3) := by decide +kernel
theorem dX8_reachesAlone_32 : decode cX8_reachesAlone 32 = .ok (.iconst (-1), 1) := by decide +kernel
theorem dX8_reachesAlone_33 : decode cX8_reachesAlone 33 = .ok (.iconst (-1), 1) := by decide +kernel
theorem dX8_reachesAlone_34 : decode cX8_reachesAlone 34 = .ok (.invokevirtual 415, 3) := by decide +kernel
theorem dX8_reachesAlone_37 : decode cX8_reachesAlone 37 = .ok (.iconst 0, 1) := by decide +kernel
theorem dX8_reachesAlone_38 : decode cX8_reachesAlone 38 = .ok (.istore_n 2, 1) := by decide +kernel
theorem dX8_reachesAlone_39 : decode cX8_reachesAlone 39 = .ok (.iload_n 2, 1) := by decide +kernel
theorem dX8_reachesAlone_40 : decode cX8_reachesAlone 40 = .ok (.aload_n 0, 1) := by decide +kernel
theorem dX8_reachesAlone_41 : decode cX8_reachesAlone 41 = .ok (.getfield 412, 3) := by decide +kernel
theorem dX8_reachesAlone_44 : decode cX8_reachesAlone 44 = .ok (.if_icmp .ge 81, 3) := by decide +kernel
theorem dX8_reachesAlone_47 : decode cX8_reachesAlone 47 = .ok (.aload_n 0, 1) := by decide +kernel
theorem dX8_reachesAlone_48 : decode cX8_reachesAlone 48 = .ok (.getfield 81, 3) := by decide +kernel
theorem dX8_reachesAlone_51 : decode cX8_reachesAlone 51 = .ok (.iload_n 2, 1) := by decide +kernel
theorem dX8_reachesAlone_52 : decode cX8_reachesAlone 52 = .ok (.iaload, 1) := by decide +kernel
theorem dX8_reachesAlone_53 : decode cX8_reachesAlone 53 = .ok (.istore_n 3, 1) := by decide +kernel
theorem dX8_reachesAlone_54 : decode cX8_reachesAlone 54 = .ok (.iload_n 3, 1) := by decide +kernel
theorem dX8_reachesAlone_55 : decode cX8_reachesAlone 55 = .ok (.invokestatic 400, 3) := by decide +kernel
theorem dX8_reachesAlone_58 : decode cX8_reachesAlone 58 = .ok (.iconst 1, 1) := by decide +kernel
theorem dX8_reachesAlone_59 : decode cX8_reachesAlone 59 = .ok (.iload_n 1, 1) := by decide +kernel
theorem dX8_reachesAlone_60 : decode cX8_reachesAlone 60 = .ok (.ishl, 1) := by decide +kernel
theorem dX8_reachesAlone_61 : decode cX8_reachesAlone 61 = .ok (.if_icmp .ne 5, 3) := by decide +kernel
theorem dX8_reachesAlone_64 : decode cX8_reachesAlone 64 = .ok (.iload_n 3, 1) := by decide +kernel
theorem dX8_reachesAlone_65 : decode cX8_reachesAlone 65 = .ok (.ireturn, 1) := by decide +kernel
theorem dX8_reachesAlone_66 : decode cX8_reachesAlone 66 = .ok (.iload_n 3, 1) := by decide +kernel
theorem dX8_reachesAlone_67 : decode cX8_reachesAlone 67 = .ok (.invokestatic 400, 3) := by decide +kernel
theorem dX8_reachesAlone_70 : decode cX8_reachesAlone 70 = .ok (.invokestatic 125, 3) := by decide +kernel
theorem dX8_reachesAlone_73 : decode cX8_reachesAlone 73 = .ok (.iconst 2, 1) := by decide +kernel
theorem dX8_reachesAlone_74 : decode cX8_reachesAlone 74 = .ok (.if_icmp .ge 6, 3) := by decide +kernel
theorem dX8_reachesAlone_77 : decode cX8_reachesAlone 77 = .ok (.goto 42, 3) := by decide +kernel
theorem dX8_reachesAlone_80 : decode cX8_reachesAlone 80 = .ok (.iconst 0, 1) := by decide +kernel
theorem dX8_reachesAlone_81 : decode cX8_reachesAlone 81 = .ok (.istore 4, 2) := by decide +kernel
theorem dX8_reachesAlone_83 : decode cX8_reachesAlone 83 = .ok (.iload 4, 2) := by decide +kernel
theorem dX8_reachesAlone_85 : decode cX8_reachesAlone 85 = .ok (.aload_n 0, 1) := by decide +kernel
theorem dX8_reachesAlone_86 : decode cX8_reachesAlone 86 = .ok (.getfield 28, 3) := by decide +kernel
theorem dX8_reachesAlone_89 : decode cX8_reachesAlone 89 = .ok (.bipush 17, 2) := by decide +kernel
theorem dX8_reachesAlone_91 : decode cX8_reachesAlone 91 = .ok (.iaload, 1) := by decide +kernel
theorem dX8_reachesAlone_92 : decode cX8_reachesAlone 92 = .ok (.if_icmp .ge 27, 3) := by decide +kernel
theorem dX8_reachesAlone_95 : decode cX8_reachesAlone 95 = .ok (.aload_n 0, 1) := by decide +kernel
theorem dX8_reachesAlone_96 : decode cX8_reachesAlone 96 = .ok (.aload_n 0, 1) := by decide +kernel
theorem dX8_reachesAlone_97 : decode cX8_reachesAlone 97 = .ok (.getfield 78, 3) := by decide +kernel
theorem dX8_reachesAlone_100 : decode cX8_reachesAlone 100 = .ok (.iconst 5, 1) := by decide +kernel
theorem dX8_reachesAlone_101 : decode cX8_reachesAlone 101 = .ok (.iload_n 3, 1) := by decide +kernel
theorem dX8_reachesAlone_102 : decode cX8_reachesAlone 102 = .ok (.imul, 1) := by decide +kernel
theorem dX8_reachesAlone_103 : decode cX8_reachesAlone 103 = .ok (.iload 4, 2) := by decide +kernel
theorem dX8_reachesAlone_105 : decode cX8_reachesAlone 105 = .ok (.iadd, 1) := by decide +kernel
theorem dX8_reachesAlone_106 : decode cX8_reachesAlone 106 = .ok (.iaload, 1) := by decide +kernel
theorem dX8_reachesAlone_107 : decode cX8_reachesAlone 107 = .ok (.iload_n 3, 1) := by decide +kernel
theorem dX8_reachesAlone_108 : decode cX8_reachesAlone 108 = .ok (.iload 4, 2) := by decide +kernel
theorem dX8_reachesAlone_110 : decode cX8_reachesAlone 110 = .ok (.invokevirtual 415, 3) := by decide +kernel
theorem dX8_reachesAlone_113 : decode cX8_reachesAlone 113 = .ok (.iinc 4 1, 3) := by decide +kernel
theorem dX8_reachesAlone_116 : decode cX8_reachesAlone 116 = .ok (.goto (-33), 3) := by decide +kernel
theorem dX8_reachesAlone_119 : decode cX8_reachesAlone 119 = .ok (.iinc 2 1, 3) := by decide +kernel
theorem dX8_reachesAlone_122 : decode cX8_reachesAlone 122 = .ok (.goto (-83), 3) := by decide +kernel
theorem dX8_reachesAlone_125 : decode cX8_reachesAlone 125 = .ok (.iconst (-1), 1) := by decide +kernel
theorem dX8_reachesAlone_126 : decode cX8_reachesAlone 126 = .ok (.ireturn, 1) := by decide +kernel
theorem dX8_alone_0 : decode cX8_alone 0 = .ok (.aload_n 0, 1) := by decide +kernel
theorem dX8_alone_1 : decode cX8_alone 1 = .ok (.iload_n 1, 1) := by decide +kernel
theorem dX8_alone_2 : decode cX8_alone 2 = .ok (.invokevirtual 132, 3) := by decide +kernel
theorem dX8_alone_5 : decode cX8_alone 5 = .ok (.ifCond .eq 8, 3) := by decide +kernel
theorem dX8_alone_8 : decode cX8_alone 8 = .ok (.iload_n 2, 1) := by decide +kernel
theorem dX8_alone_9 : decode cX8_alone 9 = .ok (.iconst (-1), 1) := by decide +kernel
theorem dX8_alone_10 : decode cX8_alone 10 = .ok (.if_icmp .ge 5, 3) := by decide +kernel
theorem dX8_alone_13 : decode cX8_alone 13 = .ok (.iconst (-1), 1) := by decide +kernel
theorem dX8_alone_14 : decode cX8_alone 14 = .ok (.ireturn, 1) := by decide +kernel
theorem dX8_alone_15 : decode cX8_alone 15 = .ok (.aload_n 0, 1) := by decide +kernel
theorem dX8_alone_16 : decode cX8_alone 16 = .ok (.invokevirtual 419, 3) := by decide +kernel
theorem dX8_alone_19 : decode cX8_alone 19 = .ok (.aload_n 0, 1) := by decide +kernel
theorem dX8_alone_20 : decode cX8_alone 20 = .ok (.iload_n 1, 1) := by decide +kernel
theorem dX8_alone_21 : decode cX8_alone 21 = .ok (.invokevirtual 422, 3) := by decide +kernel
theorem dX8_alone_24 : decode cX8_alone 24 = .ok (.istore_n 3, 1) := by decide +kernel
theorem dX8_alone_25 : decode cX8_alone 25 = .ok (.iload_n 3, 1) := by decide +kernel
theorem dX8_alone_26 : decode cX8_alone 26 = .ok (.iconst (-1), 1) := by decide +kernel
theorem dX8_alone_27 : decode cX8_alone 27 = .ok (.if_icmp .ne 5, 3) := by decide +kernel
theorem dX8_alone_30 : decode cX8_alone 30 = .ok (.iconst (-1), 1) := by decide +kernel
theorem dX8_alone_31 : decode cX8_alone 31 = .ok (.ireturn, 1) := by decide +kernel
theorem dX8_alone_32 : decode cX8_alone 32 = .ok (.iconst 0, 1) := by decide +kernel
theorem dX8_alone_33 : decode cX8_alone 33 = .ok (.istore 4, 2) := by decide +kernel
theorem dX8_alone_35 : decode cX8_alone 35 = .ok (.aload_n 0, 1) := by decide +kernel
theorem dX8_alone_36 : decode cX8_alone 36 = .ok (.getfield 84, 3) := by decide +kernel
theorem dX8_alone_39 : decode cX8_alone 39 = .ok (.iload_n 3, 1) := by decide +kernel
theorem dX8_alone_40 : decode cX8_alone 40 = .ok (.iaload, 1) := by decide +kernel
theorem dX8_alone_41 : decode cX8_alone 41 = .ok (.iconst (-1), 1) := by decide +kernel
theorem dX8_alone_42 : decode cX8_alone 42 = .ok (.if_icmp .eq 29, 3) := by decide +kernel
theorem dX8_alone_45 : decode cX8_alone 45 = .ok (.aload_n 0, 1) := by decide +kernel
theorem dX8_alone_46 : decode cX8_alone 46 = .ok (.getfield 93, 3) := by decide +kernel
theorem dX8_alone_49 : decode cX8_alone 49 = .ok (.iload 4, 2) := by decide +kernel
theorem dX8_alone_51 : decode cX8_alone 51 = .ok (.aload_n 0, 1) := by decide +kernel
theorem dX8_alone_52 : decode cX8_alone 52 = .ok (.getfield 87, 3) := by decide +kernel
theorem dX8_alone_55 : decode cX8_alone 55 = .ok (.iload_n 3, 1) := by decide +kernel
theorem dX8_alone_56 : decode cX8_alone 56 = .ok (.iaload, 1) := by decide +kernel
theorem dX8_alone_57 : decode cX8_alone 57 = .ok (.iastore, 1) := by decide +kernel
theorem dX8_alone_58 : decode cX8_alone 58 = .ok (.aload_n 0, 1) := by decide +kernel
theorem dX8_alone_59 : decode cX8_alone 59 = .ok (.getfield 84, 3) := by decide +kernel
theorem dX8_alone_62 : decode cX8_alone 62 = .ok (.iload_n 3, 1) := by decide +kernel
theorem dX8_alone_63 : decode cX8_alone 63 = .ok (.iaload, 1) := by decide +kernel
theorem dX8_alone_64 : decode cX8_alone 64 = .ok (.istore_n 3, 1) := by decide +kernel
theorem dX8_alone_65 : decode cX8_alone 65 = .ok (.iinc 4 1, 3) := by decide +kernel
theorem dX8_alone_68 : decode cX8_alone 68 = .ok (.goto (-33), 3) := by decide +kernel
theorem dX8_alone_71 : decode cX8_alone 71 = .ok (.iload_n 2, 1) := by decide +kernel
theorem dX8_alone_72 : decode cX8_alone 72 = .ok (.iconst (-1), 1) := by decide +kernel
theorem dX8_alone_73 : decode cX8_alone 73 = .ok (.if_icmp .ne 8, 3) := by decide +kernel
theorem dX8_alone_76 : decode cX8_alone 76 = .ok (.iload 4, 2) := by decide +kernel
theorem dX8_alone_78 : decode cX8_alone 78 = .ok (.goto 24, 3) := by decide +kernel
theorem dX8_alone_81 : decode cX8_alone 81 = .ok (.iload_n 2, 1) := by decide +kernel
theorem dX8_alone_82 : decode cX8_alone 82 = .ok (.iload 4, 2) := by decide +kernel
theorem dX8_alone_84 : decode cX8_alone 84 = .ok (.if_icmp .ge 17, 3) := by decide +kernel
theorem dX8_alone_87 : decode cX8_alone 87 = .ok (.aload_n 0, 1) := by decide +kernel
theorem dX8_alone_88 : decode cX8_alone 88 = .ok (.getfield 93, 3) := by decide +kernel
theorem dX8_alone_91 : decode cX8_alone 91 = .ok (.iload 4, 2) := by decide +kernel
theorem dX8_alone_93 : decode cX8_alone 93 = .ok (.iconst 1, 1) := by decide +kernel
theorem dX8_alone_94 : decode cX8_alone 94 = .ok (.isub, 1) := by decide +kernel
theorem dX8_alone_95 : decode cX8_alone 95 = .ok (.iload_n 2, 1) := by decide +kernel
theorem dX8_alone_96 : decode cX8_alone 96 = .ok (.isub, 1) := by decide +kernel
theorem dX8_alone_97 : decode cX8_alone 97 = .ok (.iaload, 1) := by decide +kernel
theorem dX8_alone_98 : decode cX8_alone 98 = .ok (.goto 4, 3) := by decide +kernel
theorem dX8_alone_101 : decode cX8_alone 101 = .ok (.iconst (-1), 1) := by decide +kernel
theorem dX8_alone_102 : decode cX8_alone 102 = .ok (.ireturn, 1) := by decide +kernel
theorem dX8_choiceAt_0 : decode cX8_choiceAt 0 = .ok (.aload_n 0, 1) := by decide +kernel
theorem dX8_choiceAt_1 : decode cX8_choiceAt 1 = .ok (.iload_n 1, 1) := by decide +kernel
theorem dX8_choiceAt_2 : decode cX8_choiceAt 2 = .ok (.invokevirtual 406, 3) := by decide +kernel
theorem dX8_choiceAt_5 : decode cX8_choiceAt 5 = .ok (.aload_n 0, 1) := by decide +kernel
theorem dX8_choiceAt_6 : decode cX8_choiceAt 6 = .ok (.invokevirtual 336, 3) := by decide +kernel
theorem dX8_choiceAt_9 : decode cX8_choiceAt 9 = .ok (.istore_n 3, 1) := by decide +kernel
theorem dX8_choiceAt_10 : decode cX8_choiceAt 10 = .ok (.iconst 0, 1) := by decide +kernel
theorem dX8_choiceAt_11 : decode cX8_choiceAt 11 = .ok (.istore 4, 2) := by decide +kernel
theorem dX8_choiceAt_13 : decode cX8_choiceAt 13 = .ok (.iload 4, 2) := by decide +kernel
theorem dX8_choiceAt_15 : decode cX8_choiceAt 15 = .ok (.aload_n 0, 1) := by decide +kernel
theorem dX8_choiceAt_16 : decode cX8_choiceAt 16 = .ok (.getfield 28, 3) := by decide +kernel
theorem dX8_choiceAt_19 : decode cX8_choiceAt 19 = .ok (.bipush 17, 2) := by decide +kernel
theorem dX8_choiceAt_21 : decode cX8_choiceAt 21 = .ok (.iaload, 1) := by decide +kernel
theorem dX8_choiceAt_22 : decode cX8_choiceAt 22 = .ok (.if_icmp .ge 35, 3) := by decide +kernel
theorem dX8_choiceAt_25 : decode cX8_choiceAt 25 = .ok (.aload_n 0, 1) := by decide +kernel
theorem dX8_choiceAt_26 : decode cX8_choiceAt 26 = .ok (.getfield 96, 3) := by decide +kernel
theorem dX8_choiceAt_29 : decode cX8_choiceAt 29 = .ok (.sipush 384, 3) := by decide +kernel
theorem dX8_choiceAt_32 : decode cX8_choiceAt 32 = .ok (.iload_n 2, 1) := by decide +kernel
theorem dX8_choiceAt_33 : decode cX8_choiceAt 33 = .ok (.imul, 1) := by decide +kernel
theorem dX8_choiceAt_34 : decode cX8_choiceAt 34 = .ok (.aload_n 0, 1) := by decide +kernel
theorem dX8_choiceAt_35 : decode cX8_choiceAt 35 = .ok (.getfield 78, 3) := by decide +kernel
theorem dX8_choiceAt_38 : decode cX8_choiceAt 38 = .ok (.iconst 5, 1) := by decide +kernel
theorem dX8_choiceAt_39 : decode cX8_choiceAt 39 = .ok (.iload_n 1, 1) := by decide +kernel
theorem dX8_choiceAt_40 : decode cX8_choiceAt 40 = .ok (.imul, 1) := by decide +kernel
theorem dX8_choiceAt_41 : decode cX8_choiceAt 41 = .ok (.iload 4, 2) := by decide +kernel
theorem dX8_choiceAt_43 : decode cX8_choiceAt 43 = .ok (.iadd, 1) := by decide +kernel
theorem dX8_choiceAt_44 : decode cX8_choiceAt 44 = .ok (.iaload, 1) := by decide +kernel
theorem dX8_choiceAt_45 : decode cX8_choiceAt 45 = .ok (.iadd, 1) := by decide +kernel
theorem dX8_choiceAt_46 : decode cX8_choiceAt 46 = .ok (.iaload, 1) := by decide +kernel
theorem dX8_choiceAt_47 : decode cX8_choiceAt 47 = .ok (.iload_n 3, 1) := by decide +kernel
theorem dX8_choiceAt_48 : decode cX8_choiceAt 48 = .ok (.if_icmp .ne 9, 3) := by decide +kernel
theorem dX8_choiceAt_51 : decode cX8_choiceAt 51 = .ok (.iinc 4 1, 3) := by decide +kernel
theorem dX8_choiceAt_54 : decode cX8_choiceAt 54 = .ok (.goto (-41), 3) := by decide +kernel
theorem dX8_choiceAt_57 : decode cX8_choiceAt 57 = .ok (.iload 4, 2) := by decide +kernel
theorem dX8_choiceAt_59 : decode cX8_choiceAt 59 = .ok (.aload_n 0, 1) := by decide +kernel
theorem dX8_choiceAt_60 : decode cX8_choiceAt 60 = .ok (.getfield 28, 3) := by decide +kernel
theorem dX8_choiceAt_63 : decode cX8_choiceAt 63 = .ok (.bipush 17, 2) := by decide +kernel
theorem dX8_choiceAt_65 : decode cX8_choiceAt 65 = .ok (.iaload, 1) := by decide +kernel
theorem dX8_choiceAt_66 : decode cX8_choiceAt 66 = .ok (.if_icmp .ne 7, 3) := by decide +kernel
theorem dX8_choiceAt_69 : decode cX8_choiceAt 69 = .ok (.iconst 0, 1) := by decide +kernel
theorem dX8_choiceAt_70 : decode cX8_choiceAt 70 = .ok (.goto 5, 3) := by decide +kernel
theorem dX8_choiceAt_73 : decode cX8_choiceAt 73 = .ok (.iload 4, 2) := by decide +kernel
theorem dX8_choiceAt_75 : decode cX8_choiceAt 75 = .ok (.ireturn, 1) := by decide +kernel
theorem dX8_itAt_0 : decode cX8_itAt 0 = .ok (.iload_n 1, 1) := by decide +kernel
theorem dX8_itAt_1 : decode cX8_itAt 1 = .ok (.invokestatic 400, 3) := by decide +kernel
theorem dX8_itAt_4 : decode cX8_itAt 4 = .ok (.istore_n 3, 1) := by decide +kernel
theorem dX8_itAt_5 : decode cX8_itAt 5 = .ok (.iload_n 3, 1) := by decide +kernel
theorem dX8_itAt_6 : decode cX8_itAt 6 = .ok (.invokestatic 125, 3) := by decide +kernel
theorem dX8_itAt_9 : decode cX8_itAt 9 = .ok (.iconst 2, 1) := by decide +kernel
theorem dX8_itAt_10 : decode cX8_itAt 10 = .ok (.if_icmp .ge 16, 3) := by decide +kernel
theorem dX8_itAt_13 : decode cX8_itAt 13 = .ok (.iload_n 3, 1) := by decide +kernel
theorem dX8_itAt_14 : decode cX8_itAt 14 = .ok (.ifCond .ne 7, 3) := by decide +kernel
theorem dX8_itAt_17 : decode cX8_itAt 17 = .ok (.iconst (-1), 1) := by decide +kernel
theorem dX8_itAt_18 : decode cX8_itAt 18 = .ok (.goto 7, 3) := by decide +kernel
theorem dX8_itAt_21 : decode cX8_itAt 21 = .ok (.iload_n 3, 1) := by decide +kernel
theorem dX8_itAt_22 : decode cX8_itAt 22 = .ok (.invokestatic 382, 3) := by decide +kernel
theorem dX8_itAt_25 : decode cX8_itAt 25 = .ok (.ireturn, 1) := by decide +kernel
theorem dX8_itAt_26 : decode cX8_itAt 26 = .ok (.aload_n 0, 1) := by decide +kernel
theorem dX8_itAt_27 : decode cX8_itAt 27 = .ok (.getfield 28, 3) := by decide +kernel
theorem dX8_itAt_30 : decode cX8_itAt 30 = .ok (.bipush 17, 2) := by decide +kernel
theorem dX8_itAt_32 : decode cX8_itAt 32 = .ok (.iaload, 1) := by decide +kernel
theorem dX8_itAt_33 : decode cX8_itAt 33 = .ok (.ifCond .ne 5, 3) := by decide +kernel
theorem dX8_itAt_36 : decode cX8_itAt 36 = .ok (.iconst (-1), 1) := by decide +kernel
theorem dX8_itAt_37 : decode cX8_itAt 37 = .ok (.ireturn, 1) := by decide +kernel
theorem dX8_itAt_38 : decode cX8_itAt 38 = .ok (.aload_n 0, 1) := by decide +kernel
theorem dX8_itAt_39 : decode cX8_itAt 39 = .ok (.aload_n 0, 1) := by decide +kernel
theorem dX8_itAt_40 : decode cX8_itAt 40 = .ok (.iload_n 1, 1) := by decide +kernel
theorem dX8_itAt_41 : decode cX8_itAt 41 = .ok (.iload_n 2, 1) := by decide +kernel
theorem dX8_itAt_42 : decode cX8_itAt 42 = .ok (.invokevirtual 425, 3) := by decide +kernel
theorem dX8_itAt_45 : decode cX8_itAt 45 = .ok (.putfield 428, 3) := by decide +kernel
theorem dX8_itAt_48 : decode cX8_itAt 48 = .ok (.aload_n 0, 1) := by decide +kernel
theorem dX8_itAt_49 : decode cX8_itAt 49 = .ok (.getfield 96, 3) := by decide +kernel
theorem dX8_itAt_52 : decode cX8_itAt 52 = .ok (.sipush 384, 3) := by decide +kernel
theorem dX8_itAt_55 : decode cX8_itAt 55 = .ok (.iload_n 2, 1) := by decide +kernel
theorem dX8_itAt_56 : decode cX8_itAt 56 = .ok (.imul, 1) := by decide +kernel
theorem dX8_itAt_57 : decode cX8_itAt 57 = .ok (.aload_n 0, 1) := by decide +kernel
theorem dX8_itAt_58 : decode cX8_itAt 58 = .ok (.getfield 78, 3) := by decide +kernel
theorem dX8_itAt_61 : decode cX8_itAt 61 = .ok (.iconst 5, 1) := by decide +kernel
theorem dX8_itAt_62 : decode cX8_itAt 62 = .ok (.iload_n 1, 1) := by decide +kernel
theorem dX8_itAt_63 : decode cX8_itAt 63 = .ok (.imul, 1) := by decide +kernel
theorem dX8_itAt_64 : decode cX8_itAt 64 = .ok (.aload_n 0, 1) := by decide +kernel
theorem dX8_itAt_65 : decode cX8_itAt 65 = .ok (.getfield 428, 3) := by decide +kernel
theorem dX8_itAt_68 : decode cX8_itAt 68 = .ok (.iadd, 1) := by decide +kernel
theorem dX8_itAt_69 : decode cX8_itAt 69 = .ok (.iaload, 1) := by decide +kernel
theorem dX8_itAt_70 : decode cX8_itAt 70 = .ok (.iadd, 1) := by decide +kernel
theorem dX8_itAt_71 : decode cX8_itAt 71 = .ok (.iaload, 1) := by decide +kernel
theorem dX8_itAt_72 : decode cX8_itAt 72 = .ok (.ireturn, 1) := by decide +kernel
theorem dX8_laysIts_0 : decode cX8_laysIts 0 = .ok (.iconst 0, 1) := by decide +kernel
theorem dX8_laysIts_1 : decode cX8_laysIts 1 = .ok (.istore_n 2, 1) := by decide +kernel
theorem dX8_laysIts_2 : decode cX8_laysIts 2 = .ok (.iload_n 2, 1) := by decide +kernel
theorem dX8_laysIts_3 : decode cX8_laysIts 3 = .ok (.sipush 384, 3) := by decide +kernel
theorem dX8_laysIts_6 : decode cX8_laysIts 6 = .ok (.if_icmp .ge 40, 3) := by decide +kernel
theorem dX8_laysIts_9 : decode cX8_laysIts 9 = .ok (.aload_n 0, 1) := by decide +kernel
theorem dX8_laysIts_10 : decode cX8_laysIts 10 = .ok (.iload_n 2, 1) := by decide +kernel
theorem dX8_laysIts_11 : decode cX8_laysIts 11 = .ok (.invokevirtual 403, 3) := by decide +kernel
theorem dX8_laysIts_14 : decode cX8_laysIts 14 = .ok (.ifCond .ne 6, 3) := by decide +kernel
theorem dX8_laysIts_17 : decode cX8_laysIts 17 = .ok (.goto 23, 3) := by decide +kernel
theorem dX8_laysIts_20 : decode cX8_laysIts 20 = .ok (.aload_n 0, 1) := by decide +kernel
theorem dX8_laysIts_21 : decode cX8_laysIts 21 = .ok (.getfield 96, 3) := by decide +kernel
theorem dX8_laysIts_24 : decode cX8_laysIts 24 = .ok (.sipush 384, 3) := by decide +kernel
theorem dX8_laysIts_27 : decode cX8_laysIts 27 = .ok (.iconst 1, 1) := by decide +kernel
theorem dX8_laysIts_28 : decode cX8_laysIts 28 = .ok (.iload_n 1, 1) := by decide +kernel
theorem dX8_laysIts_29 : decode cX8_laysIts 29 = .ok (.isub, 1) := by decide +kernel
theorem dX8_laysIts_30 : decode cX8_laysIts 30 = .ok (.imul, 1) := by decide +kernel
theorem dX8_laysIts_31 : decode cX8_laysIts 31 = .ok (.iload_n 2, 1) := by decide +kernel
theorem dX8_laysIts_32 : decode cX8_laysIts 32 = .ok (.iadd, 1) := by decide +kernel
theorem dX8_laysIts_33 : decode cX8_laysIts 33 = .ok (.aload_n 0, 1) := by decide +kernel
theorem dX8_laysIts_34 : decode cX8_laysIts 34 = .ok (.iload_n 2, 1) := by decide +kernel
theorem dX8_laysIts_35 : decode cX8_laysIts 35 = .ok (.iload_n 1, 1) := by decide +kernel
theorem dX8_laysIts_36 : decode cX8_laysIts 36 = .ok (.invokevirtual 431, 3) := by decide +kernel
theorem dX8_laysIts_39 : decode cX8_laysIts 39 = .ok (.iastore, 1) := by decide +kernel
theorem dX8_laysIts_40 : decode cX8_laysIts 40 = .ok (.iinc 2 1, 3) := by decide +kernel
theorem dX8_laysIts_43 : decode cX8_laysIts 43 = .ok (.goto (-41), 3) := by decide +kernel
theorem dX8_laysIts_46 : decode cX8_laysIts 46 = .ok (.return_, 1) := by decide +kernel
theorem dX8_laysEnd_0 : decode cX8_laysEnd 0 = .ok (.iconst 0, 1) := by decide +kernel
theorem dX8_laysEnd_1 : decode cX8_laysEnd 1 = .ok (.istore_n 1, 1) := by decide +kernel
theorem dX8_laysEnd_2 : decode cX8_laysEnd 2 = .ok (.iload_n 1, 1) := by decide +kernel
theorem dX8_laysEnd_3 : decode cX8_laysEnd 3 = .ok (.sipush 384, 3) := by decide +kernel
theorem dX8_laysEnd_6 : decode cX8_laysEnd 6 = .ok (.if_icmp .ge 36, 3) := by decide +kernel
theorem dX8_laysEnd_9 : decode cX8_laysEnd 9 = .ok (.iload_n 1, 1) := by decide +kernel
theorem dX8_laysEnd_10 : decode cX8_laysEnd 10 = .ok (.invokestatic 400, 3) := by decide +kernel
theorem dX8_laysEnd_13 : decode cX8_laysEnd 13 = .ok (.istore_n 2, 1) := by decide +kernel
theorem dX8_laysEnd_14 : decode cX8_laysEnd 14 = .ok (.aload_n 0, 1) := by decide +kernel
theorem dX8_laysEnd_15 : decode cX8_laysEnd 15 = .ok (.getfield 96, 3) := by decide +kernel
theorem dX8_laysEnd_18 : decode cX8_laysEnd 18 = .ok (.iload_n 1, 1) := by decide +kernel
theorem dX8_laysEnd_19 : decode cX8_laysEnd 19 = .ok (.iload_n 2, 1) := by decide +kernel
theorem dX8_laysEnd_20 : decode cX8_laysEnd 20 = .ok (.invokestatic 125, 3) := by decide +kernel
theorem dX8_laysEnd_23 : decode cX8_laysEnd 23 = .ok (.iconst 1, 1) := by decide +kernel
theorem dX8_laysEnd_24 : decode cX8_laysEnd 24 = .ok (.if_icmp .ne 10, 3) := by decide +kernel
theorem dX8_laysEnd_27 : decode cX8_laysEnd 27 = .ok (.iload_n 2, 1) := by decide +kernel
theorem dX8_laysEnd_28 : decode cX8_laysEnd 28 = .ok (.invokestatic 382, 3) := by decide +kernel
theorem dX8_laysEnd_31 : decode cX8_laysEnd 31 = .ok (.goto 4, 3) := by decide +kernel
theorem dX8_laysEnd_34 : decode cX8_laysEnd 34 = .ok (.iconst (-1), 1) := by decide +kernel
theorem dX8_laysEnd_35 : decode cX8_laysEnd 35 = .ok (.iastore, 1) := by decide +kernel
theorem dX8_laysEnd_36 : decode cX8_laysEnd 36 = .ok (.iinc 1 1, 3) := by decide +kernel
theorem dX8_laysEnd_39 : decode cX8_laysEnd 39 = .ok (.goto (-37), 3) := by decide +kernel
theorem dX8_laysEnd_42 : decode cX8_laysEnd 42 = .ok (.return_, 1) := by decide +kernel
theorem dX8_game_0 : decode cX8_game 0 = .ok (.iload_n 1, 1) := by decide +kernel
theorem dX8_game_1 : decode cX8_game 1 = .ok (.iconst 0, 1) := by decide +kernel
theorem dX8_game_2 : decode cX8_game 2 = .ok (.iconst 1, 1) := by decide +kernel
theorem dX8_game_3 : decode cX8_game 3 = .ok (.invokestatic 115, 3) := by decide +kernel
theorem dX8_game_6 : decode cX8_game 6 = .ok (.ifCond .ne 5, 3) := by decide +kernel
theorem dX8_game_9 : decode cX8_game 9 = .ok (.iconst (-1), 1) := by decide +kernel
theorem dX8_game_10 : decode cX8_game 10 = .ok (.ireturn, 1) := by decide +kernel
theorem dX8_game_11 : decode cX8_game 11 = .ok (.iload_n 1, 1) := by decide +kernel
theorem dX8_game_12 : decode cX8_game 12 = .ok (.iconst 1, 1) := by decide +kernel
theorem dX8_game_13 : decode cX8_game 13 = .ok (.if_icmp .ne 23, 3) := by decide +kernel
theorem dX8_game_16 : decode cX8_game 16 = .ok (.aload_n 0, 1) := by decide +kernel
theorem dX8_game_17 : decode cX8_game 17 = .ok (.invokevirtual 293, 3) := by decide +kernel
theorem dX8_game_20 : decode cX8_game 20 = .ok (.iconst 2, 1) := by decide +kernel
theorem dX8_game_21 : decode cX8_game 21 = .ok (.if_icmp .lt 13, 3) := by decide +kernel
theorem dX8_game_24 : decode cX8_game 24 = .ok (.aload_n 0, 1) := by decide +kernel
theorem dX8_game_25 : decode cX8_game 25 = .ok (.getfield 28, 3) := by decide +kernel
theorem dX8_game_28 : decode cX8_game 28 = .ok (.bipush 17, 2) := by decide +kernel
theorem dX8_game_30 : decode cX8_game 30 = .ok (.iaload, 1) := by decide +kernel
theorem dX8_game_31 : decode cX8_game 31 = .ok (.ifCond .ne 5, 3) := by decide +kernel
theorem dX8_game_34 : decode cX8_game 34 = .ok (.iconst (-1), 1) := by decide +kernel
theorem dX8_game_35 : decode cX8_game 35 = .ok (.ireturn, 1) := by decide +kernel
theorem dX8_game_36 : decode cX8_game 36 = .ok (.aload_n 0, 1) := by decide +kernel
theorem dX8_game_37 : decode cX8_game 37 = .ok (.invokevirtual 409, 3) := by decide +kernel
theorem dX8_game_40 : decode cX8_game 40 = .ok (.istore_n 2, 1) := by decide +kernel
theorem dX8_game_41 : decode cX8_game 41 = .ok (.aload_n 0, 1) := by decide +kernel
theorem dX8_game_42 : decode cX8_game 42 = .ok (.invokevirtual 419, 3) := by decide +kernel
theorem dX8_game_45 : decode cX8_game 45 = .ok (.aload_n 0, 1) := by decide +kernel
theorem dX8_game_46 : decode cX8_game 46 = .ok (.iconst 0, 1) := by decide +kernel
theorem dX8_game_47 : decode cX8_game 47 = .ok (.invokevirtual 385, 3) := by decide +kernel
theorem dX8_game_50 : decode cX8_game 50 = .ok (.aload_n 0, 1) := by decide +kernel
theorem dX8_game_51 : decode cX8_game 51 = .ok (.invokevirtual 434, 3) := by decide +kernel
theorem dX8_game_54 : decode cX8_game 54 = .ok (.iconst 0, 1) := by decide +kernel
theorem dX8_game_55 : decode cX8_game 55 = .ok (.istore_n 3, 1) := by decide +kernel
theorem dX8_game_56 : decode cX8_game 56 = .ok (.iload_n 3, 1) := by decide +kernel
theorem dX8_game_57 : decode cX8_game 57 = .ok (.bipush 11, 2) := by decide +kernel
theorem dX8_game_59 : decode cX8_game 59 = .ok (.if_icmp .ge 16, 3) := by decide +kernel
theorem dX8_game_62 : decode cX8_game 62 = .ok (.aload_n 0, 1) := by decide +kernel
theorem dX8_game_63 : decode cX8_game 63 = .ok (.iload_n 3, 1) := by decide +kernel
theorem dX8_game_64 : decode cX8_game 64 = .ok (.iconst 2, 1) := by decide +kernel
theorem dX8_game_65 : decode cX8_game 65 = .ok (.irem, 1) := by decide +kernel
theorem dX8_game_66 : decode cX8_game 66 = .ok (.invokevirtual 437, 3) := by decide +kernel
theorem dX8_game_69 : decode cX8_game 69 = .ok (.iinc 3 1, 3) := by decide +kernel
theorem dX8_game_72 : decode cX8_game 72 = .ok (.goto (-16), 3) := by decide +kernel
theorem dX8_game_75 : decode cX8_game 75 = .ok (.aload_n 0, 1) := by decide +kernel
theorem dX8_game_76 : decode cX8_game 76 = .ok (.iload_n 2, 1) := by decide +kernel
theorem dX8_game_77 : decode cX8_game 77 = .ok (.iconst 1, 1) := by decide +kernel
theorem dX8_game_78 : decode cX8_game 78 = .ok (.invokevirtual 431, 3) := by decide +kernel
theorem dX8_game_81 : decode cX8_game 81 = .ok (.istore_n 3, 1) := by decide +kernel
theorem dX8_game_82 : decode cX8_game 82 = .ok (.aload_n 0, 1) := by decide +kernel
theorem dX8_game_83 : decode cX8_game 83 = .ok (.iconst 0, 1) := by decide +kernel
theorem dX8_game_84 : decode cX8_game 84 = .ok (.invokevirtual 394, 3) := by decide +kernel
theorem dX8_game_87 : decode cX8_game 87 = .ok (.iload_n 1, 1) := by decide +kernel
theorem dX8_game_88 : decode cX8_game 88 = .ok (.ifCond .ne 7, 3) := by decide +kernel
theorem dX8_game_91 : decode cX8_game 91 = .ok (.iload_n 3, 1) := by decide +kernel
theorem dX8_game_92 : decode cX8_game 92 = .ok (.goto 7, 3) := by decide +kernel
theorem dX8_game_95 : decode cX8_game 95 = .ok (.aload_n 0, 1) := by decide +kernel
theorem dX8_game_96 : decode cX8_game 96 = .ok (.getfield 428, 3) := by decide +kernel
theorem dX8_game_99 : decode cX8_game 99 = .ok (.ireturn, 1) := by decide +kernel
theorem dX8_spreadsPart_0 : decode cX8_spreadsPart 0 = .ok (.lload_n 2, 1) := by decide +kernel
theorem dX8_spreadsPart_1 : decode cX8_spreadsPart 1 = .ok (.lconst 0, 1) := by decide +kernel
theorem dX8_spreadsPart_2 : decode cX8_spreadsPart 2 = .ok (.lcmp, 1) := by decide +kernel
theorem dX8_spreadsPart_3 : decode cX8_spreadsPart 3 = .ok (.ifCond .ne 4, 3) := by decide +kernel
theorem dX8_spreadsPart_6 : decode cX8_spreadsPart 6 = .ok (.return_, 1) := by decide +kernel
theorem dX8_spreadsPart_7 : decode cX8_spreadsPart 7 = .ok (.iload_n 1, 1) := by decide +kernel
theorem dX8_spreadsPart_8 : decode cX8_spreadsPart 8 = .ok (.invokestatic 400, 3) := by decide +kernel
theorem dX8_spreadsPart_11 : decode cX8_spreadsPart 11 = .ok (.invokestatic 125, 3) := by decide +kernel
theorem dX8_spreadsPart_14 : decode cX8_spreadsPart 14 = .ok (.iconst 2, 1) := by decide +kernel
theorem dX8_spreadsPart_15 : decode cX8_spreadsPart 15 = .ok (.if_icmp .ge 17, 3) := by decide +kernel
theorem dX8_spreadsPart_18 : decode cX8_spreadsPart 18 = .ok (.aload_n 0, 1) := by decide +kernel
theorem dX8_spreadsPart_19 : decode cX8_spreadsPart 19 = .ok (.getfield 99, 3) := by decide +kernel
theorem dX8_spreadsPart_22 : decode cX8_spreadsPart 22 = .ok (.iload 4, 2) := by decide +kernel
theorem dX8_spreadsPart_24 : decode cX8_spreadsPart 24 = .ok (.iload_n 1, 1) := by decide +kernel
theorem dX8_spreadsPart_25 : decode cX8_spreadsPart 25 = .ok (.iadd, 1) := by decide +kernel
theorem dX8_spreadsPart_26 : decode cX8_spreadsPart 26 = .ok (.dup2, 1) := by decide +kernel
theorem dX8_spreadsPart_27 : decode cX8_spreadsPart 27 = .ok (.laload, 1) := by decide +kernel
theorem dX8_spreadsPart_28 : decode cX8_spreadsPart 28 = .ok (.lload_n 2, 1) := by decide +kernel
theorem dX8_spreadsPart_29 : decode cX8_spreadsPart 29 = .ok (.ladd, 1) := by decide +kernel
theorem dX8_spreadsPart_30 : decode cX8_spreadsPart 30 = .ok (.lastore, 1) := by decide +kernel
theorem dX8_spreadsPart_31 : decode cX8_spreadsPart 31 = .ok (.return_, 1) := by decide +kernel
theorem dX8_spreadsPart_32 : decode cX8_spreadsPart 32 = .ok (.iconst 0, 1) := by decide +kernel
theorem dX8_spreadsPart_33 : decode cX8_spreadsPart 33 = .ok (.istore 5, 2) := by decide +kernel
theorem dX8_spreadsPart_35 : decode cX8_spreadsPart 35 = .ok (.iload 5, 2) := by decide +kernel
theorem dX8_spreadsPart_37 : decode cX8_spreadsPart 37 = .ok (.aload_n 0, 1) := by decide +kernel
theorem dX8_spreadsPart_38 : decode cX8_spreadsPart 38 = .ok (.getfield 28, 3) := by decide +kernel
theorem dX8_spreadsPart_41 : decode cX8_spreadsPart 41 = .ok (.bipush 17, 2) := by decide +kernel
theorem dX8_spreadsPart_43 : decode cX8_spreadsPart 43 = .ok (.iaload, 1) := by decide +kernel
theorem dX8_spreadsPart_44 : decode cX8_spreadsPart 44 = .ok (.if_icmp .ge 41, 3) := by decide +kernel
theorem dX8_spreadsPart_47 : decode cX8_spreadsPart 47 = .ok (.aload_n 0, 1) := by decide +kernel
theorem dX8_spreadsPart_48 : decode cX8_spreadsPart 48 = .ok (.getfield 99, 3) := by decide +kernel
theorem dX8_spreadsPart_51 : decode cX8_spreadsPart 51 = .ok (.iload 4, 2) := by decide +kernel
theorem dX8_spreadsPart_53 : decode cX8_spreadsPart 53 = .ok (.aload_n 0, 1) := by decide +kernel
theorem dX8_spreadsPart_54 : decode cX8_spreadsPart 54 = .ok (.getfield 78, 3) := by decide +kernel
theorem dX8_spreadsPart_57 : decode cX8_spreadsPart 57 = .ok (.iconst 5, 1) := by decide +kernel
theorem dX8_spreadsPart_58 : decode cX8_spreadsPart 58 = .ok (.iload_n 1, 1) := by decide +kernel
theorem dX8_spreadsPart_59 : decode cX8_spreadsPart 59 = .ok (.imul, 1) := by decide +kernel
theorem dX8_spreadsPart_60 : decode cX8_spreadsPart 60 = .ok (.iload 5, 2) := by decide +kernel
theorem dX8_spreadsPart_62 : decode cX8_spreadsPart 62 = .ok (.iadd, 1) := by decide +kernel
theorem dX8_spreadsPart_63 : decode cX8_spreadsPart 63 = .ok (.iaload, 1) := by decide +kernel
theorem dX8_spreadsPart_64 : decode cX8_spreadsPart 64 = .ok (.iadd, 1) := by decide +kernel
theorem dX8_spreadsPart_65 : decode cX8_spreadsPart 65 = .ok (.dup2, 1) := by decide +kernel
theorem dX8_spreadsPart_66 : decode cX8_spreadsPart 66 = .ok (.laload, 1) := by decide +kernel
theorem dX8_spreadsPart_67 : decode cX8_spreadsPart 67 = .ok (.lload_n 2, 1) := by decide +kernel
theorem dX8_spreadsPart_68 : decode cX8_spreadsPart 68 = .ok (.aload_n 0, 1) := by decide +kernel
theorem dX8_spreadsPart_69 : decode cX8_spreadsPart 69 = .ok (.getfield 28, 3) := by decide +kernel
theorem dX8_spreadsPart_72 : decode cX8_spreadsPart 72 = .ok (.bipush 17, 2) := by decide +kernel
theorem dX8_spreadsPart_74 : decode cX8_spreadsPart 74 = .ok (.iaload, 1) := by decide +kernel
theorem dX8_spreadsPart_75 : decode cX8_spreadsPart 75 = .ok (.i2l, 1) := by decide +kernel
theorem dX8_spreadsPart_76 : decode cX8_spreadsPart 76 = .ok (.ldiv, 1) := by decide +kernel
theorem dX8_spreadsPart_77 : decode cX8_spreadsPart 77 = .ok (.ladd, 1) := by decide +kernel
theorem dX8_spreadsPart_78 : decode cX8_spreadsPart 78 = .ok (.lastore, 1) := by decide +kernel
theorem dX8_spreadsPart_79 : decode cX8_spreadsPart 79 = .ok (.iinc 5 1, 3) := by decide +kernel
theorem dX8_spreadsPart_82 : decode cX8_spreadsPart 82 = .ok (.goto (-47), 3) := by decide +kernel
theorem dX8_spreadsPart_85 : decode cX8_spreadsPart 85 = .ok (.return_, 1) := by decide +kernel
theorem dX8_spreads_0 : decode cX8_spreads 0 = .ok (.sipush 384, 3) := by decide +kernel
theorem dX8_spreads_3 : decode cX8_spreads 3 = .ok (.iconst 1, 1) := by decide +kernel
theorem dX8_spreads_4 : decode cX8_spreads 4 = .ok (.iload_n 1, 1) := by decide +kernel
theorem dX8_spreads_5 : decode cX8_spreads 5 = .ok (.isub, 1) := by decide +kernel
theorem dX8_spreads_6 : decode cX8_spreads 6 = .ok (.imul, 1) := by decide +kernel
theorem dX8_spreads_7 : decode cX8_spreads 7 = .ok (.istore_n 2, 1) := by decide +kernel
theorem dX8_spreads_8 : decode cX8_spreads 8 = .ok (.iconst 0, 1) := by decide +kernel
theorem dX8_spreads_9 : decode cX8_spreads 9 = .ok (.istore_n 3, 1) := by decide +kernel
theorem dX8_spreads_10 : decode cX8_spreads 10 = .ok (.iload_n 3, 1) := by decide +kernel
theorem dX8_spreads_11 : decode cX8_spreads 11 = .ok (.sipush 384, 3) := by decide +kernel
theorem dX8_spreads_14 : decode cX8_spreads 14 = .ok (.if_icmp .ge 18, 3) := by decide +kernel
theorem dX8_spreads_17 : decode cX8_spreads 17 = .ok (.aload_n 0, 1) := by decide +kernel
theorem dX8_spreads_18 : decode cX8_spreads 18 = .ok (.getfield 99, 3) := by decide +kernel
theorem dX8_spreads_21 : decode cX8_spreads 21 = .ok (.iload_n 2, 1) := by decide +kernel
theorem dX8_spreads_22 : decode cX8_spreads 22 = .ok (.iload_n 3, 1) := by decide +kernel
theorem dX8_spreads_23 : decode cX8_spreads 23 = .ok (.iadd, 1) := by decide +kernel
theorem dX8_spreads_24 : decode cX8_spreads 24 = .ok (.lconst 0, 1) := by decide +kernel
theorem dX8_spreads_25 : decode cX8_spreads 25 = .ok (.lastore, 1) := by decide +kernel
theorem dX8_spreads_26 : decode cX8_spreads 26 = .ok (.iinc 3 1, 3) := by decide +kernel
theorem dX8_spreads_29 : decode cX8_spreads 29 = .ok (.goto (-19), 3) := by decide +kernel
theorem dX8_spreads_32 : decode cX8_spreads 32 = .ok (.iconst 0, 1) := by decide +kernel
theorem dX8_spreads_33 : decode cX8_spreads 33 = .ok (.istore_n 3, 1) := by decide +kernel
theorem dX8_spreads_34 : decode cX8_spreads 34 = .ok (.iload_n 3, 1) := by decide +kernel
theorem dX8_spreads_35 : decode cX8_spreads 35 = .ok (.sipush 384, 3) := by decide +kernel
theorem dX8_spreads_38 : decode cX8_spreads 38 = .ok (.if_icmp .ge 27, 3) := by decide +kernel
theorem dX8_spreads_41 : decode cX8_spreads 41 = .ok (.aload_n 0, 1) := by decide +kernel
theorem dX8_spreads_42 : decode cX8_spreads 42 = .ok (.iload_n 3, 1) := by decide +kernel
theorem dX8_spreads_43 : decode cX8_spreads 43 = .ok (.aload_n 0, 1) := by decide +kernel
theorem dX8_spreads_44 : decode cX8_spreads 44 = .ok (.getfield 99, 3) := by decide +kernel
theorem dX8_spreads_47 : decode cX8_spreads 47 = .ok (.sipush 384, 3) := by decide +kernel
theorem dX8_spreads_50 : decode cX8_spreads 50 = .ok (.iload_n 1, 1) := by decide +kernel
theorem dX8_spreads_51 : decode cX8_spreads 51 = .ok (.imul, 1) := by decide +kernel
theorem dX8_spreads_52 : decode cX8_spreads 52 = .ok (.iload_n 3, 1) := by decide +kernel
theorem dX8_spreads_53 : decode cX8_spreads 53 = .ok (.iadd, 1) := by decide +kernel
theorem dX8_spreads_54 : decode cX8_spreads 54 = .ok (.laload, 1) := by decide +kernel
theorem dX8_spreads_55 : decode cX8_spreads 55 = .ok (.iload_n 2, 1) := by decide +kernel
theorem dX8_spreads_56 : decode cX8_spreads 56 = .ok (.invokevirtual 440, 3) := by decide +kernel
theorem dX8_spreads_59 : decode cX8_spreads 59 = .ok (.iinc 3 1, 3) := by decide +kernel
theorem dX8_spreads_62 : decode cX8_spreads 62 = .ok (.goto (-28), 3) := by decide +kernel
theorem dX8_spreads_65 : decode cX8_spreads 65 = .ok (.return_, 1) := by decide +kernel
theorem dX8_partsOf_0 : decode cX8_partsOf 0 = .ok (.lconst 0, 1) := by decide +kernel
theorem dX8_partsOf_1 : decode cX8_partsOf 1 = .ok (.lstore_n 3, 1) := by decide +kernel
theorem dX8_partsOf_2 : decode cX8_partsOf 2 = .ok (.iconst 0, 1) := by decide +kernel
theorem dX8_partsOf_3 : decode cX8_partsOf 3 = .ok (.istore 5, 2) := by decide +kernel
theorem dX8_partsOf_5 : decode cX8_partsOf 5 = .ok (.iload 5, 2) := by decide +kernel
theorem dX8_partsOf_7 : decode cX8_partsOf 7 = .ok (.sipush 384, 3) := by decide +kernel
theorem dX8_partsOf_10 : decode cX8_partsOf 10 = .ok (.if_icmp .ge 40, 3) := by decide +kernel
theorem dX8_partsOf_13 : decode cX8_partsOf 13 = .ok (.iload 5, 2) := by decide +kernel
theorem dX8_partsOf_15 : decode cX8_partsOf 15 = .ok (.invokestatic 400, 3) := by decide +kernel
theorem dX8_partsOf_18 : decode cX8_partsOf 18 = .ok (.iload_n 1, 1) := by decide +kernel
theorem dX8_partsOf_19 : decode cX8_partsOf 19 = .ok (.invokestatic 18, 3) := by decide +kernel
theorem dX8_partsOf_22 : decode cX8_partsOf 22 = .ok (.ifCond .ne 6, 3) := by decide +kernel
theorem dX8_partsOf_25 : decode cX8_partsOf 25 = .ok (.goto 19, 3) := by decide +kernel
theorem dX8_partsOf_28 : decode cX8_partsOf 28 = .ok (.lload_n 3, 1) := by decide +kernel
theorem dX8_partsOf_29 : decode cX8_partsOf 29 = .ok (.aload_n 0, 1) := by decide +kernel
theorem dX8_partsOf_30 : decode cX8_partsOf 30 = .ok (.getfield 99, 3) := by decide +kernel
theorem dX8_partsOf_33 : decode cX8_partsOf 33 = .ok (.sipush 384, 3) := by decide +kernel
theorem dX8_partsOf_36 : decode cX8_partsOf 36 = .ok (.iload_n 2, 1) := by decide +kernel
theorem dX8_partsOf_37 : decode cX8_partsOf 37 = .ok (.imul, 1) := by decide +kernel
theorem dX8_partsOf_38 : decode cX8_partsOf 38 = .ok (.iload 5, 2) := by decide +kernel
theorem dX8_partsOf_40 : decode cX8_partsOf 40 = .ok (.iadd, 1) := by decide +kernel
theorem dX8_partsOf_41 : decode cX8_partsOf 41 = .ok (.laload, 1) := by decide +kernel
theorem dX8_partsOf_42 : decode cX8_partsOf 42 = .ok (.ladd, 1) := by decide +kernel
theorem dX8_partsOf_43 : decode cX8_partsOf 43 = .ok (.lstore_n 3, 1) := by decide +kernel
theorem dX8_partsOf_44 : decode cX8_partsOf 44 = .ok (.iinc 5 1, 3) := by decide +kernel
theorem dX8_partsOf_47 : decode cX8_partsOf 47 = .ok (.goto (-42), 3) := by decide +kernel
theorem dX8_partsOf_50 : decode cX8_partsOf 50 = .ok (.lload_n 3, 1) := by decide +kernel
theorem dX8_partsOf_51 : decode cX8_partsOf 51 = .ok (.lreturn, 1) := by decide +kernel
theorem dX8_chances_0 : decode cX8_chances 0 = .ok (.aload_n 0, 1) := by decide +kernel
theorem dX8_chances_1 : decode cX8_chances 1 = .ok (.iload_n 1, 1) := by decide +kernel
theorem dX8_chances_2 : decode cX8_chances 2 = .ok (.invokevirtual 132, 3) := by decide +kernel
theorem dX8_chances_5 : decode cX8_chances 5 = .ok (.ifCond .eq 23, 3) := by decide +kernel
theorem dX8_chances_8 : decode cX8_chances 8 = .ok (.iload_n 2, 1) := by decide +kernel
theorem dX8_chances_9 : decode cX8_chances 9 = .ok (.iconst 0, 1) := by decide +kernel
theorem dX8_chances_10 : decode cX8_chances 10 = .ok (.bipush 20, 2) := by decide +kernel
theorem dX8_chances_12 : decode cX8_chances 12 = .ok (.invokestatic 115, 3) := by decide +kernel
theorem dX8_chances_15 : decode cX8_chances 15 = .ok (.ifCond .eq 13, 3) := by decide +kernel
theorem dX8_chances_18 : decode cX8_chances 18 = .ok (.aload_n 0, 1) := by decide +kernel
theorem dX8_chances_19 : decode cX8_chances 19 = .ok (.getfield 28, 3) := by decide +kernel
theorem dX8_chances_22 : decode cX8_chances 22 = .ok (.bipush 17, 2) := by decide +kernel
theorem dX8_chances_24 : decode cX8_chances 24 = .ok (.iaload, 1) := by decide +kernel
theorem dX8_chances_25 : decode cX8_chances 25 = .ok (.ifCond .ne 7, 3) := by decide +kernel
theorem dX8_chances_28 : decode cX8_chances 28 = .ok (.ldc2_w 444, 3) := by decide +kernel
theorem dX8_chances_31 : decode cX8_chances 31 = .ok (.lreturn, 1) := by decide +kernel
theorem dX8_chances_32 : decode cX8_chances 32 = .ok (.aload_n 0, 1) := by decide +kernel
theorem dX8_chances_33 : decode cX8_chances 33 = .ok (.invokevirtual 419, 3) := by decide +kernel
theorem dX8_chances_36 : decode cX8_chances 36 = .ok (.iconst 0, 1) := by decide +kernel
theorem dX8_chances_37 : decode cX8_chances 37 = .ok (.istore_n 3, 1) := by decide +kernel
theorem dX8_chances_38 : decode cX8_chances 38 = .ok (.iload_n 3, 1) := by decide +kernel
theorem dX8_chances_39 : decode cX8_chances 39 = .ok (.sipush 768, 3) := by decide +kernel
theorem dX8_chances_42 : decode cX8_chances 42 = .ok (.if_icmp .ge 16, 3) := by decide +kernel
theorem dX8_chances_45 : decode cX8_chances 45 = .ok (.aload_n 0, 1) := by decide +kernel
theorem dX8_chances_46 : decode cX8_chances 46 = .ok (.getfield 99, 3) := by decide +kernel
theorem dX8_chances_49 : decode cX8_chances 49 = .ok (.iload_n 3, 1) := by decide +kernel
theorem dX8_chances_50 : decode cX8_chances 50 = .ok (.lconst 0, 1) := by decide +kernel
theorem dX8_chances_51 : decode cX8_chances 51 = .ok (.lastore, 1) := by decide +kernel
theorem dX8_chances_52 : decode cX8_chances 52 = .ok (.iinc 3 1, 3) := by decide +kernel
theorem dX8_chances_55 : decode cX8_chances 55 = .ok (.goto (-17), 3) := by decide +kernel
theorem dX8_chances_58 : decode cX8_chances 58 = .ok (.aload_n 0, 1) := by decide +kernel
theorem dX8_chances_59 : decode cX8_chances 59 = .ok (.getfield 99, 3) := by decide +kernel
theorem dX8_chances_62 : decode cX8_chances 62 = .ok (.aload_n 0, 1) := by decide +kernel
theorem dX8_chances_63 : decode cX8_chances 63 = .ok (.invokevirtual 409, 3) := by decide +kernel
theorem dX8_chances_66 : decode cX8_chances 66 = .ok (.ldc2_w 446, 3) := by decide +kernel
theorem dX8_chances_69 : decode cX8_chances 69 = .ok (.lastore, 1) := by decide +kernel
theorem dX8_chances_70 : decode cX8_chances 70 = .ok (.iconst 0, 1) := by decide +kernel
theorem dX8_chances_71 : decode cX8_chances 71 = .ok (.istore_n 3, 1) := by decide +kernel
theorem dX8_chances_72 : decode cX8_chances 72 = .ok (.iload_n 3, 1) := by decide +kernel
theorem dX8_chances_73 : decode cX8_chances 73 = .ok (.iload_n 2, 1) := by decide +kernel
theorem dX8_chances_74 : decode cX8_chances 74 = .ok (.if_icmp .ge 16, 3) := by decide +kernel
theorem dX8_chances_77 : decode cX8_chances 77 = .ok (.aload_n 0, 1) := by decide +kernel
theorem dX8_chances_78 : decode cX8_chances 78 = .ok (.iload_n 3, 1) := by decide +kernel
theorem dX8_chances_79 : decode cX8_chances 79 = .ok (.iconst 2, 1) := by decide +kernel
theorem dX8_chances_80 : decode cX8_chances 80 = .ok (.irem, 1) := by decide +kernel
theorem dX8_chances_81 : decode cX8_chances 81 = .ok (.invokevirtual 448, 3) := by decide +kernel
theorem dX8_chances_84 : decode cX8_chances 84 = .ok (.iinc 3 1, 3) := by decide +kernel
theorem dX8_chances_87 : decode cX8_chances 87 = .ok (.goto (-15), 3) := by decide +kernel
theorem dX8_chances_90 : decode cX8_chances 90 = .ok (.aload_n 0, 1) := by decide +kernel
theorem dX8_chances_91 : decode cX8_chances 91 = .ok (.iload_n 1, 1) := by decide +kernel
theorem dX8_chances_92 : decode cX8_chances 92 = .ok (.iload_n 2, 1) := by decide +kernel
theorem dX8_chances_93 : decode cX8_chances 93 = .ok (.iconst 2, 1) := by decide +kernel
theorem dX8_chances_94 : decode cX8_chances 94 = .ok (.irem, 1) := by decide +kernel
theorem dX8_chances_95 : decode cX8_chances 95 = .ok (.invokevirtual 451, 3) := by decide +kernel
theorem dX8_chances_98 : decode cX8_chances 98 = .ok (.lreturn, 1) := by decide +kernel
theorem dX8_laysRow_0 : decode cX8_laysRow 0 = .ok (.iload_n 1, 1) := by decide +kernel
theorem dX8_laysRow_1 : decode cX8_laysRow 1 = .ok (.istore_n 3, 1) := by decide +kernel
theorem dX8_laysRow_2 : decode cX8_laysRow 2 = .ok (.iload_n 2, 1) := by decide +kernel
theorem dX8_laysRow_3 : decode cX8_laysRow 3 = .ok (.iconst 1, 1) := by decide +kernel
theorem dX8_laysRow_4 : decode cX8_laysRow 4 = .ok (.isub, 1) := by decide +kernel
theorem dX8_laysRow_5 : decode cX8_laysRow 5 = .ok (.istore 4, 2) := by decide +kernel
theorem dX8_laysRow_7 : decode cX8_laysRow 7 = .ok (.iload 4, 2) := by decide +kernel
theorem dX8_laysRow_9 : decode cX8_laysRow 9 = .ok (.ifCond .lt 35, 3) := by decide +kernel
theorem dX8_laysRow_12 : decode cX8_laysRow 12 = .ok (.aload_n 0, 1) := by decide +kernel
theorem dX8_laysRow_13 : decode cX8_laysRow 13 = .ok (.getfield 103, 3) := by decide +kernel
theorem dX8_laysRow_16 : decode cX8_laysRow 16 = .ok (.iload 4, 2) := by decide +kernel
theorem dX8_laysRow_18 : decode cX8_laysRow 18 = .ok (.iload_n 3, 1) := by decide +kernel
theorem dX8_laysRow_19 : decode cX8_laysRow 19 = .ok (.aload_n 0, 1) := by decide +kernel
theorem dX8_laysRow_20 : decode cX8_laysRow 20 = .ok (.getfield 28, 3) := by decide +kernel
theorem dX8_laysRow_23 : decode cX8_laysRow 23 = .ok (.bipush 17, 2) := by decide +kernel
theorem dX8_laysRow_25 : decode cX8_laysRow 25 = .ok (.iaload, 1) := by decide +kernel
theorem dX8_laysRow_26 : decode cX8_laysRow 26 = .ok (.irem, 1) := by decide +kernel
theorem dX8_laysRow_27 : decode cX8_laysRow 27 = .ok (.iastore, 1) := by decide +kernel
theorem dX8_laysRow_28 : decode cX8_laysRow 28 = .ok (.iload_n 3, 1) := by decide +kernel
theorem dX8_laysRow_29 : decode cX8_laysRow 29 = .ok (.aload_n 0, 1) := by decide +kernel
theorem dX8_laysRow_30 : decode cX8_laysRow 30 = .ok (.getfield 28, 3) := by decide +kernel
theorem dX8_laysRow_33 : decode cX8_laysRow 33 = .ok (.bipush 17, 2) := by decide +kernel
theorem dX8_laysRow_35 : decode cX8_laysRow 35 = .ok (.iaload, 1) := by decide +kernel
theorem dX8_laysRow_36 : decode cX8_laysRow 36 = .ok (.idiv, 1) := by decide +kernel
theorem dX8_laysRow_37 : decode cX8_laysRow 37 = .ok (.istore_n 3, 1) := by decide +kernel
theorem dX8_laysRow_38 : decode cX8_laysRow 38 = .ok (.iinc 4 (-1), 3) := by decide +kernel
theorem dX8_laysRow_41 : decode cX8_laysRow 41 = .ok (.goto (-34), 3) := by decide +kernel
theorem dX8_laysRow_44 : decode cX8_laysRow 44 = .ok (.return_, 1) := by decide +kernel
theorem dX8_endOf_0 : decode cX8_endOf 0 = .ok (.bipush 6, 2) := by decide +kernel
theorem dX8_endOf_2 : decode cX8_endOf 2 = .ok (.aload_n 0, 1) := by decide +kernel
theorem dX8_endOf_3 : decode cX8_endOf 3 = .ok (.invokevirtual 349, 3) := by decide +kernel
theorem dX8_endOf_6 : decode cX8_endOf 6 = .ok (.imul, 1) := by decide +kernel
theorem dX8_endOf_7 : decode cX8_endOf 7 = .ok (.istore_n 2, 1) := by decide +kernel
theorem dX8_endOf_8 : decode cX8_endOf 8 = .ok (.iconst 0, 1) := by decide +kernel
theorem dX8_endOf_9 : decode cX8_endOf 9 = .ok (.istore_n 3, 1) := by decide +kernel
theorem dX8_endOf_10 : decode cX8_endOf 10 = .ok (.iload_n 3, 1) := by decide +kernel
theorem dX8_endOf_11 : decode cX8_endOf 11 = .ok (.iload_n 1, 1) := by decide +kernel
theorem dX8_endOf_12 : decode cX8_endOf 12 = .ok (.if_icmp .ge 38, 3) := by decide +kernel
theorem dX8_endOf_15 : decode cX8_endOf 15 = .ok (.iload_n 2, 1) := by decide +kernel
theorem dX8_endOf_16 : decode cX8_endOf 16 = .ok (.invokestatic 400, 3) := by decide +kernel
theorem dX8_endOf_19 : decode cX8_endOf 19 = .ok (.invokestatic 125, 3) := by decide +kernel
theorem dX8_endOf_22 : decode cX8_endOf 22 = .ok (.iconst 2, 1) := by decide +kernel
theorem dX8_endOf_23 : decode cX8_endOf 23 = .ok (.if_icmp .ge 5, 3) := by decide +kernel
theorem dX8_endOf_26 : decode cX8_endOf 26 = .ok (.iconst (-1), 1) := by decide +kernel
theorem dX8_endOf_27 : decode cX8_endOf 27 = .ok (.ireturn, 1) := by decide +kernel
theorem dX8_endOf_28 : decode cX8_endOf 28 = .ok (.aload_n 0, 1) := by decide +kernel
theorem dX8_endOf_29 : decode cX8_endOf 29 = .ok (.getfield 78, 3) := by decide +kernel
theorem dX8_endOf_32 : decode cX8_endOf 32 = .ok (.iconst 5, 1) := by decide +kernel
theorem dX8_endOf_33 : decode cX8_endOf 33 = .ok (.iload_n 2, 1) := by decide +kernel
theorem dX8_endOf_34 : decode cX8_endOf 34 = .ok (.imul, 1) := by decide +kernel
theorem dX8_endOf_35 : decode cX8_endOf 35 = .ok (.aload_n 0, 1) := by decide +kernel
theorem dX8_endOf_36 : decode cX8_endOf 36 = .ok (.getfield 103, 3) := by decide +kernel
theorem dX8_endOf_39 : decode cX8_endOf 39 = .ok (.iload_n 3, 1) := by decide +kernel
theorem dX8_endOf_40 : decode cX8_endOf 40 = .ok (.iaload, 1) := by decide +kernel
theorem dX8_endOf_41 : decode cX8_endOf 41 = .ok (.iadd, 1) := by decide +kernel
theorem dX8_endOf_42 : decode cX8_endOf 42 = .ok (.iaload, 1) := by decide +kernel
theorem dX8_endOf_43 : decode cX8_endOf 43 = .ok (.istore_n 2, 1) := by decide +kernel
theorem dX8_endOf_44 : decode cX8_endOf 44 = .ok (.iinc 3 1, 3) := by decide +kernel
theorem dX8_endOf_47 : decode cX8_endOf 47 = .ok (.goto (-37), 3) := by decide +kernel
theorem dX8_endOf_50 : decode cX8_endOf 50 = .ok (.iload_n 2, 1) := by decide +kernel
theorem dX8_endOf_51 : decode cX8_endOf 51 = .ok (.ireturn, 1) := by decide +kernel
theorem dX8_rowsOf_0 : decode cX8_rowsOf 0 = .ok (.iconst 1, 1) := by decide +kernel
theorem dX8_rowsOf_1 : decode cX8_rowsOf 1 = .ok (.istore_n 2, 1) := by decide +kernel
theorem dX8_rowsOf_2 : decode cX8_rowsOf 2 = .ok (.iconst 0, 1) := by decide +kernel
theorem dX8_rowsOf_3 : decode cX8_rowsOf 3 = .ok (.istore_n 3, 1) := by decide +kernel
theorem dX8_rowsOf_4 : decode cX8_rowsOf 4 = .ok (.iload_n 3, 1) := by decide +kernel
theorem dX8_rowsOf_5 : decode cX8_rowsOf 5 = .ok (.iload_n 1, 1) := by decide +kernel
theorem dX8_rowsOf_6 : decode cX8_rowsOf 6 = .ok (.if_icmp .ge 19, 3) := by decide +kernel
theorem dX8_rowsOf_9 : decode cX8_rowsOf 9 = .ok (.iload_n 2, 1) := by decide +kernel
theorem dX8_rowsOf_10 : decode cX8_rowsOf 10 = .ok (.aload_n 0, 1) := by decide +kernel
theorem dX8_rowsOf_11 : decode cX8_rowsOf 11 = .ok (.getfield 28, 3) := by decide +kernel
theorem dX8_rowsOf_14 : decode cX8_rowsOf 14 = .ok (.bipush 17, 2) := by decide +kernel
theorem dX8_rowsOf_16 : decode cX8_rowsOf 16 = .ok (.iaload, 1) := by decide +kernel
theorem dX8_rowsOf_17 : decode cX8_rowsOf 17 = .ok (.imul, 1) := by decide +kernel
theorem dX8_rowsOf_18 : decode cX8_rowsOf 18 = .ok (.istore_n 2, 1) := by decide +kernel
theorem dX8_rowsOf_19 : decode cX8_rowsOf 19 = .ok (.iinc 3 1, 3) := by decide +kernel
theorem dX8_rowsOf_22 : decode cX8_rowsOf 22 = .ok (.goto (-18), 3) := by decide +kernel
theorem dX8_rowsOf_25 : decode cX8_rowsOf 25 = .ok (.iload_n 2, 1) := by decide +kernel
theorem dX8_rowsOf_26 : decode cX8_rowsOf 26 = .ok (.ireturn, 1) := by decide +kernel
theorem dX8_said_0 : decode cX8_said 0 = .ok (.iload_n 1, 1) := by decide +kernel
theorem dX8_said_1 : decode cX8_said 1 = .ok (.iconst 0, 1) := by decide +kernel
theorem dX8_said_2 : decode cX8_said 2 = .ok (.iconst 4, 1) := by decide +kernel
theorem dX8_said_3 : decode cX8_said 3 = .ok (.invokestatic 115, 3) := by decide +kernel
theorem dX8_said_6 : decode cX8_said 6 = .ok (.ifCond .eq 24, 3) := by decide +kernel
theorem dX8_said_9 : decode cX8_said 9 = .ok (.iload_n 2, 1) := by decide +kernel
theorem dX8_said_10 : decode cX8_said 10 = .ok (.iconst (-1), 1) := by decide +kernel
theorem dX8_said_11 : decode cX8_said 11 = .ok (.if_icmp .lt 19, 3) := by decide +kernel
theorem dX8_said_14 : decode cX8_said 14 = .ok (.iload_n 2, 1) := by decide +kernel
theorem dX8_said_15 : decode cX8_said 15 = .ok (.iconst (-1), 1) := by decide +kernel
theorem dX8_said_16 : decode cX8_said 16 = .ok (.if_icmp .le 16, 3) := by decide +kernel
theorem dX8_said_19 : decode cX8_said 19 = .ok (.iload_n 3, 1) := by decide +kernel
theorem dX8_said_20 : decode cX8_said 20 = .ok (.iconst 0, 1) := by decide +kernel
theorem dX8_said_21 : decode cX8_said 21 = .ok (.iload_n 1, 1) := by decide +kernel
theorem dX8_said_22 : decode cX8_said 22 = .ok (.iconst 1, 1) := by decide +kernel
theorem dX8_said_23 : decode cX8_said 23 = .ok (.isub, 1) := by decide +kernel
theorem dX8_said_24 : decode cX8_said 24 = .ok (.invokestatic 115, 3) := by decide +kernel
theorem dX8_said_27 : decode cX8_said 27 = .ok (.ifCond .ne 5, 3) := by decide +kernel
theorem dX8_said_30 : decode cX8_said 30 = .ok (.iconst (-1), 1) := by decide +kernel
theorem dX8_said_31 : decode cX8_said 31 = .ok (.ireturn, 1) := by decide +kernel
theorem dX8_said_32 : decode cX8_said 32 = .ok (.aload_n 0, 1) := by decide +kernel
theorem dX8_said_33 : decode cX8_said 33 = .ok (.invokevirtual 419, 3) := by decide +kernel
theorem dX8_said_36 : decode cX8_said 36 = .ok (.iconst 0, 1) := by decide +kernel
theorem dX8_said_37 : decode cX8_said 37 = .ok (.istore 4, 2) := by decide +kernel
theorem dX8_said_39 : decode cX8_said 39 = .ok (.iconst 0, 1) := by decide +kernel
theorem dX8_said_40 : decode cX8_said 40 = .ok (.istore 5, 2) := by decide +kernel
theorem dX8_said_42 : decode cX8_said 42 = .ok (.iload 5, 2) := by decide +kernel
theorem dX8_said_44 : decode cX8_said 44 = .ok (.aload_n 0, 1) := by decide +kernel
theorem dX8_said_45 : decode cX8_said 45 = .ok (.iload_n 1, 1) := by decide +kernel
theorem dX8_said_46 : decode cX8_said 46 = .ok (.invokevirtual 455, 3) := by decide +kernel
theorem dX8_said_49 : decode cX8_said 49 = .ok (.if_icmp .ge 47, 3) := by decide +kernel
theorem dX8_said_52 : decode cX8_said 52 = .ok (.aload_n 0, 1) := by decide +kernel
theorem dX8_said_53 : decode cX8_said 53 = .ok (.iload 5, 2) := by decide +kernel
theorem dX8_said_55 : decode cX8_said 55 = .ok (.iload_n 1, 1) := by decide +kernel
theorem dX8_said_56 : decode cX8_said 56 = .ok (.invokevirtual 458, 3) := by decide +kernel
theorem dX8_said_59 : decode cX8_said 59 = .ok (.aload_n 0, 1) := by decide +kernel
theorem dX8_said_60 : decode cX8_said 60 = .ok (.iload_n 1, 1) := by decide +kernel
theorem dX8_said_61 : decode cX8_said 61 = .ok (.invokevirtual 461, 3) := by decide +kernel
theorem dX8_said_64 : decode cX8_said 64 = .ok (.aload_n 0, 1) := by decide +kernel
theorem dX8_said_65 : decode cX8_said 65 = .ok (.invokevirtual 409, 3) := by decide +kernel
theorem dX8_said_68 : decode cX8_said 68 = .ok (.if_icmp .eq 6, 3) := by decide +kernel
theorem dX8_said_71 : decode cX8_said 71 = .ok (.goto 19, 3) := by decide +kernel
theorem dX8_said_74 : decode cX8_said 74 = .ok (.iload 4, 2) := by decide +kernel
theorem dX8_said_76 : decode cX8_said 76 = .ok (.iload_n 2, 1) := by decide +kernel
theorem dX8_said_77 : decode cX8_said 77 = .ok (.if_icmp .ne 10, 3) := by decide +kernel
theorem dX8_said_80 : decode cX8_said 80 = .ok (.aload_n 0, 1) := by decide +kernel
theorem dX8_said_81 : decode cX8_said 81 = .ok (.getfield 103, 3) := by decide +kernel
theorem dX8_said_84 : decode cX8_said 84 = .ok (.iload_n 3, 1) := by decide +kernel
theorem dX8_said_85 : decode cX8_said 85 = .ok (.iaload, 1) := by decide +kernel
theorem dX8_said_86 : decode cX8_said 86 = .ok (.ireturn, 1) := by decide +kernel
theorem dX8_said_87 : decode cX8_said 87 = .ok (.iinc 4 1, 3) := by decide +kernel
theorem dX8_said_90 : decode cX8_said 90 = .ok (.iinc 5 1, 3) := by decide +kernel
theorem dX8_said_93 : decode cX8_said 93 = .ok (.goto (-51), 3) := by decide +kernel
theorem dX8_said_96 : decode cX8_said 96 = .ok (.iload_n 2, 1) := by decide +kernel
theorem dX8_said_97 : decode cX8_said 97 = .ok (.iconst (-1), 1) := by decide +kernel
theorem dX8_said_98 : decode cX8_said 98 = .ok (.if_icmp .ne 8, 3) := by decide +kernel
theorem dX8_said_101 : decode cX8_said 101 = .ok (.iload 4, 2) := by decide +kernel
theorem dX8_said_103 : decode cX8_said 103 = .ok (.goto 4, 3) := by decide +kernel
theorem dX8_said_106 : decode cX8_said 106 = .ok (.iconst (-1), 1) := by decide +kernel
theorem dX8_said_107 : decode cX8_said 107 = .ok (.ireturn, 1) := by decide +kernel
theorem dX8_stopped_0 : decode cX8_stopped 0 = .ok (.aload_n 0, 1) := by decide +kernel
theorem dX8_stopped_1 : decode cX8_stopped 1 = .ok (.getfield 106, 3) := by decide +kernel
theorem dX8_stopped_4 : decode cX8_stopped 4 = .ok (.ireturn, 1) := by decide +kernel
theorem dX8_laysAllAside_0 : decode cX8_laysAllAside 0 = .ok (.aload_n 0, 1) := by decide +kernel
theorem dX8_laysAllAside_1 : decode cX8_laysAllAside 1 = .ok (.iconst 1, 1) := by decide +kernel
theorem dX8_laysAllAside_2 : decode cX8_laysAllAside 2 = .ok (.invokevirtual 385, 3) := by decide +kernel
theorem dX8_laysAllAside_5 : decode cX8_laysAllAside 5 = .ok (.iconst 0, 1) := by decide +kernel
theorem dX8_laysAllAside_6 : decode cX8_laysAllAside 6 = .ok (.istore_n 1, 1) := by decide +kernel
theorem dX8_laysAllAside_7 : decode cX8_laysAllAside 7 = .ok (.iload_n 1, 1) := by decide +kernel
theorem dX8_laysAllAside_8 : decode cX8_laysAllAside 8 = .ok (.bipush 64, 2) := by decide +kernel
theorem dX8_laysAllAside_10 : decode cX8_laysAllAside 10 = .ok (.if_icmp .ge 21, 3) := by decide +kernel
theorem dX8_laysAllAside_13 : decode cX8_laysAllAside 13 = .ok (.aload_n 0, 1) := by decide +kernel
theorem dX8_laysAllAside_14 : decode cX8_laysAllAside 14 = .ok (.getfield 72, 3) := by decide +kernel
theorem dX8_laysAllAside_17 : decode cX8_laysAllAside 17 = .ok (.iload_n 1, 1) := by decide +kernel
theorem dX8_laysAllAside_18 : decode cX8_laysAllAside 18 = .ok (.aload_n 0, 1) := by decide +kernel
theorem dX8_laysAllAside_19 : decode cX8_laysAllAside 19 = .ok (.getfield 69, 3) := by decide +kernel
theorem dX8_laysAllAside_22 : decode cX8_laysAllAside 22 = .ok (.iload_n 1, 1) := by decide +kernel
theorem dX8_laysAllAside_23 : decode cX8_laysAllAside 23 = .ok (.iaload, 1) := by decide +kernel
theorem dX8_laysAllAside_24 : decode cX8_laysAllAside 24 = .ok (.iastore, 1) := by decide +kernel
theorem dX8_laysAllAside_25 : decode cX8_laysAllAside 25 = .ok (.iinc 1 1, 3) := by decide +kernel
theorem dX8_laysAllAside_28 : decode cX8_laysAllAside 28 = .ok (.goto (-21), 3) := by decide +kernel
theorem dX8_laysAllAside_31 : decode cX8_laysAllAside 31 = .ok (.aload_n 0, 1) := by decide +kernel
theorem dX8_laysAllAside_32 : decode cX8_laysAllAside 32 = .ok (.aload_n 0, 1) := by decide +kernel
theorem dX8_laysAllAside_33 : decode cX8_laysAllAside 33 = .ok (.getfield 11, 3) := by decide +kernel
theorem dX8_laysAllAside_36 : decode cX8_laysAllAside 36 = .ok (.putfield 464, 3) := by decide +kernel
theorem dX8_laysAllAside_39 : decode cX8_laysAllAside 39 = .ok (.return_, 1) := by decide +kernel
theorem dX8_takesAllBack_0 : decode cX8_takesAllBack 0 = .ok (.aload_n 0, 1) := by decide +kernel
theorem dX8_takesAllBack_1 : decode cX8_takesAllBack 1 = .ok (.iconst 1, 1) := by decide +kernel
theorem dX8_takesAllBack_2 : decode cX8_takesAllBack 2 = .ok (.invokevirtual 394, 3) := by decide +kernel
theorem dX8_takesAllBack_5 : decode cX8_takesAllBack 5 = .ok (.iconst 0, 1) := by decide +kernel
theorem dX8_takesAllBack_6 : decode cX8_takesAllBack 6 = .ok (.istore_n 1, 1) := by decide +kernel
theorem dX8_takesAllBack_7 : decode cX8_takesAllBack 7 = .ok (.iload_n 1, 1) := by decide +kernel
theorem dX8_takesAllBack_8 : decode cX8_takesAllBack 8 = .ok (.bipush 64, 2) := by decide +kernel
theorem dX8_takesAllBack_10 : decode cX8_takesAllBack 10 = .ok (.if_icmp .ge 21, 3) := by decide +kernel
theorem dX8_takesAllBack_13 : decode cX8_takesAllBack 13 = .ok (.aload_n 0, 1) := by decide +kernel
theorem dX8_takesAllBack_14 : decode cX8_takesAllBack 14 = .ok (.getfield 69, 3) := by decide +kernel
theorem dX8_takesAllBack_17 : decode cX8_takesAllBack 17 = .ok (.iload_n 1, 1) := by decide +kernel
theorem dX8_takesAllBack_18 : decode cX8_takesAllBack 18 = .ok (.aload_n 0, 1) := by decide +kernel
theorem dX8_takesAllBack_19 : decode cX8_takesAllBack 19 = .ok (.getfield 72, 3) := by decide +kernel
theorem dX8_takesAllBack_22 : decode cX8_takesAllBack 22 = .ok (.iload_n 1, 1) := by decide +kernel
theorem dX8_takesAllBack_23 : decode cX8_takesAllBack 23 = .ok (.iaload, 1) := by decide +kernel
theorem dX8_takesAllBack_24 : decode cX8_takesAllBack 24 = .ok (.iastore, 1) := by decide +kernel
theorem dX8_takesAllBack_25 : decode cX8_takesAllBack 25 = .ok (.iinc 1 1, 3) := by decide +kernel
theorem dX8_takesAllBack_28 : decode cX8_takesAllBack 28 = .ok (.goto (-21), 3) := by decide +kernel
theorem dX8_takesAllBack_31 : decode cX8_takesAllBack 31 = .ok (.aload_n 0, 1) := by decide +kernel
theorem dX8_takesAllBack_32 : decode cX8_takesAllBack 32 = .ok (.aload_n 0, 1) := by decide +kernel
theorem dX8_takesAllBack_33 : decode cX8_takesAllBack 33 = .ok (.getfield 464, 3) := by decide +kernel
theorem dX8_takesAllBack_36 : decode cX8_takesAllBack 36 = .ok (.putfield 11, 3) := by decide +kernel
theorem dX8_takesAllBack_39 : decode cX8_takesAllBack 39 = .ok (.return_, 1) := by decide +kernel
theorem dX8_orders_0 : decode cX8_orders 0 = .ok (.aload_n 0, 1) := by decide +kernel
theorem dX8_orders_1 : decode cX8_orders 1 = .ok (.iconst (-1), 1) := by decide +kernel
theorem dX8_orders_2 : decode cX8_orders 2 = .ok (.putfield 106, 3) := by decide +kernel
theorem dX8_orders_5 : decode cX8_orders 5 = .ok (.aload_n 0, 1) := by decide +kernel
theorem dX8_orders_6 : decode cX8_orders 6 = .ok (.iconst 1, 1) := by decide +kernel
theorem dX8_orders_7 : decode cX8_orders 7 = .ok (.invokevirtual 241, 3) := by decide +kernel
theorem dX8_orders_10 : decode cX8_orders 10 = .ok (.ifCond .ne 10, 3) := by decide +kernel
theorem dX8_orders_13 : decode cX8_orders 13 = .ok (.aload_n 0, 1) := by decide +kernel
theorem dX8_orders_14 : decode cX8_orders 14 = .ok (.bipush (-6), 2) := by decide +kernel
theorem dX8_orders_16 : decode cX8_orders 16 = .ok (.invokevirtual 119, 3) := by decide +kernel
theorem dX8_orders_19 : decode cX8_orders 19 = .ok (.ireturn, 1) := by decide +kernel
theorem dX8_orders_20 : decode cX8_orders 20 = .ok (.aload_n 0, 1) := by decide +kernel
theorem dX8_orders_21 : decode cX8_orders 21 = .ok (.invokevirtual 467, 3) := by decide +kernel
theorem dX8_orders_24 : decode cX8_orders 24 = .ok (.aload_n 0, 1) := by decide +kernel
theorem dX8_orders_25 : decode cX8_orders 25 = .ok (.bipush 6, 2) := by decide +kernel
theorem dX8_orders_27 : decode cX8_orders 27 = .ok (.invokevirtual 245, 3) := by decide +kernel
theorem dX8_orders_30 : decode cX8_orders 30 = .ok (.aload_n 0, 1) := by decide +kernel
theorem dX8_orders_31 : decode cX8_orders 31 = .ok (.iconst 0, 1) := by decide +kernel
theorem dX8_orders_32 : decode cX8_orders 32 = .ok (.putfield 297, 3) := by decide +kernel
theorem dX8_orders_35 : decode cX8_orders 35 = .ok (.aload_n 0, 1) := by decide +kernel
theorem dX8_orders_36 : decode cX8_orders 36 = .ok (.iconst (-1), 1) := by decide +kernel
theorem dX8_orders_37 : decode cX8_orders 37 = .ok (.putfield 300, 3) := by decide +kernel
theorem dX8_orders_40 : decode cX8_orders 40 = .ok (.aload_n 0, 1) := by decide +kernel
theorem dX8_orders_41 : decode cX8_orders 41 = .ok (.sipush 2400, 3) := by decide +kernel
theorem dX8_orders_44 : decode cX8_orders 44 = .ok (.putfield 470, 3) := by decide +kernel
theorem dX8_orders_47 : decode cX8_orders 47 = .ok (.aload_n 0, 1) := by decide +kernel
theorem dX8_orders_48 : decode cX8_orders 48 = .ok (.getfield 470, 3) := by decide +kernel
theorem dX8_orders_51 : decode cX8_orders 51 = .ok (.aload_n 0, 1) := by decide +kernel
theorem dX8_orders_52 : decode cX8_orders 52 = .ok (.getfield 28, 3) := by decide +kernel
theorem dX8_orders_55 : decode cX8_orders 55 = .ok (.bipush 26, 2) := by decide +kernel
theorem dX8_orders_57 : decode cX8_orders 57 = .ok (.iaload, 1) := by decide +kernel
theorem dX8_orders_58 : decode cX8_orders 58 = .ok (.iadd, 1) := by decide +kernel
theorem dX8_orders_59 : decode cX8_orders 59 = .ok (.istore_n 1, 1) := by decide +kernel
theorem dX8_orders_60 : decode cX8_orders 60 = .ok (.iconst 0, 1) := by decide +kernel
theorem dX8_orders_61 : decode cX8_orders 61 = .ok (.istore_n 2, 1) := by decide +kernel
theorem dX8_orders_62 : decode cX8_orders 62 = .ok (.aload_n 0, 1) := by decide +kernel
theorem dX8_orders_63 : decode cX8_orders 63 = .ok (.getfield 470, 3) := by decide +kernel
theorem dX8_orders_66 : decode cX8_orders 66 = .ok (.iload_n 1, 1) := by decide +kernel
theorem dX8_orders_67 : decode cX8_orders 67 = .ok (.if_icmp .ge 36, 3) := by decide +kernel
theorem dX8_orders_70 : decode cX8_orders 70 = .ok (.aload_n 0, 1) := by decide +kernel
theorem dX8_orders_71 : decode cX8_orders 71 = .ok (.iload_n 1, 1) := by decide +kernel
theorem dX8_orders_72 : decode cX8_orders 72 = .ok (.invokevirtual 473, 3) := by decide +kernel
theorem dX8_orders_75 : decode cX8_orders 75 = .ok (.ifCond .eq 6, 3) := by decide +kernel
theorem dX8_orders_78 : decode cX8_orders 78 = .ok (.goto 19, 3) := by decide +kernel
theorem dX8_orders_81 : decode cX8_orders 81 = .ok (.aload_n 0, 1) := by decide +kernel
theorem dX8_orders_82 : decode cX8_orders 82 = .ok (.invokevirtual 476, 3) := by decide +kernel
theorem dX8_orders_85 : decode cX8_orders 85 = .ok (.aload_n 0, 1) := by decide +kernel
theorem dX8_orders_86 : decode cX8_orders 86 = .ok (.iload_n 2, 1) := by decide +kernel
theorem dX8_orders_87 : decode cX8_orders 87 = .ok (.putfield 106, 3) := by decide +kernel
theorem dX8_orders_90 : decode cX8_orders 90 = .ok (.aload_n 0, 1) := by decide +kernel
theorem dX8_orders_91 : decode cX8_orders 91 = .ok (.bipush (-3), 2) := by decide +kernel
theorem dX8_orders_93 : decode cX8_orders 93 = .ok (.invokevirtual 119, 3) := by decide +kernel
theorem dX8_orders_96 : decode cX8_orders 96 = .ok (.ireturn, 1) := by decide +kernel
theorem dX8_orders_97 : decode cX8_orders 97 = .ok (.iinc 2 1, 3) := by decide +kernel
theorem dX8_orders_100 : decode cX8_orders 100 = .ok (.goto (-38), 3) := by decide +kernel
theorem dX8_orders_103 : decode cX8_orders 103 = .ok (.aload_n 0, 1) := by decide +kernel
theorem dX8_orders_104 : decode cX8_orders 104 = .ok (.aload_n 0, 1) := by decide +kernel
theorem dX8_orders_105 : decode cX8_orders 105 = .ok (.getfield 297, 3) := by decide +kernel
theorem dX8_orders_108 : decode cX8_orders 108 = .ok (.invokevirtual 14, 3) := by decide +kernel
theorem dX8_orders_111 : decode cX8_orders 111 = .ok (.ireturn, 1) := by decide +kernel
theorem dX8_goesAlong_0 : decode cX8_goesAlong 0 = .ok (.aload_n 0, 1) := by decide +kernel
theorem dX8_goesAlong_1 : decode cX8_goesAlong 1 = .ok (.iconst 1, 1) := by decide +kernel
theorem dX8_goesAlong_2 : decode cX8_goesAlong 2 = .ok (.putfield 284, 3) := by decide +kernel
theorem dX8_goesAlong_5 : decode cX8_goesAlong 5 = .ok (.aload_n 0, 1) := by decide +kernel
theorem dX8_goesAlong_6 : decode cX8_goesAlong 6 = .ok (.iload_n 1, 1) := by decide +kernel
theorem dX8_goesAlong_7 : decode cX8_goesAlong 7 = .ok (.putfield 251, 3) := by decide +kernel
theorem dX8_goesAlong_10 : decode cX8_goesAlong 10 = .ok (.aload_n 0, 1) := by decide +kernel
theorem dX8_goesAlong_11 : decode cX8_goesAlong 11 = .ok (.aload_n 0, 1) := by decide +kernel
theorem dX8_goesAlong_12 : decode cX8_goesAlong 12 = .ok (.getfield 470, 3) := by decide +kernel
theorem dX8_goesAlong_15 : decode cX8_goesAlong 15 = .ok (.putfield 254, 3) := by decide +kernel
theorem dX8_goesAlong_18 : decode cX8_goesAlong 18 = .ok (.aload_n 0, 1) := by decide +kernel
theorem dX8_goesAlong_19 : decode cX8_goesAlong 19 = .ok (.aload_n 0, 1) := by decide +kernel
theorem dX8_goesAlong_20 : decode cX8_goesAlong 20 = .ok (.aload_n 0, 1) := by decide +kernel
theorem dX8_goesAlong_21 : decode cX8_goesAlong 21 = .ok (.getfield 254, 3) := by decide +kernel
theorem dX8_goesAlong_24 : decode cX8_goesAlong 24 = .ok (.invokevirtual 257, 3) := by decide +kernel
theorem dX8_goesAlong_27 : decode cX8_goesAlong 27 = .ok (.putfield 479, 3) := by decide +kernel
theorem dX8_goesAlong_30 : decode cX8_goesAlong 30 = .ok (.aload_n 0, 1) := by decide +kernel
theorem dX8_goesAlong_31 : decode cX8_goesAlong 31 = .ok (.dup, 1) := by decide +kernel
theorem dX8_goesAlong_32 : decode cX8_goesAlong 32 = .ok (.getfield 254, 3) := by decide +kernel
theorem dX8_goesAlong_35 : decode cX8_goesAlong 35 = .ok (.iconst 1, 1) := by decide +kernel
theorem dX8_goesAlong_36 : decode cX8_goesAlong 36 = .ok (.iadd, 1) := by decide +kernel
theorem dX8_goesAlong_37 : decode cX8_goesAlong 37 = .ok (.putfield 254, 3) := by decide +kernel
theorem dX8_goesAlong_40 : decode cX8_goesAlong 40 = .ok (.aload_n 0, 1) := by decide +kernel
theorem dX8_goesAlong_41 : decode cX8_goesAlong 41 = .ok (.iconst 0, 1) := by decide +kernel
theorem dX8_goesAlong_42 : decode cX8_goesAlong 42 = .ok (.putfield 264, 3) := by decide +kernel
theorem dX8_goesAlong_45 : decode cX8_goesAlong 45 = .ok (.aload_n 0, 1) := by decide +kernel
theorem dX8_goesAlong_46 : decode cX8_goesAlong 46 = .ok (.aload_n 0, 1) := by decide +kernel
theorem dX8_goesAlong_47 : decode cX8_goesAlong 47 = .ok (.getfield 479, 3) := by decide +kernel
theorem dX8_goesAlong_50 : decode cX8_goesAlong 50 = .ok (.bipush 23, 2) := by decide +kernel
theorem dX8_goesAlong_52 : decode cX8_goesAlong 52 = .ok (.if_icmp .ne 7, 3) := by decide +kernel
theorem dX8_goesAlong_55 : decode cX8_goesAlong 55 = .ok (.lconst 0, 1) := by decide +kernel
theorem dX8_goesAlong_56 : decode cX8_goesAlong 56 = .ok (.goto 8, 3) := by decide +kernel
theorem dX8_goesAlong_59 : decode cX8_goesAlong 59 = .ok (.aload_n 0, 1) := by decide +kernel
theorem dX8_goesAlong_60 : decode cX8_goesAlong 60 = .ok (.iload_n 2, 1) := by decide +kernel
theorem dX8_goesAlong_61 : decode cX8_goesAlong 61 = .ok (.invokevirtual 281, 3) := by decide +kernel
theorem dX8_goesAlong_64 : decode cX8_goesAlong 64 = .ok (.putfield 482, 3) := by decide +kernel
theorem dX8_goesAlong_67 : decode cX8_goesAlong 67 = .ok (.aload_n 0, 1) := by decide +kernel
theorem dX8_goesAlong_68 : decode cX8_goesAlong 68 = .ok (.aload_n 0, 1) := by decide +kernel
theorem dX8_goesAlong_69 : decode cX8_goesAlong 69 = .ok (.getfield 264, 3) := by decide +kernel
theorem dX8_goesAlong_72 : decode cX8_goesAlong 72 = .ok (.ifCond .ne 7, 3) := by decide +kernel
theorem dX8_goesAlong_75 : decode cX8_goesAlong 75 = .ok (.iconst 1, 1) := by decide +kernel
theorem dX8_goesAlong_76 : decode cX8_goesAlong 76 = .ok (.goto 4, 3) := by decide +kernel
theorem dX8_goesAlong_79 : decode cX8_goesAlong 79 = .ok (.iconst 0, 1) := by decide +kernel
theorem dX8_goesAlong_80 : decode cX8_goesAlong 80 = .ok (.putfield 486, 3) := by decide +kernel
theorem dX8_goesAlong_83 : decode cX8_goesAlong 83 = .ok (.aload_n 0, 1) := by decide +kernel
theorem dX8_goesAlong_84 : decode cX8_goesAlong 84 = .ok (.iconst 1, 1) := by decide +kernel
theorem dX8_goesAlong_85 : decode cX8_goesAlong 85 = .ok (.putfield 489, 3) := by decide +kernel
theorem dX8_goesAlong_88 : decode cX8_goesAlong 88 = .ok (.aload_n 0, 1) := by decide +kernel
theorem dX8_goesAlong_89 : decode cX8_goesAlong 89 = .ok (.bipush 24, 2) := by decide +kernel
theorem dX8_goesAlong_91 : decode cX8_goesAlong 91 = .ok (.invokevirtual 278, 3) := by decide +kernel
theorem dX8_goesAlong_94 : decode cX8_goesAlong 94 = .ok (.ifCond .eq 30, 3) := by decide +kernel
theorem dX8_goesAlong_97 : decode cX8_goesAlong 97 = .ok (.aload_n 0, 1) := by decide +kernel
theorem dX8_goesAlong_98 : decode cX8_goesAlong 98 = .ok (.aload_n 0, 1) := by decide +kernel
theorem dX8_goesAlong_99 : decode cX8_goesAlong 99 = .ok (.getfield 28, 3) := by decide +kernel
theorem dX8_goesAlong_102 : decode cX8_goesAlong 102 = .ok (.sipush 2827, 3) := by decide +kernel
theorem dX8_goesAlong_105 : decode cX8_goesAlong 105 = .ok (.aload_n 0, 1) := by decide +kernel
theorem dX8_goesAlong_106 : decode cX8_goesAlong 106 = .ok (.getfield 254, 3) := by decide +kernel
theorem dX8_goesAlong_109 : decode cX8_goesAlong 109 = .ok (.iadd, 1) := by decide +kernel
theorem dX8_goesAlong_110 : decode cX8_goesAlong 110 = .ok (.iaload, 1) := by decide +kernel
theorem dX8_goesAlong_111 : decode cX8_goesAlong 111 = .ok (.putfield 489, 3) := by decide +kernel
theorem dX8_goesAlong_114 : decode cX8_goesAlong 114 = .ok (.aload_n 0, 1) := by decide +kernel
theorem dX8_goesAlong_115 : decode cX8_goesAlong 115 = .ok (.dup, 1) := by decide +kernel
theorem dX8_goesAlong_116 : decode cX8_goesAlong 116 = .ok (.getfield 254, 3) := by decide +kernel
theorem dX8_goesAlong_119 : decode cX8_goesAlong 119 = .ok (.iconst 1, 1) := by decide +kernel
theorem dX8_goesAlong_120 : decode cX8_goesAlong 120 = .ok (.iadd, 1) := by decide +kernel
theorem dX8_goesAlong_121 : decode cX8_goesAlong 121 = .ok (.putfield 254, 3) := by decide +kernel
theorem dX8_goesAlong_124 : decode cX8_goesAlong 124 = .ok (.aload_n 0, 1) := by decide +kernel
theorem dX8_goesAlong_125 : decode cX8_goesAlong 125 = .ok (.iconst 0, 1) := by decide +kernel
theorem dX8_goesAlong_126 : decode cX8_goesAlong 126 = .ok (.putfield 264, 3) := by decide +kernel
theorem dX8_goesAlong_129 : decode cX8_goesAlong 129 = .ok (.aload_n 0, 1) := by decide +kernel
theorem dX8_goesAlong_130 : decode cX8_goesAlong 130 = .ok (.aload_n 0, 1) := by decide +kernel
theorem dX8_goesAlong_131 : decode cX8_goesAlong 131 = .ok (.iconst 5, 1) := by decide +kernel
theorem dX8_goesAlong_132 : decode cX8_goesAlong 132 = .ok (.invokevirtual 278, 3) := by decide +kernel
theorem dX8_goesAlong_135 : decode cX8_goesAlong 135 = .ok (.ifCond .eq 11, 3) := by decide +kernel
theorem dX8_goesAlong_138 : decode cX8_goesAlong 138 = .ok (.aload_n 0, 1) := by decide +kernel
theorem dX8_goesAlong_139 : decode cX8_goesAlong 139 = .ok (.iload_n 2, 1) := by decide +kernel
theorem dX8_goesAlong_140 : decode cX8_goesAlong 140 = .ok (.invokevirtual 312, 3) := by decide +kernel
theorem dX8_goesAlong_143 : decode cX8_goesAlong 143 = .ok (.ifCond .eq 7, 3) := by decide +kernel
theorem dX8_goesAlong_146 : decode cX8_goesAlong 146 = .ok (.iconst 1, 1) := by decide +kernel
theorem dX8_goesAlong_147 : decode cX8_goesAlong 147 = .ok (.goto 4, 3) := by decide +kernel
theorem dX8_goesAlong_150 : decode cX8_goesAlong 150 = .ok (.iconst 0, 1) := by decide +kernel
theorem dX8_goesAlong_151 : decode cX8_goesAlong 151 = .ok (.putfield 492, 3) := by decide +kernel
theorem dX8_goesAlong_154 : decode cX8_goesAlong 154 = .ok (.aload_n 0, 1) := by decide +kernel
theorem dX8_goesAlong_155 : decode cX8_goesAlong 155 = .ok (.aload_n 0, 1) := by decide +kernel
theorem dX8_goesAlong_156 : decode cX8_goesAlong 156 = .ok (.getfield 492, 3) := by decide +kernel
theorem dX8_goesAlong_159 : decode cX8_goesAlong 159 = .ok (.ifCond .eq 14, 3) := by decide +kernel
theorem dX8_goesAlong_162 : decode cX8_goesAlong 162 = .ok (.aload_n 0, 1) := by decide +kernel
theorem dX8_goesAlong_163 : decode cX8_goesAlong 163 = .ok (.getfield 264, 3) := by decide +kernel
theorem dX8_goesAlong_166 : decode cX8_goesAlong 166 = .ok (.ifCond .ne 7, 3) := by decide +kernel
theorem dX8_goesAlong_169 : decode cX8_goesAlong 169 = .ok (.iconst 1, 1) := by decide +kernel
theorem dX8_goesAlong_170 : decode cX8_goesAlong 170 = .ok (.goto 4, 3) := by decide +kernel
theorem dX8_goesAlong_173 : decode cX8_goesAlong 173 = .ok (.iconst 0, 1) := by decide +kernel
theorem dX8_goesAlong_174 : decode cX8_goesAlong 174 = .ok (.putfield 492, 3) := by decide +kernel
theorem dX8_goesAlong_177 : decode cX8_goesAlong 177 = .ok (.aload_n 0, 1) := by decide +kernel
theorem dX8_goesAlong_178 : decode cX8_goesAlong 178 = .ok (.dup, 1) := by decide +kernel
theorem dX8_goesAlong_179 : decode cX8_goesAlong 179 = .ok (.getfield 254, 3) := by decide +kernel
theorem dX8_goesAlong_182 : decode cX8_goesAlong 182 = .ok (.iconst 1, 1) := by decide +kernel
theorem dX8_goesAlong_183 : decode cX8_goesAlong 183 = .ok (.iadd, 1) := by decide +kernel
theorem dX8_goesAlong_184 : decode cX8_goesAlong 184 = .ok (.putfield 254, 3) := by decide +kernel
theorem dX8_goesAlong_187 : decode cX8_goesAlong 187 = .ok (.return_, 1) := by decide +kernel
theorem dX8_small_0 : decode cX8_small 0 = .ok (.lload_n 0, 1) := by decide +kernel
theorem dX8_small_1 : decode cX8_small 1 = .ok (.lconst 0, 1) := by decide +kernel
theorem dX8_small_2 : decode cX8_small 2 = .ok (.lcmp, 1) := by decide +kernel
theorem dX8_small_3 : decode cX8_small 3 = .ok (.ifCond .lt 11, 3) := by decide +kernel
theorem dX8_small_6 : decode cX8_small 6 = .ok (.lload_n 0, 1) := by decide +kernel
theorem dX8_small_7 : decode cX8_small 7 = .ok (.ldc2_w 495, 3) := by decide +kernel
theorem dX8_small_10 : decode cX8_small 10 = .ok (.lcmp, 1) := by decide +kernel
theorem dX8_small_11 : decode cX8_small 11 = .ok (.ifCond .le 7, 3) := by decide +kernel
theorem dX8_small_14 : decode cX8_small 14 = .ok (.iconst (-1), 1) := by decide +kernel
theorem dX8_small_15 : decode cX8_small 15 = .ok (.goto 5, 3) := by decide +kernel
theorem dX8_small_18 : decode cX8_small 18 = .ok (.lload_n 0, 1) := by decide +kernel
theorem dX8_small_19 : decode cX8_small 19 = .ok (.l2i, 1) := by decide +kernel
theorem dX8_small_20 : decode cX8_small 20 = .ok (.ireturn, 1) := by decide +kernel
theorem dX8_obeys_0 : decode cX8_obeys 0 = .ok (.aload_n 0, 1) := by decide +kernel
theorem dX8_obeys_1 : decode cX8_obeys 1 = .ok (.getfield 479, 3) := by decide +kernel
theorem dX8_obeys_4 : decode cX8_obeys 4 = .ok (.tableswitch 57 21 23 #[28, 40, 52], 28) := by decide +kernel
theorem dX8_obeys_32 : decode cX8_obeys 32 = .ok (.aload_n 0, 1) := by decide +kernel
theorem dX8_obeys_33 : decode cX8_obeys 33 = .ok (.aload_n 0, 1) := by decide +kernel
theorem dX8_obeys_34 : decode cX8_obeys 34 = .ok (.getfield 482, 3) := by decide +kernel
theorem dX8_obeys_37 : decode cX8_obeys 37 = .ok (.invokestatic 497, 3) := by decide +kernel
theorem dX8_obeys_40 : decode cX8_obeys 40 = .ok (.invokevirtual 373, 3) := by decide +kernel
theorem dX8_obeys_43 : decode cX8_obeys 43 = .ok (.ireturn, 1) := by decide +kernel
theorem dX8_obeys_44 : decode cX8_obeys 44 = .ok (.aload_n 0, 1) := by decide +kernel
theorem dX8_obeys_45 : decode cX8_obeys 45 = .ok (.aload_n 0, 1) := by decide +kernel
theorem dX8_obeys_46 : decode cX8_obeys 46 = .ok (.getfield 482, 3) := by decide +kernel
theorem dX8_obeys_49 : decode cX8_obeys 49 = .ok (.invokestatic 497, 3) := by decide +kernel
theorem dX8_obeys_52 : decode cX8_obeys 52 = .ok (.invokevirtual 376, 3) := by decide +kernel
theorem dX8_obeys_55 : decode cX8_obeys 55 = .ok (.ireturn, 1) := by decide +kernel
theorem dX8_obeys_56 : decode cX8_obeys 56 = .ok (.aload_n 0, 1) := by decide +kernel
theorem dX8_obeys_57 : decode cX8_obeys 57 = .ok (.invokevirtual 379, 3) := by decide +kernel
theorem dX8_obeys_60 : decode cX8_obeys 60 = .ok (.ireturn, 1) := by decide +kernel
theorem dX8_obeys_61 : decode cX8_obeys 61 = .ok (.aload_n 0, 1) := by decide +kernel
theorem dX8_obeys_62 : decode cX8_obeys 62 = .ok (.aload_n 0, 1) := by decide +kernel
theorem dX8_obeys_63 : decode cX8_obeys 63 = .ok (.getfield 482, 3) := by decide +kernel
theorem dX8_obeys_66 : decode cX8_obeys 66 = .ok (.invokestatic 497, 3) := by decide +kernel
theorem dX8_obeys_69 : decode cX8_obeys 69 = .ok (.invokevirtual 367, 3) := by decide +kernel
theorem dX8_obeys_72 : decode cX8_obeys 72 = .ok (.istore_n 1, 1) := by decide +kernel
theorem dX8_obeys_73 : decode cX8_obeys 73 = .ok (.aload_n 0, 1) := by decide +kernel
theorem dX8_obeys_74 : decode cX8_obeys 74 = .ok (.iload_n 1, 1) := by decide +kernel
theorem dX8_obeys_75 : decode cX8_obeys 75 = .ok (.ifCond .ge 10, 3) := by decide +kernel
theorem dX8_obeys_78 : decode cX8_obeys 78 = .ok (.aload_n 0, 1) := by decide +kernel
theorem dX8_obeys_79 : decode cX8_obeys 79 = .ok (.getfield 300, 3) := by decide +kernel
theorem dX8_obeys_82 : decode cX8_obeys 82 = .ok (.goto 4, 3) := by decide +kernel
theorem dX8_obeys_85 : decode cX8_obeys 85 = .ok (.iload_n 1, 1) := by decide +kernel
theorem dX8_obeys_86 : decode cX8_obeys 86 = .ok (.putfield 300, 3) := by decide +kernel
theorem dX8_obeys_89 : decode cX8_obeys 89 = .ok (.iload_n 1, 1) := by decide +kernel
theorem dX8_obeys_90 : decode cX8_obeys 90 = .ok (.ireturn, 1) := by decide +kernel
theorem dX8_runs_0 : decode cX8_runs 0 = .ok (.aload_n 0, 1) := by decide +kernel
theorem dX8_runs_1 : decode cX8_runs 1 = .ok (.iload_n 1, 1) := by decide +kernel
theorem dX8_runs_2 : decode cX8_runs 2 = .ok (.iconst 0, 1) := by decide +kernel
theorem dX8_runs_3 : decode cX8_runs 3 = .ok (.invokevirtual 501, 3) := by decide +kernel
theorem dX8_runs_6 : decode cX8_runs 6 = .ok (.aload_n 0, 1) := by decide +kernel
theorem dX8_runs_7 : decode cX8_runs 7 = .ok (.getfield 489, 3) := by decide +kernel
theorem dX8_runs_10 : decode cX8_runs 10 = .ok (.istore_n 2, 1) := by decide +kernel
theorem dX8_runs_11 : decode cX8_runs 11 = .ok (.aload_n 0, 1) := by decide +kernel
theorem dX8_runs_12 : decode cX8_runs 12 = .ok (.getfield 254, 3) := by decide +kernel
theorem dX8_runs_15 : decode cX8_runs 15 = .ok (.istore_n 3, 1) := by decide +kernel
theorem dX8_runs_16 : decode cX8_runs 16 = .ok (.iconst 0, 1) := by decide +kernel
theorem dX8_runs_17 : decode cX8_runs 17 = .ok (.istore 4, 2) := by decide +kernel
theorem dX8_runs_19 : decode cX8_runs 19 = .ok (.iload 4, 2) := by decide +kernel
theorem dX8_runs_21 : decode cX8_runs 21 = .ok (.iload_n 2, 1) := by decide +kernel
theorem dX8_runs_22 : decode cX8_runs 22 = .ok (.if_icmp .ge 51, 3) := by decide +kernel
theorem dX8_runs_25 : decode cX8_runs 25 = .ok (.aload_n 0, 1) := by decide +kernel
theorem dX8_runs_26 : decode cX8_runs 26 = .ok (.iload_n 1, 1) := by decide +kernel
theorem dX8_runs_27 : decode cX8_runs 27 = .ok (.iconst 1, 1) := by decide +kernel
theorem dX8_runs_28 : decode cX8_runs 28 = .ok (.invokevirtual 501, 3) := by decide +kernel
theorem dX8_runs_31 : decode cX8_runs 31 = .ok (.aload_n 0, 1) := by decide +kernel
theorem dX8_runs_32 : decode cX8_runs 32 = .ok (.getfield 492, 3) := by decide +kernel
theorem dX8_runs_35 : decode cX8_runs 35 = .ok (.ifCond .ne 6, 3) := by decide +kernel
theorem dX8_runs_38 : decode cX8_runs 38 = .ok (.goto 29, 3) := by decide +kernel
theorem dX8_runs_41 : decode cX8_runs 41 = .ok (.aload_n 0, 1) := by decide +kernel
theorem dX8_runs_42 : decode cX8_runs 42 = .ok (.getfield 486, 3) := by decide +kernel
theorem dX8_runs_45 : decode cX8_runs 45 = .ok (.ifCond .eq 10, 3) := by decide +kernel
theorem dX8_runs_48 : decode cX8_runs 48 = .ok (.aload_n 0, 1) := by decide +kernel
theorem dX8_runs_49 : decode cX8_runs 49 = .ok (.invokevirtual 505, 3) := by decide +kernel
theorem dX8_runs_52 : decode cX8_runs 52 = .ok (.ifCond .ge 5, 3) := by decide +kernel
theorem dX8_runs_55 : decode cX8_runs 55 = .ok (.iconst 0, 1) := by decide +kernel
theorem dX8_runs_56 : decode cX8_runs 56 = .ok (.ireturn, 1) := by decide +kernel
theorem dX8_runs_57 : decode cX8_runs 57 = .ok (.aload_n 0, 1) := by decide +kernel
theorem dX8_runs_58 : decode cX8_runs 58 = .ok (.dup, 1) := by decide +kernel
theorem dX8_runs_59 : decode cX8_runs 59 = .ok (.getfield 297, 3) := by decide +kernel
theorem dX8_runs_62 : decode cX8_runs 62 = .ok (.iconst 1, 1) := by decide +kernel
theorem dX8_runs_63 : decode cX8_runs 63 = .ok (.iadd, 1) := by decide +kernel
theorem dX8_runs_64 : decode cX8_runs 64 = .ok (.putfield 297, 3) := by decide +kernel
theorem dX8_runs_67 : decode cX8_runs 67 = .ok (.iinc 4 1, 3) := by decide +kernel
theorem dX8_runs_70 : decode cX8_runs 70 = .ok (.goto (-51), 3) := by decide +kernel
theorem dX8_runs_73 : decode cX8_runs 73 = .ok (.aload_n 0, 1) := by decide +kernel
theorem dX8_runs_74 : decode cX8_runs 74 = .ok (.iload_n 3, 1) := by decide +kernel
theorem dX8_runs_75 : decode cX8_runs 75 = .ok (.putfield 470, 3) := by decide +kernel
theorem dX8_runs_78 : decode cX8_runs 78 = .ok (.iconst 1, 1) := by decide +kernel
theorem dX8_runs_79 : decode cX8_runs 79 = .ok (.ireturn, 1) := by decide +kernel
theorem dX8_draws_0 : decode cX8_draws 0 = .ok (.aload_n 0, 1) := by decide +kernel
theorem dX8_draws_1 : decode cX8_draws 1 = .ok (.ldc2_w 508, 3) := by decide +kernel
theorem dX8_draws_4 : decode cX8_draws 4 = .ok (.aload_n 0, 1) := by decide +kernel
theorem dX8_draws_5 : decode cX8_draws 5 = .ok (.getfield 510, 3) := by decide +kernel
theorem dX8_draws_8 : decode cX8_draws 8 = .ok (.i2l, 1) := by decide +kernel
theorem dX8_draws_9 : decode cX8_draws 9 = .ok (.lmul, 1) := by decide +kernel
theorem dX8_draws_10 : decode cX8_draws 10 = .ok (.ldc2_w 513, 3) := by decide +kernel
theorem dX8_draws_13 : decode cX8_draws 13 = .ok (.ladd, 1) := by decide +kernel
theorem dX8_draws_14 : decode cX8_draws 14 = .ok (.ldc2_w 515, 3) := by decide +kernel
theorem dX8_draws_17 : decode cX8_draws 17 = .ok (.lrem, 1) := by decide +kernel
theorem dX8_draws_18 : decode cX8_draws 18 = .ok (.l2i, 1) := by decide +kernel
theorem dX8_draws_19 : decode cX8_draws 19 = .ok (.putfield 510, 3) := by decide +kernel
theorem dX8_draws_22 : decode cX8_draws 22 = .ok (.aload_n 0, 1) := by decide +kernel
theorem dX8_draws_23 : decode cX8_draws 23 = .ok (.getfield 510, 3) := by decide +kernel
theorem dX8_draws_26 : decode cX8_draws 26 = .ok (.iload_n 1, 1) := by decide +kernel
theorem dX8_draws_27 : decode cX8_draws 27 = .ok (.irem, 1) := by decide +kernel
theorem dX8_draws_28 : decode cX8_draws 28 = .ok (.ireturn, 1) := by decide +kernel
theorem dX8_canGoOn_0 : decode cX8_canGoOn 0 = .ok (.aload_n 0, 1) := by decide +kernel
theorem dX8_canGoOn_1 : decode cX8_canGoOn 1 = .ok (.invokevirtual 352, 3) := by decide +kernel
theorem dX8_canGoOn_4 : decode cX8_canGoOn 4 = .ok (.ifCond .eq 5, 3) := by decide +kernel
theorem dX8_canGoOn_7 : decode cX8_canGoOn 7 = .ok (.iconst 1, 1) := by decide +kernel
theorem dX8_canGoOn_8 : decode cX8_canGoOn 8 = .ok (.ireturn, 1) := by decide +kernel
theorem dX8_canGoOn_9 : decode cX8_canGoOn 9 = .ok (.aload_n 0, 1) := by decide +kernel
theorem dX8_canGoOn_10 : decode cX8_canGoOn 10 = .ok (.getfield 28, 3) := by decide +kernel
theorem dX8_canGoOn_13 : decode cX8_canGoOn 13 = .ok (.iconst 2, 1) := by decide +kernel
theorem dX8_canGoOn_14 : decode cX8_canGoOn 14 = .ok (.iaload, 1) := by decide +kernel
theorem dX8_canGoOn_15 : decode cX8_canGoOn 15 = .ok (.sipush 999, 3) := by decide +kernel
theorem dX8_canGoOn_18 : decode cX8_canGoOn 18 = .ok (.if_icmp .ne 5, 3) := by decide +kernel
theorem dX8_canGoOn_21 : decode cX8_canGoOn 21 = .ok (.iconst 0, 1) := by decide +kernel
theorem dX8_canGoOn_22 : decode cX8_canGoOn 22 = .ok (.ireturn, 1) := by decide +kernel
theorem dX8_canGoOn_23 : decode cX8_canGoOn 23 = .ok (.aload_n 0, 1) := by decide +kernel
theorem dX8_canGoOn_24 : decode cX8_canGoOn 24 = .ok (.invokevirtual 364, 3) := by decide +kernel
theorem dX8_canGoOn_27 : decode cX8_canGoOn 27 = .ok (.aload_n 0, 1) := by decide +kernel
theorem dX8_canGoOn_28 : decode cX8_canGoOn 28 = .ok (.dup, 1) := by decide +kernel
theorem dX8_canGoOn_29 : decode cX8_canGoOn 29 = .ok (.getfield 517, 3) := by decide +kernel
theorem dX8_canGoOn_32 : decode cX8_canGoOn 32 = .ok (.iconst 1, 1) := by decide +kernel
theorem dX8_canGoOn_33 : decode cX8_canGoOn 33 = .ok (.iadd, 1) := by decide +kernel
theorem dX8_canGoOn_34 : decode cX8_canGoOn 34 = .ok (.putfield 517, 3) := by decide +kernel
theorem dX8_canGoOn_37 : decode cX8_canGoOn 37 = .ok (.aload_n 0, 1) := by decide +kernel
theorem dX8_canGoOn_38 : decode cX8_canGoOn 38 = .ok (.invokevirtual 352, 3) := by decide +kernel
theorem dX8_canGoOn_41 : decode cX8_canGoOn 41 = .ok (.ireturn, 1) := by decide +kernel
theorem dX8_saysDrawn_0 : decode cX8_saysDrawn 0 = .ok (.aload_n 0, 1) := by decide +kernel
theorem dX8_saysDrawn_1 : decode cX8_saysDrawn 1 = .ok (.aload_n 0, 1) := by decide +kernel
theorem dX8_saysDrawn_2 : decode cX8_saysDrawn 2 = .ok (.getfield 28, 3) := by decide +kernel
theorem dX8_saysDrawn_5 : decode cX8_saysDrawn 5 = .ok (.bipush 17, 2) := by decide +kernel
theorem dX8_saysDrawn_7 : decode cX8_saysDrawn 7 = .ok (.iaload, 1) := by decide +kernel
theorem dX8_saysDrawn_8 : decode cX8_saysDrawn 8 = .ok (.invokevirtual 520, 3) := by decide +kernel
theorem dX8_saysDrawn_11 : decode cX8_saysDrawn 11 = .ok (.istore_n 1, 1) := by decide +kernel
theorem dX8_saysDrawn_12 : decode cX8_saysDrawn 12 = .ok (.aload_n 0, 1) := by decide +kernel
theorem dX8_saysDrawn_13 : decode cX8_saysDrawn 13 = .ok (.iload_n 1, 1) := by decide +kernel
theorem dX8_saysDrawn_14 : decode cX8_saysDrawn 14 = .ok (.aload_n 0, 1) := by decide +kernel
theorem dX8_saysDrawn_15 : decode cX8_saysDrawn 15 = .ok (.bipush 10, 2) := by decide +kernel
theorem dX8_saysDrawn_17 : decode cX8_saysDrawn 17 = .ok (.invokevirtual 520, 3) := by decide +kernel
theorem dX8_saysDrawn_20 : decode cX8_saysDrawn 20 = .ok (.aload_n 0, 1) := by decide +kernel
theorem dX8_saysDrawn_21 : decode cX8_saysDrawn 21 = .ok (.getfield 28, 3) := by decide +kernel
theorem dX8_saysDrawn_24 : decode cX8_saysDrawn 24 = .ok (.bipush 14, 2) := by decide +kernel
theorem dX8_saysDrawn_26 : decode cX8_saysDrawn 26 = .ok (.iaload, 1) := by decide +kernel
theorem dX8_saysDrawn_27 : decode cX8_saysDrawn 27 = .ok (.if_icmp .ge 7, 3) := by decide +kernel
theorem dX8_saysDrawn_30 : decode cX8_saysDrawn 30 = .ok (.iconst 1, 1) := by decide +kernel
theorem dX8_saysDrawn_31 : decode cX8_saysDrawn 31 = .ok (.goto 4, 3) := by decide +kernel
theorem dX8_saysDrawn_34 : decode cX8_saysDrawn 34 = .ok (.iconst 0, 1) := by decide +kernel
theorem dX8_saysDrawn_35 : decode cX8_saysDrawn 35 = .ok (.invokevirtual 361, 3) := by decide +kernel
theorem dX8_saysDrawn_38 : decode cX8_saysDrawn 38 = .ok (.pop, 1) := by decide +kernel
theorem dX8_saysDrawn_39 : decode cX8_saysDrawn 39 = .ok (.aload_n 0, 1) := by decide +kernel
theorem dX8_saysDrawn_40 : decode cX8_saysDrawn 40 = .ok (.invokevirtual 391, 3) := by decide +kernel
theorem dX8_saysDrawn_43 : decode cX8_saysDrawn 43 = .ok (.istore_n 2, 1) := by decide +kernel
theorem dX8_saysDrawn_44 : decode cX8_saysDrawn 44 = .ok (.iload_n 2, 1) := by decide +kernel
theorem dX8_saysDrawn_45 : decode cX8_saysDrawn 45 = .ok (.iconst (-1), 1) := by decide +kernel
theorem dX8_saysDrawn_46 : decode cX8_saysDrawn 46 = .ok (.if_icmp .eq 13, 3) := by decide +kernel
theorem dX8_saysDrawn_49 : decode cX8_saysDrawn 49 = .ok (.aload_n 0, 1) := by decide +kernel
theorem dX8_saysDrawn_50 : decode cX8_saysDrawn 50 = .ok (.getfield 109, 3) := by decide +kernel
theorem dX8_saysDrawn_53 : decode cX8_saysDrawn 53 = .ok (.iload_n 2, 1) := by decide +kernel
theorem dX8_saysDrawn_54 : decode cX8_saysDrawn 54 = .ok (.dup2, 1) := by decide +kernel
theorem dX8_saysDrawn_55 : decode cX8_saysDrawn 55 = .ok (.iaload, 1) := by decide +kernel
theorem dX8_saysDrawn_56 : decode cX8_saysDrawn 56 = .ok (.iconst 1, 1) := by decide +kernel
theorem dX8_saysDrawn_57 : decode cX8_saysDrawn 57 = .ok (.iadd, 1) := by decide +kernel
theorem dX8_saysDrawn_58 : decode cX8_saysDrawn 58 = .ok (.iastore, 1) := by decide +kernel
theorem dX8_saysDrawn_59 : decode cX8_saysDrawn 59 = .ok (.return_, 1) := by decide +kernel
theorem dX8_quarters_0 : decode cX8_quarters 0 = .ok (.iload_n 1, 1) := by decide +kernel
theorem dX8_quarters_1 : decode cX8_quarters 1 = .ok (.iconst 0, 1) := by decide +kernel
theorem dX8_quarters_2 : decode cX8_quarters 2 = .ok (.ldc 164, 2) := by decide +kernel
theorem dX8_quarters_4 : decode cX8_quarters 4 = .ok (.invokestatic 115, 3) := by decide +kernel
theorem dX8_quarters_7 : decode cX8_quarters 7 = .ok (.ifCond .eq 13, 3) := by decide +kernel
theorem dX8_quarters_10 : decode cX8_quarters 10 = .ok (.iload_n 2, 1) := by decide +kernel
theorem dX8_quarters_11 : decode cX8_quarters 11 = .ok (.iconst 1, 1) := by decide +kernel
theorem dX8_quarters_12 : decode cX8_quarters 12 = .ok (.bipush 60, 2) := by decide +kernel
theorem dX8_quarters_14 : decode cX8_quarters 14 = .ok (.invokestatic 115, 3) := by decide +kernel
theorem dX8_quarters_17 : decode cX8_quarters 17 = .ok (.ifCond .ne 9, 3) := by decide +kernel
theorem dX8_quarters_20 : decode cX8_quarters 20 = .ok (.aload_n 0, 1) := by decide +kernel
theorem dX8_quarters_21 : decode cX8_quarters 21 = .ok (.iconst (-1), 1) := by decide +kernel
theorem dX8_quarters_22 : decode cX8_quarters 22 = .ok (.invokevirtual 119, 3) := by decide +kernel
theorem dX8_quarters_25 : decode cX8_quarters 25 = .ok (.ireturn, 1) := by decide +kernel
theorem dX8_quarters_26 : decode cX8_quarters 26 = .ok (.aload_n 0, 1) := by decide +kernel
theorem dX8_quarters_27 : decode cX8_quarters 27 = .ok (.getfield 28, 3) := by decide +kernel
theorem dX8_quarters_30 : decode cX8_quarters 30 = .ok (.bipush 16, 2) := by decide +kernel
theorem dX8_quarters_32 : decode cX8_quarters 32 = .ok (.iaload, 1) := by decide +kernel
theorem dX8_quarters_33 : decode cX8_quarters 33 = .ok (.ifCond .eq 13, 3) := by decide +kernel
theorem dX8_quarters_36 : decode cX8_quarters 36 = .ok (.aload_n 0, 1) := by decide +kernel
theorem dX8_quarters_37 : decode cX8_quarters 37 = .ok (.getfield 28, 3) := by decide +kernel
theorem dX8_quarters_40 : decode cX8_quarters 40 = .ok (.bipush 17, 2) := by decide +kernel
theorem dX8_quarters_42 : decode cX8_quarters 42 = .ok (.iaload, 1) := by decide +kernel
theorem dX8_quarters_43 : decode cX8_quarters 43 = .ok (.ifCond .ne 10, 3) := by decide +kernel
theorem dX8_quarters_46 : decode cX8_quarters 46 = .ok (.aload_n 0, 1) := by decide +kernel
theorem dX8_quarters_47 : decode cX8_quarters 47 = .ok (.bipush (-3), 2) := by decide +kernel
theorem dX8_quarters_49 : decode cX8_quarters 49 = .ok (.invokevirtual 119, 3) := by decide +kernel
theorem dX8_quarters_52 : decode cX8_quarters 52 = .ok (.ireturn, 1) := by decide +kernel
theorem dX8_quarters_53 : decode cX8_quarters 53 = .ok (.aload_n 0, 1) := by decide +kernel
theorem dX8_quarters_54 : decode cX8_quarters 54 = .ok (.iload_n 1, 1) := by decide +kernel
theorem dX8_quarters_55 : decode cX8_quarters 55 = .ok (.putfield 510, 3) := by decide +kernel
theorem dX8_quarters_58 : decode cX8_quarters 58 = .ok (.aload_n 0, 1) := by decide +kernel
theorem dX8_quarters_59 : decode cX8_quarters 59 = .ok (.aload_n 0, 1) := by decide +kernel
theorem dX8_quarters_60 : decode cX8_quarters 60 = .ok (.getfield 28, 3) := by decide +kernel
theorem dX8_quarters_63 : decode cX8_quarters 63 = .ok (.bipush 16, 2) := by decide +kernel
theorem dX8_quarters_65 : decode cX8_quarters 65 = .ok (.iaload, 1) := by decide +kernel
theorem dX8_quarters_66 : decode cX8_quarters 66 = .ok (.putfield 112, 3) := by decide +kernel
theorem dX8_quarters_69 : decode cX8_quarters 69 = .ok (.aload_n 0, 1) := by decide +kernel
theorem dX8_quarters_70 : decode cX8_quarters 70 = .ok (.iconst 0, 1) := by decide +kernel
theorem dX8_quarters_71 : decode cX8_quarters 71 = .ok (.invokevirtual 385, 3) := by decide +kernel
theorem dX8_quarters_74 : decode cX8_quarters 74 = .ok (.iconst 0, 1) := by decide +kernel
theorem dX8_quarters_75 : decode cX8_quarters 75 = .ok (.istore_n 3, 1) := by decide +kernel
theorem dX8_quarters_76 : decode cX8_quarters 76 = .ok (.iload_n 3, 1) := by decide +kernel
theorem dX8_quarters_77 : decode cX8_quarters 77 = .ok (.bipush 6, 2) := by decide +kernel
theorem dX8_quarters_79 : decode cX8_quarters 79 = .ok (.if_icmp .ge 16, 3) := by decide +kernel
theorem dX8_quarters_82 : decode cX8_quarters 82 = .ok (.aload_n 0, 1) := by decide +kernel
theorem dX8_quarters_83 : decode cX8_quarters 83 = .ok (.getfield 109, 3) := by decide +kernel
theorem dX8_quarters_86 : decode cX8_quarters 86 = .ok (.iload_n 3, 1) := by decide +kernel
theorem dX8_quarters_87 : decode cX8_quarters 87 = .ok (.iconst 0, 1) := by decide +kernel
theorem dX8_quarters_88 : decode cX8_quarters 88 = .ok (.iastore, 1) := by decide +kernel
theorem dX8_quarters_89 : decode cX8_quarters 89 = .ok (.iinc 3 1, 3) := by decide +kernel
theorem dX8_quarters_92 : decode cX8_quarters 92 = .ok (.goto (-16), 3) := by decide +kernel
theorem dX8_quarters_95 : decode cX8_quarters 95 = .ok (.aload_n 0, 1) := by decide +kernel
theorem dX8_quarters_96 : decode cX8_quarters 96 = .ok (.iconst 0, 1) := by decide +kernel
theorem dX8_quarters_97 : decode cX8_quarters 97 = .ok (.putfield 517, 3) := by decide +kernel
theorem dX8_quarters_100 : decode cX8_quarters 100 = .ok (.iconst 0, 1) := by decide +kernel
theorem dX8_quarters_101 : decode cX8_quarters 101 = .ok (.istore_n 3, 1) := by decide +kernel
theorem dX8_quarters_102 : decode cX8_quarters 102 = .ok (.iload_n 3, 1) := by decide +kernel
theorem dX8_quarters_103 : decode cX8_quarters 103 = .ok (.iload_n 2, 1) := by decide +kernel
theorem dX8_quarters_104 : decode cX8_quarters 104 = .ok (.if_icmp .ge 20, 3) := by decide +kernel
theorem dX8_quarters_107 : decode cX8_quarters 107 = .ok (.aload_n 0, 1) := by decide +kernel
theorem dX8_quarters_108 : decode cX8_quarters 108 = .ok (.invokevirtual 523, 3) := by decide +kernel
theorem dX8_quarters_111 : decode cX8_quarters 111 = .ok (.ifCond .eq 13, 3) := by decide +kernel
theorem dX8_quarters_114 : decode cX8_quarters 114 = .ok (.aload_n 0, 1) := by decide +kernel
theorem dX8_quarters_115 : decode cX8_quarters 115 = .ok (.invokevirtual 526, 3) := by decide +kernel
theorem dX8_quarters_118 : decode cX8_quarters 118 = .ok (.iinc 3 1, 3) := by decide +kernel
theorem dX8_quarters_121 : decode cX8_quarters 121 = .ok (.goto (-19), 3) := by decide +kernel
theorem dX8_quarters_124 : decode cX8_quarters 124 = .ok (.aload_n 0, 1) := by decide +kernel
theorem dX8_quarters_125 : decode cX8_quarters 125 = .ok (.aload_n 0, 1) := by decide +kernel
theorem dX8_quarters_126 : decode cX8_quarters 126 = .ok (.getfield 28, 3) := by decide +kernel
theorem dX8_quarters_129 : decode cX8_quarters 129 = .ok (.iconst 0, 1) := by decide +kernel
theorem dX8_quarters_130 : decode cX8_quarters 130 = .ok (.iaload, 1) := by decide +kernel
theorem dX8_quarters_131 : decode cX8_quarters 131 = .ok (.putfield 529, 3) := by decide +kernel
theorem dX8_quarters_134 : decode cX8_quarters 134 = .ok (.aload_n 0, 1) := by decide +kernel
theorem dX8_quarters_135 : decode cX8_quarters 135 = .ok (.iconst 0, 1) := by decide +kernel
theorem dX8_quarters_136 : decode cX8_quarters 136 = .ok (.invokevirtual 394, 3) := by decide +kernel
theorem dX8_quarters_139 : decode cX8_quarters 139 = .ok (.aload_n 0, 1) := by decide +kernel
theorem dX8_quarters_140 : decode cX8_quarters 140 = .ok (.aload_n 0, 1) := by decide +kernel
theorem dX8_quarters_141 : decode cX8_quarters 141 = .ok (.getfield 517, 3) := by decide +kernel
theorem dX8_quarters_144 : decode cX8_quarters 144 = .ok (.invokevirtual 14, 3) := by decide +kernel
theorem dX8_quarters_147 : decode cX8_quarters 147 = .ok (.ireturn, 1) := by decide +kernel
theorem dX8_drawn_0 : decode cX8_drawn 0 = .ok (.iload_n 1, 1) := by decide +kernel
theorem dX8_drawn_1 : decode cX8_drawn 1 = .ok (.iconst 0, 1) := by decide +kernel
theorem dX8_drawn_2 : decode cX8_drawn 2 = .ok (.aload_n 0, 1) := by decide +kernel
theorem dX8_drawn_3 : decode cX8_drawn 3 = .ok (.getfield 112, 3) := by decide +kernel
theorem dX8_drawn_6 : decode cX8_drawn 6 = .ok (.iconst 1, 1) := by decide +kernel
theorem dX8_drawn_7 : decode cX8_drawn 7 = .ok (.isub, 1) := by decide +kernel
theorem dX8_drawn_8 : decode cX8_drawn 8 = .ok (.invokestatic 115, 3) := by decide +kernel
theorem dX8_drawn_11 : decode cX8_drawn 11 = .ok (.ifCond .eq 12, 3) := by decide +kernel
theorem dX8_drawn_14 : decode cX8_drawn 14 = .ok (.iload_n 2, 1) := by decide +kernel
theorem dX8_drawn_15 : decode cX8_drawn 15 = .ok (.iconst 0, 1) := by decide +kernel
theorem dX8_drawn_16 : decode cX8_drawn 16 = .ok (.iconst 1, 1) := by decide +kernel
theorem dX8_drawn_17 : decode cX8_drawn 17 = .ok (.invokestatic 115, 3) := by decide +kernel
theorem dX8_drawn_20 : decode cX8_drawn 20 = .ok (.ifCond .ne 5, 3) := by decide +kernel
theorem dX8_drawn_23 : decode cX8_drawn 23 = .ok (.iconst (-1), 1) := by decide +kernel
theorem dX8_drawn_24 : decode cX8_drawn 24 = .ok (.ireturn, 1) := by decide +kernel
theorem dX8_drawn_25 : decode cX8_drawn 25 = .ok (.iload_n 2, 1) := by decide +kernel
theorem dX8_drawn_26 : decode cX8_drawn 26 = .ok (.ifCond .ne 12, 3) := by decide +kernel
theorem dX8_drawn_29 : decode cX8_drawn 29 = .ok (.aload_n 0, 1) := by decide +kernel
theorem dX8_drawn_30 : decode cX8_drawn 30 = .ok (.getfield 109, 3) := by decide +kernel
theorem dX8_drawn_33 : decode cX8_drawn 33 = .ok (.iload_n 1, 1) := by decide +kernel
theorem dX8_drawn_34 : decode cX8_drawn 34 = .ok (.iaload, 1) := by decide +kernel
theorem dX8_drawn_35 : decode cX8_drawn 35 = .ok (.goto 11, 3) := by decide +kernel
theorem dX8_drawn_38 : decode cX8_drawn 38 = .ok (.aload_n 0, 1) := by decide +kernel
theorem dX8_drawn_39 : decode cX8_drawn 39 = .ok (.getfield 529, 3) := by decide +kernel
theorem dX8_drawn_42 : decode cX8_drawn 42 = .ok (.iload_n 1, 1) := by decide +kernel
theorem dX8_drawn_43 : decode cX8_drawn 43 = .ok (.ishr, 1) := by decide +kernel
theorem dX8_drawn_44 : decode cX8_drawn 44 = .ok (.iconst 1, 1) := by decide +kernel
theorem dX8_drawn_45 : decode cX8_drawn 45 = .ok (.iand, 1) := by decide +kernel
theorem dX8_drawn_46 : decode cX8_drawn 46 = .ok (.ireturn, 1) := by decide +kernel
theorem dX8_count_0 : decode cX8_count 0 = .ok (.iload_n 1, 1) := by decide +kernel
theorem dX8_count_1 : decode cX8_count 1 = .ok (.tableswitch 163 0 15 #[79, 87, 92, 100, 108, 113, 118, 118, 118, 127, 134, 142, 150, 150, 150, 150], 79) := by decide +kernel
theorem dX8_count_80 : decode cX8_count 80 = .ok (.aload_n 0, 1) := by decide +kernel
theorem dX8_count_81 : decode cX8_count 81 = .ok (.getfield 28, 3) := by decide +kernel
theorem dX8_count_84 : decode cX8_count 84 = .ok (.bipush 16, 2) := by decide +kernel
theorem dX8_count_86 : decode cX8_count 86 = .ok (.iaload, 1) := by decide +kernel
theorem dX8_count_87 : decode cX8_count 87 = .ok (.ireturn, 1) := by decide +kernel
theorem dX8_count_88 : decode cX8_count 88 = .ok (.aload_n 0, 1) := by decide +kernel
theorem dX8_count_89 : decode cX8_count 89 = .ok (.invokevirtual 293, 3) := by decide +kernel
theorem dX8_count_92 : decode cX8_count 92 = .ok (.ireturn, 1) := by decide +kernel
theorem dX8_count_93 : decode cX8_count 93 = .ok (.aload_n 0, 1) := by decide +kernel
theorem dX8_count_94 : decode cX8_count 94 = .ok (.getfield 28, 3) := by decide +kernel
theorem dX8_count_97 : decode cX8_count 97 = .ok (.bipush 17, 2) := by decide +kernel
theorem dX8_count_99 : decode cX8_count 99 = .ok (.iaload, 1) := by decide +kernel
theorem dX8_count_100 : decode cX8_count 100 = .ok (.ireturn, 1) := by decide +kernel
theorem dX8_count_101 : decode cX8_count 101 = .ok (.aload_n 0, 1) := by decide +kernel
theorem dX8_count_102 : decode cX8_count 102 = .ok (.getfield 28, 3) := by decide +kernel
theorem dX8_count_105 : decode cX8_count 105 = .ok (.bipush 18, 2) := by decide +kernel
theorem dX8_count_107 : decode cX8_count 107 = .ok (.iaload, 1) := by decide +kernel
theorem dX8_count_108 : decode cX8_count 108 = .ok (.ireturn, 1) := by decide +kernel
theorem dX8_count_109 : decode cX8_count 109 = .ok (.aload_n 0, 1) := by decide +kernel
theorem dX8_count_110 : decode cX8_count 110 = .ok (.getfield 11, 3) := by decide +kernel
theorem dX8_count_113 : decode cX8_count 113 = .ok (.ireturn, 1) := by decide +kernel
theorem dX8_count_114 : decode cX8_count 114 = .ok (.aload_n 0, 1) := by decide +kernel
theorem dX8_count_115 : decode cX8_count 115 = .ok (.getfield 145, 3) := by decide +kernel
theorem dX8_count_118 : decode cX8_count 118 = .ok (.ireturn, 1) := by decide +kernel
theorem dX8_count_119 : decode cX8_count 119 = .ok (.aload_n 0, 1) := by decide +kernel
theorem dX8_count_120 : decode cX8_count 120 = .ok (.getfield 7, 3) := by decide +kernel
theorem dX8_count_123 : decode cX8_count 123 = .ok (.iload_n 1, 1) := by decide +kernel
theorem dX8_count_124 : decode cX8_count 124 = .ok (.iconst 5, 1) := by decide +kernel
theorem dX8_count_125 : decode cX8_count 125 = .ok (.isub, 1) := by decide +kernel
theorem dX8_count_126 : decode cX8_count 126 = .ok (.iaload, 1) := by decide +kernel
theorem dX8_count_127 : decode cX8_count 127 = .ok (.ireturn, 1) := by decide +kernel
theorem dX8_count_128 : decode cX8_count 128 = .ok (.aload_n 0, 1) := by decide +kernel
theorem dX8_count_129 : decode cX8_count 129 = .ok (.getfield 7, 3) := by decide +kernel
theorem dX8_count_132 : decode cX8_count 132 = .ok (.iconst 5, 1) := by decide +kernel
theorem dX8_count_133 : decode cX8_count 133 = .ok (.iaload, 1) := by decide +kernel
theorem dX8_count_134 : decode cX8_count 134 = .ok (.ireturn, 1) := by decide +kernel
theorem dX8_count_135 : decode cX8_count 135 = .ok (.aload_n 0, 1) := by decide +kernel
theorem dX8_count_136 : decode cX8_count 136 = .ok (.getfield 7, 3) := by decide +kernel
theorem dX8_count_139 : decode cX8_count 139 = .ok (.bipush 6, 2) := by decide +kernel
theorem dX8_count_141 : decode cX8_count 141 = .ok (.iaload, 1) := by decide +kernel
theorem dX8_count_142 : decode cX8_count 142 = .ok (.ireturn, 1) := by decide +kernel
theorem dX8_count_143 : decode cX8_count 143 = .ok (.aload_n 0, 1) := by decide +kernel
theorem dX8_count_144 : decode cX8_count 144 = .ok (.getfield 28, 3) := by decide +kernel
theorem dX8_count_147 : decode cX8_count 147 = .ok (.bipush 19, 2) := by decide +kernel
theorem dX8_count_149 : decode cX8_count 149 = .ok (.iaload, 1) := by decide +kernel
theorem dX8_count_150 : decode cX8_count 150 = .ok (.ireturn, 1) := by decide +kernel
theorem dX8_count_151 : decode cX8_count 151 = .ok (.aload_n 0, 1) := by decide +kernel
theorem dX8_count_152 : decode cX8_count 152 = .ok (.getfield 28, 3) := by decide +kernel
theorem dX8_count_155 : decode cX8_count 155 = .ok (.iload_n 1, 1) := by decide +kernel
theorem dX8_count_156 : decode cX8_count 156 = .ok (.bipush 12, 2) := by decide +kernel
theorem dX8_count_158 : decode cX8_count 158 = .ok (.isub, 1) := by decide +kernel
theorem dX8_count_159 : decode cX8_count 159 = .ok (.invokestatic 142, 3) := by decide +kernel
theorem dX8_count_162 : decode cX8_count 162 = .ok (.iaload, 1) := by decide +kernel
theorem dX8_count_163 : decode cX8_count 163 = .ok (.ireturn, 1) := by decide +kernel
theorem dX8_count_164 : decode cX8_count 164 = .ok (.iconst (-1), 1) := by decide +kernel
theorem dX8_count_165 : decode cX8_count 165 = .ok (.ireturn, 1) := by decide +kernel
theorem dX8_status_0 : decode cX8_status 0 = .ok (.aload_n 0, 1) := by decide +kernel
theorem dX8_status_1 : decode cX8_status 1 = .ok (.getfield 3, 3) := by decide +kernel
theorem dX8_status_4 : decode cX8_status 4 = .ok (.ireturn, 1) := by decide +kernel
theorem dJ6_numberOfTrailingZeros_0f7a4_0 : decode cJ6_numberOfTrailingZeros_0f7a4 0 = .ok (.iload_n 0, 1) := by decide +kernel
theorem dJ6_numberOfTrailingZeros_0f7a4_1 : decode cJ6_numberOfTrailingZeros_0f7a4 1 = .ok (.iconst (-1), 1) := by decide +kernel
theorem dJ6_numberOfTrailingZeros_0f7a4_2 : decode cJ6_numberOfTrailingZeros_0f7a4 2 = .ok (.ixor, 1) := by decide +kernel
theorem dJ6_numberOfTrailingZeros_0f7a4_3 : decode cJ6_numberOfTrailingZeros_0f7a4 3 = .ok (.iload_n 0, 1) := by decide +kernel
theorem dJ6_numberOfTrailingZeros_0f7a4_4 : decode cJ6_numberOfTrailingZeros_0f7a4 4 = .ok (.iconst 1, 1) := by decide +kernel
theorem dJ6_numberOfTrailingZeros_0f7a4_5 : decode cJ6_numberOfTrailingZeros_0f7a4 5 = .ok (.isub, 1) := by decide +kernel
theorem dJ6_numberOfTrailingZeros_0f7a4_6 : decode cJ6_numberOfTrailingZeros_0f7a4 6 = .ok (.iand, 1) := by decide +kernel
theorem dJ6_numberOfTrailingZeros_0f7a4_7 : decode cJ6_numberOfTrailingZeros_0f7a4 7 = .ok (.istore_n 0, 1) := by decide +kernel
theorem dJ6_numberOfTrailingZeros_0f7a4_8 : decode cJ6_numberOfTrailingZeros_0f7a4 8 = .ok (.iload_n 0, 1) := by decide +kernel
theorem dJ6_numberOfTrailingZeros_0f7a4_9 : decode cJ6_numberOfTrailingZeros_0f7a4 9 = .ok (.ifCond .gt 8, 3) := by decide +kernel
theorem dJ6_numberOfTrailingZeros_0f7a4_12 : decode cJ6_numberOfTrailingZeros_0f7a4 12 = .ok (.iload_n 0, 1) := by decide +kernel
theorem dJ6_numberOfTrailingZeros_0f7a4_13 : decode cJ6_numberOfTrailingZeros_0f7a4 13 = .ok (.bipush 32, 2) := by decide +kernel
theorem dJ6_numberOfTrailingZeros_0f7a4_15 : decode cJ6_numberOfTrailingZeros_0f7a4 15 = .ok (.iand, 1) := by decide +kernel
theorem dJ6_numberOfTrailingZeros_0f7a4_16 : decode cJ6_numberOfTrailingZeros_0f7a4 16 = .ok (.ireturn, 1) := by decide +kernel
theorem dJ6_numberOfTrailingZeros_0f7a4_17 : decode cJ6_numberOfTrailingZeros_0f7a4 17 = .ok (.iconst 1, 1) := by decide +kernel
theorem dJ6_numberOfTrailingZeros_0f7a4_18 : decode cJ6_numberOfTrailingZeros_0f7a4 18 = .ok (.istore_n 1, 1) := by decide +kernel
theorem dJ6_numberOfTrailingZeros_0f7a4_19 : decode cJ6_numberOfTrailingZeros_0f7a4 19 = .ok (.iload_n 0, 1) := by decide +kernel
theorem dJ6_numberOfTrailingZeros_0f7a4_20 : decode cJ6_numberOfTrailingZeros_0f7a4 20 = .ok (.ldc_w 264, 3) := by decide +kernel
theorem dJ6_numberOfTrailingZeros_0f7a4_23 : decode cJ6_numberOfTrailingZeros_0f7a4 23 = .ok (.if_icmp .le 11, 3) := by decide +kernel
theorem dJ6_numberOfTrailingZeros_0f7a4_26 : decode cJ6_numberOfTrailingZeros_0f7a4 26 = .ok (.iinc 1 16, 3) := by decide +kernel
theorem dJ6_numberOfTrailingZeros_0f7a4_29 : decode cJ6_numberOfTrailingZeros_0f7a4 29 = .ok (.iload_n 0, 1) := by decide +kernel
theorem dJ6_numberOfTrailingZeros_0f7a4_30 : decode cJ6_numberOfTrailingZeros_0f7a4 30 = .ok (.bipush 16, 2) := by decide +kernel
theorem dJ6_numberOfTrailingZeros_0f7a4_32 : decode cJ6_numberOfTrailingZeros_0f7a4 32 = .ok (.iushr, 1) := by decide +kernel
theorem dJ6_numberOfTrailingZeros_0f7a4_33 : decode cJ6_numberOfTrailingZeros_0f7a4 33 = .ok (.istore_n 0, 1) := by decide +kernel
theorem dJ6_numberOfTrailingZeros_0f7a4_34 : decode cJ6_numberOfTrailingZeros_0f7a4 34 = .ok (.iload_n 0, 1) := by decide +kernel
theorem dJ6_numberOfTrailingZeros_0f7a4_35 : decode cJ6_numberOfTrailingZeros_0f7a4 35 = .ok (.sipush 256, 3) := by decide +kernel
theorem dJ6_numberOfTrailingZeros_0f7a4_38 : decode cJ6_numberOfTrailingZeros_0f7a4 38 = .ok (.if_icmp .le 11, 3) := by decide +kernel
theorem dJ6_numberOfTrailingZeros_0f7a4_41 : decode cJ6_numberOfTrailingZeros_0f7a4 41 = .ok (.iinc 1 8, 3) := by decide +kernel
theorem dJ6_numberOfTrailingZeros_0f7a4_44 : decode cJ6_numberOfTrailingZeros_0f7a4 44 = .ok (.iload_n 0, 1) := by decide +kernel
theorem dJ6_numberOfTrailingZeros_0f7a4_45 : decode cJ6_numberOfTrailingZeros_0f7a4 45 = .ok (.bipush 8, 2) := by decide +kernel
theorem dJ6_numberOfTrailingZeros_0f7a4_47 : decode cJ6_numberOfTrailingZeros_0f7a4 47 = .ok (.iushr, 1) := by decide +kernel
theorem dJ6_numberOfTrailingZeros_0f7a4_48 : decode cJ6_numberOfTrailingZeros_0f7a4 48 = .ok (.istore_n 0, 1) := by decide +kernel
theorem dJ6_numberOfTrailingZeros_0f7a4_49 : decode cJ6_numberOfTrailingZeros_0f7a4 49 = .ok (.iload_n 0, 1) := by decide +kernel
theorem dJ6_numberOfTrailingZeros_0f7a4_50 : decode cJ6_numberOfTrailingZeros_0f7a4 50 = .ok (.bipush 16, 2) := by decide +kernel
theorem dJ6_numberOfTrailingZeros_0f7a4_52 : decode cJ6_numberOfTrailingZeros_0f7a4 52 = .ok (.if_icmp .le 10, 3) := by decide +kernel
theorem dJ6_numberOfTrailingZeros_0f7a4_55 : decode cJ6_numberOfTrailingZeros_0f7a4 55 = .ok (.iinc 1 4, 3) := by decide +kernel
theorem dJ6_numberOfTrailingZeros_0f7a4_58 : decode cJ6_numberOfTrailingZeros_0f7a4 58 = .ok (.iload_n 0, 1) := by decide +kernel
theorem dJ6_numberOfTrailingZeros_0f7a4_59 : decode cJ6_numberOfTrailingZeros_0f7a4 59 = .ok (.iconst 4, 1) := by decide +kernel
theorem dJ6_numberOfTrailingZeros_0f7a4_60 : decode cJ6_numberOfTrailingZeros_0f7a4 60 = .ok (.iushr, 1) := by decide +kernel
theorem dJ6_numberOfTrailingZeros_0f7a4_61 : decode cJ6_numberOfTrailingZeros_0f7a4 61 = .ok (.istore_n 0, 1) := by decide +kernel
theorem dJ6_numberOfTrailingZeros_0f7a4_62 : decode cJ6_numberOfTrailingZeros_0f7a4 62 = .ok (.iload_n 0, 1) := by decide +kernel
theorem dJ6_numberOfTrailingZeros_0f7a4_63 : decode cJ6_numberOfTrailingZeros_0f7a4 63 = .ok (.iconst 4, 1) := by decide +kernel
theorem dJ6_numberOfTrailingZeros_0f7a4_64 : decode cJ6_numberOfTrailingZeros_0f7a4 64 = .ok (.if_icmp .le 10, 3) := by decide +kernel
theorem dJ6_numberOfTrailingZeros_0f7a4_67 : decode cJ6_numberOfTrailingZeros_0f7a4 67 = .ok (.iinc 1 2, 3) := by decide +kernel
theorem dJ6_numberOfTrailingZeros_0f7a4_70 : decode cJ6_numberOfTrailingZeros_0f7a4 70 = .ok (.iload_n 0, 1) := by decide +kernel
theorem dJ6_numberOfTrailingZeros_0f7a4_71 : decode cJ6_numberOfTrailingZeros_0f7a4 71 = .ok (.iconst 2, 1) := by decide +kernel
theorem dJ6_numberOfTrailingZeros_0f7a4_72 : decode cJ6_numberOfTrailingZeros_0f7a4 72 = .ok (.iushr, 1) := by decide +kernel
theorem dJ6_numberOfTrailingZeros_0f7a4_73 : decode cJ6_numberOfTrailingZeros_0f7a4 73 = .ok (.istore_n 0, 1) := by decide +kernel
theorem dJ6_numberOfTrailingZeros_0f7a4_74 : decode cJ6_numberOfTrailingZeros_0f7a4 74 = .ok (.iload_n 1, 1) := by decide +kernel
theorem dJ6_numberOfTrailingZeros_0f7a4_75 : decode cJ6_numberOfTrailingZeros_0f7a4 75 = .ok (.iload_n 0, 1) := by decide +kernel
theorem dJ6_numberOfTrailingZeros_0f7a4_76 : decode cJ6_numberOfTrailingZeros_0f7a4 76 = .ok (.iconst 1, 1) := by decide +kernel
theorem dJ6_numberOfTrailingZeros_0f7a4_77 : decode cJ6_numberOfTrailingZeros_0f7a4 77 = .ok (.iushr, 1) := by decide +kernel
theorem dJ6_numberOfTrailingZeros_0f7a4_78 : decode cJ6_numberOfTrailingZeros_0f7a4 78 = .ok (.iadd, 1) := by decide +kernel
theorem dJ6_numberOfTrailingZeros_0f7a4_79 : decode cJ6_numberOfTrailingZeros_0f7a4 79 = .ok (.ireturn, 1) := by decide +kernel
theorem dJ6_bitCount_0f7a4_0 : decode cJ6_bitCount_0f7a4 0 = .ok (.iload_n 0, 1) := by decide +kernel
theorem dJ6_bitCount_0f7a4_1 : decode cJ6_bitCount_0f7a4 1 = .ok (.iload_n 0, 1) := by decide +kernel
theorem dJ6_bitCount_0f7a4_2 : decode cJ6_bitCount_0f7a4 2 = .ok (.iconst 1, 1) := by decide +kernel
theorem dJ6_bitCount_0f7a4_3 : decode cJ6_bitCount_0f7a4 3 = .ok (.iushr, 1) := by decide +kernel
theorem dJ6_bitCount_0f7a4_4 : decode cJ6_bitCount_0f7a4 4 = .ok (.ldc_w 265, 3) := by decide +kernel
theorem dJ6_bitCount_0f7a4_7 : decode cJ6_bitCount_0f7a4 7 = .ok (.iand, 1) := by decide +kernel
theorem dJ6_bitCount_0f7a4_8 : decode cJ6_bitCount_0f7a4 8 = .ok (.isub, 1) := by decide +kernel
theorem dJ6_bitCount_0f7a4_9 : decode cJ6_bitCount_0f7a4 9 = .ok (.istore_n 0, 1) := by decide +kernel
theorem dJ6_bitCount_0f7a4_10 : decode cJ6_bitCount_0f7a4 10 = .ok (.iload_n 0, 1) := by decide +kernel
theorem dJ6_bitCount_0f7a4_11 : decode cJ6_bitCount_0f7a4 11 = .ok (.ldc_w 266, 3) := by decide +kernel
theorem dJ6_bitCount_0f7a4_14 : decode cJ6_bitCount_0f7a4 14 = .ok (.iand, 1) := by decide +kernel
theorem dJ6_bitCount_0f7a4_15 : decode cJ6_bitCount_0f7a4 15 = .ok (.iload_n 0, 1) := by decide +kernel
theorem dJ6_bitCount_0f7a4_16 : decode cJ6_bitCount_0f7a4 16 = .ok (.iconst 2, 1) := by decide +kernel
theorem dJ6_bitCount_0f7a4_17 : decode cJ6_bitCount_0f7a4 17 = .ok (.iushr, 1) := by decide +kernel
theorem dJ6_bitCount_0f7a4_18 : decode cJ6_bitCount_0f7a4 18 = .ok (.ldc_w 266, 3) := by decide +kernel
theorem dJ6_bitCount_0f7a4_21 : decode cJ6_bitCount_0f7a4 21 = .ok (.iand, 1) := by decide +kernel
theorem dJ6_bitCount_0f7a4_22 : decode cJ6_bitCount_0f7a4 22 = .ok (.iadd, 1) := by decide +kernel
theorem dJ6_bitCount_0f7a4_23 : decode cJ6_bitCount_0f7a4 23 = .ok (.istore_n 0, 1) := by decide +kernel
theorem dJ6_bitCount_0f7a4_24 : decode cJ6_bitCount_0f7a4 24 = .ok (.iload_n 0, 1) := by decide +kernel
theorem dJ6_bitCount_0f7a4_25 : decode cJ6_bitCount_0f7a4 25 = .ok (.iload_n 0, 1) := by decide +kernel
theorem dJ6_bitCount_0f7a4_26 : decode cJ6_bitCount_0f7a4 26 = .ok (.iconst 4, 1) := by decide +kernel
theorem dJ6_bitCount_0f7a4_27 : decode cJ6_bitCount_0f7a4 27 = .ok (.iushr, 1) := by decide +kernel
theorem dJ6_bitCount_0f7a4_28 : decode cJ6_bitCount_0f7a4 28 = .ok (.iadd, 1) := by decide +kernel
theorem dJ6_bitCount_0f7a4_29 : decode cJ6_bitCount_0f7a4 29 = .ok (.ldc_w 267, 3) := by decide +kernel
theorem dJ6_bitCount_0f7a4_32 : decode cJ6_bitCount_0f7a4 32 = .ok (.iand, 1) := by decide +kernel
theorem dJ6_bitCount_0f7a4_33 : decode cJ6_bitCount_0f7a4 33 = .ok (.istore_n 0, 1) := by decide +kernel
theorem dJ6_bitCount_0f7a4_34 : decode cJ6_bitCount_0f7a4 34 = .ok (.iload_n 0, 1) := by decide +kernel
theorem dJ6_bitCount_0f7a4_35 : decode cJ6_bitCount_0f7a4 35 = .ok (.iload_n 0, 1) := by decide +kernel
theorem dJ6_bitCount_0f7a4_36 : decode cJ6_bitCount_0f7a4 36 = .ok (.bipush 8, 2) := by decide +kernel
theorem dJ6_bitCount_0f7a4_38 : decode cJ6_bitCount_0f7a4 38 = .ok (.iushr, 1) := by decide +kernel
theorem dJ6_bitCount_0f7a4_39 : decode cJ6_bitCount_0f7a4 39 = .ok (.iadd, 1) := by decide +kernel
theorem dJ6_bitCount_0f7a4_40 : decode cJ6_bitCount_0f7a4 40 = .ok (.istore_n 0, 1) := by decide +kernel
theorem dJ6_bitCount_0f7a4_41 : decode cJ6_bitCount_0f7a4 41 = .ok (.iload_n 0, 1) := by decide +kernel
theorem dJ6_bitCount_0f7a4_42 : decode cJ6_bitCount_0f7a4 42 = .ok (.iload_n 0, 1) := by decide +kernel
theorem dJ6_bitCount_0f7a4_43 : decode cJ6_bitCount_0f7a4 43 = .ok (.bipush 16, 2) := by decide +kernel
theorem dJ6_bitCount_0f7a4_45 : decode cJ6_bitCount_0f7a4 45 = .ok (.iushr, 1) := by decide +kernel
theorem dJ6_bitCount_0f7a4_46 : decode cJ6_bitCount_0f7a4 46 = .ok (.iadd, 1) := by decide +kernel
theorem dJ6_bitCount_0f7a4_47 : decode cJ6_bitCount_0f7a4 47 = .ok (.istore_n 0, 1) := by decide +kernel
theorem dJ6_bitCount_0f7a4_48 : decode cJ6_bitCount_0f7a4 48 = .ok (.iload_n 0, 1) := by decide +kernel
theorem dJ6_bitCount_0f7a4_49 : decode cJ6_bitCount_0f7a4 49 = .ok (.bipush 63, 2) := by decide +kernel
theorem dJ6_bitCount_0f7a4_51 : decode cJ6_bitCount_0f7a4 51 = .ok (.iand, 1) := by decide +kernel
theorem dJ6_bitCount_0f7a4_52 : decode cJ6_bitCount_0f7a4 52 = .ok (.ireturn, 1) := by decide +kernel
theorem dJ9_max_7cf53_0 : decode cJ9_max_7cf53 0 = .ok (.iload_n 0, 1) := by decide +kernel
theorem dJ9_max_7cf53_1 : decode cJ9_max_7cf53 1 = .ok (.iload_n 1, 1) := by decide +kernel
theorem dJ9_max_7cf53_2 : decode cJ9_max_7cf53 2 = .ok (.if_icmp .lt 7, 3) := by decide +kernel
theorem dJ9_max_7cf53_5 : decode cJ9_max_7cf53 5 = .ok (.iload_n 0, 1) := by decide +kernel
theorem dJ9_max_7cf53_6 : decode cJ9_max_7cf53 6 = .ok (.goto 4, 3) := by decide +kernel
theorem dJ9_max_7cf53_9 : decode cJ9_max_7cf53 9 = .ok (.iload_n 1, 1) := by decide +kernel
theorem dJ9_max_7cf53_10 : decode cJ9_max_7cf53 10 = .ok (.ireturn, 1) := by decide +kernel
theorem dJ9_min_7cf53_0 : decode cJ9_min_7cf53 0 = .ok (.iload_n 0, 1) := by decide +kernel
theorem dJ9_min_7cf53_1 : decode cJ9_min_7cf53 1 = .ok (.iload_n 1, 1) := by decide +kernel
theorem dJ9_min_7cf53_2 : decode cJ9_min_7cf53 2 = .ok (.if_icmp .gt 7, 3) := by decide +kernel
theorem dJ9_min_7cf53_5 : decode cJ9_min_7cf53 5 = .ok (.iload_n 0, 1) := by decide +kernel
theorem dJ9_min_7cf53_6 : decode cJ9_min_7cf53 6 = .ok (.goto 4, 3) := by decide +kernel
theorem dJ9_min_7cf53_9 : decode cJ9_min_7cf53 9 = .ok (.iload_n 1, 1) := by decide +kernel
theorem dJ9_min_7cf53_10 : decode cJ9_min_7cf53 10 = .ok (.ireturn, 1) := by decide +kernel
theorem dJ0_length_8abf5_0 : decode cJ0_length_8abf5 0 = .ok (.aload_n 0, 1) := by decide +kernel
theorem dJ0_length_8abf5_1 : decode cJ0_length_8abf5 1 = .ok (.getfield 9, 3) := by decide +kernel
theorem dJ0_length_8abf5_4 : decode cJ0_length_8abf5 4 = .ok (.arraylength, 1) := by decide +kernel
theorem dJ0_length_8abf5_5 : decode cJ0_length_8abf5 5 = .ok (.aload_n 0, 1) := by decide +kernel
theorem dJ0_length_8abf5_6 : decode cJ0_length_8abf5 6 = .ok (.invokevirtual 335, 3) := by decide +kernel
theorem dJ0_length_8abf5_9 : decode cJ0_length_8abf5 9 = .ok (.ishr, 1) := by decide +kernel
theorem dJ0_length_8abf5_10 : decode cJ0_length_8abf5 10 = .ok (.ireturn, 1) := by decide +kernel
theorem dJ0_charAt_5068e_0 : decode cJ0_charAt_5068e 0 = .ok (.aload_n 0, 1) := by decide +kernel
theorem dJ0_charAt_5068e_1 : decode cJ0_charAt_5068e 1 = .ok (.invokevirtual 492, 3) := by decide +kernel
theorem dJ0_charAt_5068e_4 : decode cJ0_charAt_5068e 4 = .ok (.ifCond .eq 12, 3) := by decide +kernel
theorem dJ0_charAt_5068e_7 : decode cJ0_charAt_5068e 7 = .ok (.aload_n 0, 1) := by decide +kernel
theorem dJ0_charAt_5068e_8 : decode cJ0_charAt_5068e 8 = .ok (.getfield 9, 3) := by decide +kernel
theorem dJ0_charAt_5068e_11 : decode cJ0_charAt_5068e 11 = .ok (.iload_n 1, 1) := by decide +kernel
theorem dJ0_charAt_5068e_12 : decode cJ0_charAt_5068e 12 = .ok (.invokestatic 495, 3) := by decide +kernel
theorem dJ0_charAt_5068e_15 : decode cJ0_charAt_5068e 15 = .ok (.ireturn, 1) := by decide +kernel
theorem dJ0_charAt_5068e_16 : decode cJ0_charAt_5068e 16 = .ok (.aload_n 0, 1) := by decide +kernel
theorem dJ0_charAt_5068e_17 : decode cJ0_charAt_5068e 17 = .ok (.getfield 9, 3) := by decide +kernel
theorem dJ0_charAt_5068e_20 : decode cJ0_charAt_5068e 20 = .ok (.iload_n 1, 1) := by decide +kernel
theorem dJ0_charAt_5068e_21 : decode cJ0_charAt_5068e 21 = .ok (.invokestatic 498, 3) := by decide +kernel
theorem dJ0_charAt_5068e_24 : decode cJ0_charAt_5068e 24 = .ok (.ireturn, 1) := by decide +kernel
theorem dJ0_coder_7d493_0 : decode cJ0_coder_7d493 0 = .ok (.getstatic 38, 3) := by decide +kernel
theorem dJ0_coder_7d493_3 : decode cJ0_coder_7d493 3 = .ok (.ifCond .eq 10, 3) := by decide +kernel
theorem dJ0_coder_7d493_6 : decode cJ0_coder_7d493 6 = .ok (.aload_n 0, 1) := by decide +kernel
theorem dJ0_coder_7d493_7 : decode cJ0_coder_7d493 7 = .ok (.getfield 15, 3) := by decide +kernel
theorem dJ0_coder_7d493_10 : decode cJ0_coder_7d493 10 = .ok (.goto 4, 3) := by decide +kernel
theorem dJ0_coder_7d493_13 : decode cJ0_coder_7d493 13 = .ok (.iconst 1, 1) := by decide +kernel
theorem dJ0_coder_7d493_14 : decode cJ0_coder_7d493 14 = .ok (.ireturn, 1) := by decide +kernel
theorem dJ0_isLatin1_aae02_0 : decode cJ0_isLatin1_aae02 0 = .ok (.getstatic 38, 3) := by decide +kernel
theorem dJ0_isLatin1_aae02_3 : decode cJ0_isLatin1_aae02 3 = .ok (.ifCond .eq 14, 3) := by decide +kernel
theorem dJ0_isLatin1_aae02_6 : decode cJ0_isLatin1_aae02 6 = .ok (.aload_n 0, 1) := by decide +kernel
theorem dJ0_isLatin1_aae02_7 : decode cJ0_isLatin1_aae02 7 = .ok (.getfield 15, 3) := by decide +kernel
theorem dJ0_isLatin1_aae02_10 : decode cJ0_isLatin1_aae02 10 = .ok (.ifCond .ne 7, 3) := by decide +kernel
theorem dJ0_isLatin1_aae02_13 : decode cJ0_isLatin1_aae02 13 = .ok (.iconst 1, 1) := by decide +kernel
theorem dJ0_isLatin1_aae02_14 : decode cJ0_isLatin1_aae02 14 = .ok (.goto 4, 3) := by decide +kernel
theorem dJ0_isLatin1_aae02_17 : decode cJ0_isLatin1_aae02 17 = .ok (.iconst 0, 1) := by decide +kernel
theorem dJ0_isLatin1_aae02_18 : decode cJ0_isLatin1_aae02 18 = .ok (.ireturn, 1) := by decide +kernel
theorem dJ0_checkIndex_df160_0 : decode cJ0_checkIndex_df160 0 = .ok (.iload_n 0, 1) := by decide +kernel
theorem dJ0_checkIndex_df160_1 : decode cJ0_checkIndex_df160 1 = .ok (.iload_n 1, 1) := by decide +kernel
theorem dJ0_checkIndex_df160_2 : decode cJ0_checkIndex_df160 2 = .ok (.getstatic 1053, 3) := by decide +kernel
theorem dJ0_checkIndex_df160_5 : decode cJ0_checkIndex_df160 5 = .ok (.invokestatic 1059, 3) := by decide +kernel
theorem dJ0_checkIndex_df160_8 : decode cJ0_checkIndex_df160 8 = .ok (.pop, 1) := by decide +kernel
theorem dJ0_checkIndex_df160_9 : decode cJ0_checkIndex_df160 9 = .ok (.return_, 1) := by decide +kernel
theorem dJ1_charAt_3b067_0 : decode cJ1_charAt_3b067 0 = .ok (.iload_n 1, 1) := by decide +kernel
theorem dJ1_charAt_3b067_1 : decode cJ1_charAt_3b067 1 = .ok (.aload_n 0, 1) := by decide +kernel
theorem dJ1_charAt_3b067_2 : decode cJ1_charAt_3b067 2 = .ok (.arraylength, 1) := by decide +kernel
theorem dJ1_charAt_3b067_3 : decode cJ1_charAt_3b067 3 = .ok (.invokestatic 9, 3) := by decide +kernel
theorem dJ1_charAt_3b067_6 : decode cJ1_charAt_3b067 6 = .ok (.aload_n 0, 1) := by decide +kernel
theorem dJ1_charAt_3b067_7 : decode cJ1_charAt_3b067 7 = .ok (.iload_n 1, 1) := by decide +kernel
theorem dJ1_charAt_3b067_8 : decode cJ1_charAt_3b067 8 = .ok (.baload, 1) := by decide +kernel
theorem dJ1_charAt_3b067_9 : decode cJ1_charAt_3b067 9 = .ok (.sipush 255, 3) := by decide +kernel
theorem dJ1_charAt_3b067_12 : decode cJ1_charAt_3b067 12 = .ok (.iand, 1) := by decide +kernel
theorem dJ1_charAt_3b067_13 : decode cJ1_charAt_3b067 13 = .ok (.i2c, 1) := by decide +kernel
theorem dJ1_charAt_3b067_14 : decode cJ1_charAt_3b067 14 = .ok (.ireturn, 1) := by decide +kernel
theorem dJ2_getChar_3b067_0 : decode cJ2_getChar_3b067 0 = .ok (.getstatic 44, 3) := by decide +kernel
theorem dJ2_getChar_3b067_3 : decode cJ2_getChar_3b067 3 = .ok (.ifCond .ne 25, 3) := by decide +kernel
theorem dJ2_getChar_3b067_6 : decode cJ2_getChar_3b067 6 = .ok (.iload_n 1, 1) := by decide +kernel
theorem dJ2_getChar_3b067_7 : decode cJ2_getChar_3b067 7 = .ok (.ifCond .lt 11, 3) := by decide +kernel
theorem dJ2_getChar_3b067_10 : decode cJ2_getChar_3b067 10 = .ok (.iload_n 1, 1) := by decide +kernel
theorem dJ2_getChar_3b067_11 : decode cJ2_getChar_3b067 11 = .ok (.aload_n 0, 1) := by decide +kernel
theorem dJ2_getChar_3b067_12 : decode cJ2_getChar_3b067 12 = .ok (.invokestatic 48, 3) := by decide +kernel
theorem dJ2_getChar_3b067_15 : decode cJ2_getChar_3b067 15 = .ok (.if_icmp .lt 13, 3) := by decide +kernel
theorem dJ2_getChar_3b067_18 : decode cJ2_getChar_3b067 18 = .ok (.new 52, 3) := by decide +kernel
theorem dJ2_getChar_3b067_21 : decode cJ2_getChar_3b067 21 = .ok (.dup, 1) := by decide +kernel
theorem dJ2_getChar_3b067_22 : decode cJ2_getChar_3b067 22 = .ok (.ldc 54, 2) := by decide +kernel
theorem dJ2_getChar_3b067_24 : decode cJ2_getChar_3b067 24 = .ok (.invokespecial 56, 3) := by decide +kernel
theorem dJ2_getChar_3b067_27 : decode cJ2_getChar_3b067 27 = .ok (.athrow, 1) := by decide +kernel
theorem dJ2_getChar_3b067_28 : decode cJ2_getChar_3b067 28 = .ok (.iload_n 1, 1) := by decide +kernel
theorem dJ2_getChar_3b067_29 : decode cJ2_getChar_3b067 29 = .ok (.iconst 1, 1) := by decide +kernel
theorem dJ2_getChar_3b067_30 : decode cJ2_getChar_3b067 30 = .ok (.ishl, 1) := by decide +kernel
theorem dJ2_getChar_3b067_31 : decode cJ2_getChar_3b067 31 = .ok (.istore_n 1, 1) := by decide +kernel
theorem dJ2_getChar_3b067_32 : decode cJ2_getChar_3b067 32 = .ok (.aload_n 0, 1) := by decide +kernel
theorem dJ2_getChar_3b067_33 : decode cJ2_getChar_3b067 33 = .ok (.iload_n 1, 1) := by decide +kernel
theorem dJ2_getChar_3b067_34 : decode cJ2_getChar_3b067 34 = .ok (.iinc 1 1, 3) := by decide +kernel
theorem dJ2_getChar_3b067_37 : decode cJ2_getChar_3b067 37 = .ok (.baload, 1) := by decide +kernel
theorem dJ2_getChar_3b067_38 : decode cJ2_getChar_3b067 38 = .ok (.sipush 255, 3) := by decide +kernel
theorem dJ2_getChar_3b067_41 : decode cJ2_getChar_3b067 41 = .ok (.iand, 1) := by decide +kernel
theorem dJ2_getChar_3b067_42 : decode cJ2_getChar_3b067 42 = .ok (.getstatic 59, 3) := by decide +kernel
theorem dJ2_getChar_3b067_45 : decode cJ2_getChar_3b067 45 = .ok (.ishl, 1) := by decide +kernel
theorem dJ2_getChar_3b067_46 : decode cJ2_getChar_3b067 46 = .ok (.aload_n 0, 1) := by decide +kernel
theorem dJ2_getChar_3b067_47 : decode cJ2_getChar_3b067 47 = .ok (.iload_n 1, 1) := by decide +kernel
theorem dJ2_getChar_3b067_48 : decode cJ2_getChar_3b067 48 = .ok (.baload, 1) := by decide +kernel
theorem dJ2_getChar_3b067_49 : decode cJ2_getChar_3b067 49 = .ok (.sipush 255, 3) := by decide +kernel
theorem dJ2_getChar_3b067_52 : decode cJ2_getChar_3b067 52 = .ok (.iand, 1) := by decide +kernel
theorem dJ2_getChar_3b067_53 : decode cJ2_getChar_3b067 53 = .ok (.getstatic 63, 3) := by decide +kernel
theorem dJ2_getChar_3b067_56 : decode cJ2_getChar_3b067 56 = .ok (.ishl, 1) := by decide +kernel
theorem dJ2_getChar_3b067_57 : decode cJ2_getChar_3b067 57 = .ok (.ior, 1) := by decide +kernel
theorem dJ2_getChar_3b067_58 : decode cJ2_getChar_3b067 58 = .ok (.i2c, 1) := by decide +kernel
theorem dJ2_getChar_3b067_59 : decode cJ2_getChar_3b067 59 = .ok (.ireturn, 1) := by decide +kernel
theorem dJ2_length_9d52b_0 : decode cJ2_length_9d52b 0 = .ok (.aload_n 0, 1) := by decide +kernel
theorem dJ2_length_9d52b_1 : decode cJ2_length_9d52b 1 = .ok (.arraylength, 1) := by decide +kernel
theorem dJ2_length_9d52b_2 : decode cJ2_length_9d52b 2 = .ok (.iconst 1, 1) := by decide +kernel
theorem dJ2_length_9d52b_3 : decode cJ2_length_9d52b 3 = .ok (.ishr, 1) := by decide +kernel
theorem dJ2_length_9d52b_4 : decode cJ2_length_9d52b 4 = .ok (.ireturn, 1) := by decide +kernel
theorem dJ2_charAt_3b067_0 : decode cJ2_charAt_3b067 0 = .ok (.iload_n 1, 1) := by decide +kernel
theorem dJ2_charAt_3b067_1 : decode cJ2_charAt_3b067 1 = .ok (.aload_n 0, 1) := by decide +kernel
theorem dJ2_charAt_3b067_2 : decode cJ2_charAt_3b067 2 = .ok (.invokestatic 67, 3) := by decide +kernel
theorem dJ2_charAt_3b067_5 : decode cJ2_charAt_3b067 5 = .ok (.aload_n 0, 1) := by decide +kernel
theorem dJ2_charAt_3b067_6 : decode cJ2_charAt_3b067 6 = .ok (.iload_n 1, 1) := by decide +kernel
theorem dJ2_charAt_3b067_7 : decode cJ2_charAt_3b067 7 = .ok (.invokestatic 71, 3) := by decide +kernel
theorem dJ2_charAt_3b067_10 : decode cJ2_charAt_3b067 10 = .ok (.ireturn, 1) := by decide +kernel
theorem dJ2_checkIndex_2214a_0 : decode cJ2_checkIndex_2214a 0 = .ok (.iload_n 0, 1) := by decide +kernel
theorem dJ2_checkIndex_2214a_1 : decode cJ2_checkIndex_2214a 1 = .ok (.aload_n 1, 1) := by decide +kernel
theorem dJ2_checkIndex_2214a_2 : decode cJ2_checkIndex_2214a 2 = .ok (.invokestatic 48, 3) := by decide +kernel
theorem dJ2_checkIndex_2214a_5 : decode cJ2_checkIndex_2214a 5 = .ok (.invokestatic 414, 3) := by decide +kernel
theorem dJ2_checkIndex_2214a_8 : decode cJ2_checkIndex_2214a 8 = .ok (.return_, 1) := by decide +kernel
theorem dJ7_fill_d0a16_0 : decode cJ7_fill_d0a16 0 = .ok (.iconst 0, 1) := by decide +kernel
theorem dJ7_fill_d0a16_1 : decode cJ7_fill_d0a16 1 = .ok (.istore_n 3, 1) := by decide +kernel
theorem dJ7_fill_d0a16_2 : decode cJ7_fill_d0a16 2 = .ok (.aload_n 0, 1) := by decide +kernel
theorem dJ7_fill_d0a16_3 : decode cJ7_fill_d0a16 3 = .ok (.arraylength, 1) := by decide +kernel
theorem dJ7_fill_d0a16_4 : decode cJ7_fill_d0a16 4 = .ok (.istore 4, 2) := by decide +kernel
theorem dJ7_fill_d0a16_6 : decode cJ7_fill_d0a16 6 = .ok (.iload_n 3, 1) := by decide +kernel
theorem dJ7_fill_d0a16_7 : decode cJ7_fill_d0a16 7 = .ok (.iload 4, 2) := by decide +kernel
theorem dJ7_fill_d0a16_9 : decode cJ7_fill_d0a16 9 = .ok (.if_icmp .ge 13, 3) := by decide +kernel
theorem dJ7_fill_d0a16_12 : decode cJ7_fill_d0a16 12 = .ok (.aload_n 0, 1) := by decide +kernel
theorem dJ7_fill_d0a16_13 : decode cJ7_fill_d0a16 13 = .ok (.iload_n 3, 1) := by decide +kernel
theorem dJ7_fill_d0a16_14 : decode cJ7_fill_d0a16 14 = .ok (.lload_n 1, 1) := by decide +kernel
theorem dJ7_fill_d0a16_15 : decode cJ7_fill_d0a16 15 = .ok (.lastore, 1) := by decide +kernel
theorem dJ7_fill_d0a16_16 : decode cJ7_fill_d0a16 16 = .ok (.iinc 3 1, 3) := by decide +kernel
theorem dJ7_fill_d0a16_19 : decode cJ7_fill_d0a16 19 = .ok (.goto (-13), 3) := by decide +kernel
theorem dJ7_fill_d0a16_22 : decode cJ7_fill_d0a16 22 = .ok (.return_, 1) := by decide +kernel
theorem dJ7_fill_53178_0 : decode cJ7_fill_53178 0 = .ok (.iconst 0, 1) := by decide +kernel
theorem dJ7_fill_53178_1 : decode cJ7_fill_53178 1 = .ok (.istore_n 2, 1) := by decide +kernel
theorem dJ7_fill_53178_2 : decode cJ7_fill_53178 2 = .ok (.aload_n 0, 1) := by decide +kernel
theorem dJ7_fill_53178_3 : decode cJ7_fill_53178 3 = .ok (.arraylength, 1) := by decide +kernel
theorem dJ7_fill_53178_4 : decode cJ7_fill_53178 4 = .ok (.istore_n 3, 1) := by decide +kernel
theorem dJ7_fill_53178_5 : decode cJ7_fill_53178 5 = .ok (.iload_n 2, 1) := by decide +kernel
theorem dJ7_fill_53178_6 : decode cJ7_fill_53178 6 = .ok (.iload_n 3, 1) := by decide +kernel
theorem dJ7_fill_53178_7 : decode cJ7_fill_53178 7 = .ok (.if_icmp .ge 13, 3) := by decide +kernel
theorem dJ7_fill_53178_10 : decode cJ7_fill_53178 10 = .ok (.aload_n 0, 1) := by decide +kernel
theorem dJ7_fill_53178_11 : decode cJ7_fill_53178 11 = .ok (.iload_n 2, 1) := by decide +kernel
theorem dJ7_fill_53178_12 : decode cJ7_fill_53178 12 = .ok (.iload_n 1, 1) := by decide +kernel
theorem dJ7_fill_53178_13 : decode cJ7_fill_53178 13 = .ok (.iastore, 1) := by decide +kernel
theorem dJ7_fill_53178_14 : decode cJ7_fill_53178 14 = .ok (.iinc 2 1, 3) := by decide +kernel
theorem dJ7_fill_53178_17 : decode cJ7_fill_53178 17 = .ok (.goto (-12), 3) := by decide +kernel
theorem dJ7_fill_53178_20 : decode cJ7_fill_53178 20 = .ok (.return_, 1) := by decide +kernel
theorem dJ3_checkIndex_8e157_0 : decode cJ3_checkIndex_8e157 0 = .ok (.iload_n 0, 1) := by decide +kernel
theorem dJ3_checkIndex_8e157_1 : decode cJ3_checkIndex_8e157 1 = .ok (.ifCond .lt 8, 3) := by decide +kernel
theorem dJ3_checkIndex_8e157_4 : decode cJ3_checkIndex_8e157 4 = .ok (.iload_n 0, 1) := by decide +kernel
theorem dJ3_checkIndex_8e157_5 : decode cJ3_checkIndex_8e157 5 = .ok (.iload_n 1, 1) := by decide +kernel
theorem dJ3_checkIndex_8e157_6 : decode cJ3_checkIndex_8e157 6 = .ok (.if_icmp .lt 10, 3) := by decide +kernel
theorem dJ3_checkIndex_8e157_9 : decode cJ3_checkIndex_8e157 9 = .ok (.aload_n 2, 1) := by decide +kernel
theorem dJ3_checkIndex_8e157_10 : decode cJ3_checkIndex_8e157 10 = .ok (.iload_n 0, 1) := by decide +kernel
theorem dJ3_checkIndex_8e157_11 : decode cJ3_checkIndex_8e157 11 = .ok (.iload_n 1, 1) := by decide +kernel
theorem dJ3_checkIndex_8e157_12 : decode cJ3_checkIndex_8e157 12 = .ok (.invokestatic 95, 3) := by decide +kernel
theorem dJ3_checkIndex_8e157_15 : decode cJ3_checkIndex_8e157 15 = .ok (.athrow, 1) := by decide +kernel
theorem dJ3_checkIndex_8e157_16 : decode cJ3_checkIndex_8e157 16 = .ok (.iload_n 0, 1) := by decide +kernel
theorem dJ3_checkIndex_8e157_17 : decode cJ3_checkIndex_8e157 17 = .ok (.ireturn, 1) := by decide +kernel
