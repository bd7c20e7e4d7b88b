theorem dX0_init_0 : decode cX0_init 0 = .ok (.aload_n 0, 1) := by decide +kernel
theorem dX0_init_1 : decode cX0_init 1 = .ok (.invokespecial 3, 3) := by decide +kernel
theorem dX0_init_4 : decode cX0_init 4 = .ok (.aload_n 0, 1) := by decide +kernel
theorem dX0_init_5 : decode cX0_init 5 = .ok (.bipush 6, 2) := by decide +kernel
theorem dX0_init_7 : decode cX0_init 7 = .ok (.newarray .int, 2) := by decide +kernel
theorem dX0_init_9 : decode cX0_init 9 = .ok (.putfield 9, 3) := by decide +kernel
theorem dX0_init_12 : decode cX0_init 12 = .ok (.aload_n 0, 1) := by decide +kernel
theorem dX0_init_13 : decode cX0_init 13 = .ok (.iconst 0, 1) := by decide +kernel
theorem dX0_init_14 : decode cX0_init 14 = .ok (.putfield 15, 3) := by decide +kernel
theorem dX0_init_17 : decode cX0_init 17 = .ok (.aload_n 0, 1) := by decide +kernel
theorem dX0_init_18 : decode cX0_init 18 = .ok (.iconst 0, 1) := by decide +kernel
theorem dX0_init_19 : decode cX0_init 19 = .ok (.putfield 19, 3) := by decide +kernel
theorem dX0_init_22 : decode cX0_init 22 = .ok (.aload_n 0, 1) := by decide +kernel
theorem dX0_init_23 : decode cX0_init 23 = .ok (.lconst 0, 1) := by decide +kernel
theorem dX0_init_24 : decode cX0_init 24 = .ok (.putfield 22, 3) := by decide +kernel
theorem dX0_init_27 : decode cX0_init 27 = .ok (.aload_n 0, 1) := by decide +kernel
theorem dX0_init_28 : decode cX0_init 28 = .ok (.aload_n 1, 1) := by decide +kernel
theorem dX0_init_29 : decode cX0_init 29 = .ok (.putfield 26, 3) := by decide +kernel
theorem dX0_init_32 : decode cX0_init 32 = .ok (.aload_n 0, 1) := by decide +kernel
theorem dX0_init_33 : decode cX0_init 33 = .ok (.aload_n 2, 1) := by decide +kernel
theorem dX0_init_34 : decode cX0_init 34 = .ok (.putfield 30, 3) := by decide +kernel
theorem dX0_init_37 : decode cX0_init 37 = .ok (.return_, 1) := by decide +kernel
theorem dX0_draw_0 : decode cX0_draw 0 = .ok (.aload_n 0, 1) := by decide +kernel
theorem dX0_draw_1 : decode cX0_draw 1 = .ok (.aload_n 0, 1) := by decide +kernel
theorem dX0_draw_2 : decode cX0_draw 2 = .ok (.getfield 22, 3) := by decide +kernel
theorem dX0_draw_5 : decode cX0_draw 5 = .ok (.ldc2_w 34, 3) := by decide +kernel
theorem dX0_draw_8 : decode cX0_draw 8 = .ok (.lmul, 1) := by decide +kernel
theorem dX0_draw_9 : decode cX0_draw 9 = .ok (.ldc2_w 36, 3) := by decide +kernel
theorem dX0_draw_12 : decode cX0_draw 12 = .ok (.ladd, 1) := by decide +kernel
theorem dX0_draw_13 : decode cX0_draw 13 = .ok (.ldc2_w 38, 3) := by decide +kernel
theorem dX0_draw_16 : decode cX0_draw 16 = .ok (.lrem, 1) := by decide +kernel
theorem dX0_draw_17 : decode cX0_draw 17 = .ok (.putfield 22, 3) := by decide +kernel
theorem dX0_draw_20 : decode cX0_draw 20 = .ok (.iload_n 1, 1) := by decide +kernel
theorem dX0_draw_21 : decode cX0_draw 21 = .ok (.iconst 1, 1) := by decide +kernel
theorem dX0_draw_22 : decode cX0_draw 22 = .ok (.if_icmp .ge 7, 3) := by decide +kernel
theorem dX0_draw_25 : decode cX0_draw 25 = .ok (.iconst 0, 1) := by decide +kernel
theorem dX0_draw_26 : decode cX0_draw 26 = .ok (.goto 11, 3) := by decide +kernel
theorem dX0_draw_29 : decode cX0_draw 29 = .ok (.aload_n 0, 1) := by decide +kernel
theorem dX0_draw_30 : decode cX0_draw 30 = .ok (.getfield 22, 3) := by decide +kernel
theorem dX0_draw_33 : decode cX0_draw 33 = .ok (.iload_n 1, 1) := by decide +kernel
theorem dX0_draw_34 : decode cX0_draw 34 = .ok (.i2l, 1) := by decide +kernel
theorem dX0_draw_35 : decode cX0_draw 35 = .ok (.lrem, 1) := by decide +kernel
theorem dX0_draw_36 : decode cX0_draw 36 = .ok (.l2i, 1) := by decide +kernel
theorem dX0_draw_37 : decode cX0_draw 37 = .ok (.ireturn, 1) := by decide +kernel
theorem dX0_run_0 : decode cX0_run 0 = .ok (.aload_n 0, 1) := by decide +kernel
theorem dX0_run_1 : decode cX0_run 1 = .ok (.getfield 26, 3) := by decide +kernel
theorem dX0_run_4 : decode cX0_run 4 = .ok (.getfield 40, 3) := by decide +kernel
theorem dX0_run_7 : decode cX0_run 7 = .ok (.iconst 0, 1) := by decide +kernel
theorem dX0_run_8 : decode cX0_run 8 = .ok (.iaload, 1) := by decide +kernel
theorem dX0_run_9 : decode cX0_run 9 = .ok (.istore_n 3, 1) := by decide +kernel
theorem dX0_run_10 : decode cX0_run 10 = .ok (.aload_n 0, 1) := by decide +kernel
theorem dX0_run_11 : decode cX0_run 11 = .ok (.getfield 26, 3) := by decide +kernel
theorem dX0_run_14 : decode cX0_run 14 = .ok (.invokevirtual 45, 3) := by decide +kernel
theorem dX0_run_17 : decode cX0_run 17 = .ok (.istore 4, 2) := by decide +kernel
theorem dX0_run_19 : decode cX0_run 19 = .ok (.iconst 0, 1) := by decide +kernel
theorem dX0_run_20 : decode cX0_run 20 = .ok (.istore 5, 2) := by decide +kernel
theorem dX0_run_22 : decode cX0_run 22 = .ok (.aload_n 0, 1) := by decide +kernel
theorem dX0_run_23 : decode cX0_run 23 = .ok (.iload_n 1, 1) := by decide +kernel
theorem dX0_run_24 : decode cX0_run 24 = .ok (.i2l, 1) := by decide +kernel
theorem dX0_run_25 : decode cX0_run 25 = .ok (.putfield 22, 3) := by decide +kernel
theorem dX0_run_28 : decode cX0_run 28 = .ok (.aload_n 0, 1) := by decide +kernel
theorem dX0_run_29 : decode cX0_run 29 = .ok (.aload_n 0, 1) := by decide +kernel
theorem dX0_run_30 : decode cX0_run 30 = .ok (.getfield 26, 3) := by decide +kernel
theorem dX0_run_33 : decode cX0_run 33 = .ok (.getfield 49, 3) := by decide +kernel
theorem dX0_run_36 : decode cX0_run 36 = .ok (.putfield 15, 3) := by decide +kernel
theorem dX0_run_39 : decode cX0_run 39 = .ok (.aload_n 0, 1) := by decide +kernel
theorem dX0_run_40 : decode cX0_run 40 = .ok (.getfield 9, 3) := by decide +kernel
theorem dX0_run_43 : decode cX0_run 43 = .ok (.iconst 0, 1) := by decide +kernel
theorem dX0_run_44 : decode cX0_run 44 = .ok (.invokestatic 50, 3) := by decide +kernel
theorem dX0_run_47 : decode cX0_run 47 = .ok (.iconst 0, 1) := by decide +kernel
theorem dX0_run_48 : decode cX0_run 48 = .ok (.istore 6, 2) := by decide +kernel
theorem dX0_run_50 : decode cX0_run 50 = .ok (.iload 6, 2) := by decide +kernel
theorem dX0_run_52 : decode cX0_run 52 = .ok (.iload_n 2, 1) := by decide +kernel
theorem dX0_run_53 : decode cX0_run 53 = .ok (.if_icmp .ge 112, 3) := by decide +kernel
theorem dX0_run_56 : decode cX0_run 56 = .ok (.iload 4, 2) := by decide +kernel
theorem dX0_run_58 : decode cX0_run 58 = .ok (.invokestatic 56, 3) := by decide +kernel
theorem dX0_run_61 : decode cX0_run 61 = .ok (.ifCond .ne 42, 3) := by decide +kernel
theorem dX0_run_64 : decode cX0_run 64 = .ok (.iload_n 3, 1) := by decide +kernel
theorem dX0_run_65 : decode cX0_run 65 = .ok (.sipush 999, 3) := by decide +kernel
theorem dX0_run_68 : decode cX0_run 68 = .ok (.if_icmp .lt 6, 3) := by decide +kernel
theorem dX0_run_71 : decode cX0_run 71 = .ok (.goto 94, 3) := by decide +kernel
theorem dX0_run_74 : decode cX0_run 74 = .ok (.iinc 3 1, 3) := by decide +kernel
theorem dX0_run_77 : decode cX0_run 77 = .ok (.iinc 5 1, 3) := by decide +kernel
theorem dX0_run_80 : decode cX0_run 80 = .ok (.aload_n 0, 1) := by decide +kernel
theorem dX0_run_81 : decode cX0_run 81 = .ok (.getfield 26, 3) := by decide +kernel
theorem dX0_run_84 : decode cX0_run 84 = .ok (.invokevirtual 62, 3) := by decide +kernel
theorem dX0_run_87 : decode cX0_run 87 = .ok (.bipush 6, 2) := by decide +kernel
theorem dX0_run_89 : decode cX0_run 89 = .ok (.imul, 1) := by decide +kernel
theorem dX0_run_90 : decode cX0_run 90 = .ok (.istore 4, 2) := by decide +kernel
theorem dX0_run_92 : decode cX0_run 92 = .ok (.iload 4, 2) := by decide +kernel
theorem dX0_run_94 : decode cX0_run 94 = .ok (.invokestatic 56, 3) := by decide +kernel
theorem dX0_run_97 : decode cX0_run 97 = .ok (.ifCond .ne 6, 3) := by decide +kernel
theorem dX0_run_100 : decode cX0_run 100 = .ok (.goto 65, 3) := by decide +kernel
theorem dX0_run_103 : decode cX0_run 103 = .ok (.aload_n 0, 1) := by decide +kernel
theorem dX0_run_104 : decode cX0_run 104 = .ok (.getfield 30, 3) := by decide +kernel
theorem dX0_run_107 : decode cX0_run 107 = .ok (.aload_n 0, 1) := by decide +kernel
theorem dX0_run_108 : decode cX0_run 108 = .ok (.getfield 26, 3) := by decide +kernel
theorem dX0_run_111 : decode cX0_run 111 = .ok (.invokevirtual 65, 3) := by decide +kernel
theorem dX0_run_114 : decode cX0_run 114 = .ok (.iload_n 3, 1) := by decide +kernel
theorem dX0_run_115 : decode cX0_run 115 = .ok (.invokevirtual 69, 3) := by decide +kernel
theorem dX0_run_118 : decode cX0_run 118 = .ok (.aload_n 0, 1) := by decide +kernel
theorem dX0_run_119 : decode cX0_run 119 = .ok (.iload 4, 2) := by decide +kernel
theorem dX0_run_121 : decode cX0_run 121 = .ok (.invokevirtual 75, 3) := by decide +kernel
theorem dX0_run_124 : decode cX0_run 124 = .ok (.istore 4, 2) := by decide +kernel
theorem dX0_run_126 : decode cX0_run 126 = .ok (.iload 4, 2) := by decide +kernel
theorem dX0_run_128 : decode cX0_run 128 = .ok (.invokestatic 79, 3) := by decide +kernel
theorem dX0_run_131 : decode cX0_run 131 = .ok (.istore 7, 2) := by decide +kernel
theorem dX0_run_133 : decode cX0_run 133 = .ok (.iload 7, 2) := by decide +kernel
theorem dX0_run_135 : decode cX0_run 135 = .ok (.ifCond .lt 24, 3) := by decide +kernel
theorem dX0_run_138 : decode cX0_run 138 = .ok (.iload 7, 2) := by decide +kernel
theorem dX0_run_140 : decode cX0_run 140 = .ok (.aload_n 0, 1) := by decide +kernel
theorem dX0_run_141 : decode cX0_run 141 = .ok (.getfield 9, 3) := by decide +kernel
theorem dX0_run_144 : decode cX0_run 144 = .ok (.arraylength, 1) := by decide +kernel
theorem dX0_run_145 : decode cX0_run 145 = .ok (.if_icmp .ge 14, 3) := by decide +kernel
theorem dX0_run_148 : decode cX0_run 148 = .ok (.aload_n 0, 1) := by decide +kernel
theorem dX0_run_149 : decode cX0_run 149 = .ok (.getfield 9, 3) := by decide +kernel
theorem dX0_run_152 : decode cX0_run 152 = .ok (.iload 7, 2) := by decide +kernel
theorem dX0_run_154 : decode cX0_run 154 = .ok (.dup2, 1) := by decide +kernel
theorem dX0_run_155 : decode cX0_run 155 = .ok (.iaload, 1) := by decide +kernel
theorem dX0_run_156 : decode cX0_run 156 = .ok (.iconst 1, 1) := by decide +kernel
theorem dX0_run_157 : decode cX0_run 157 = .ok (.iadd, 1) := by decide +kernel
theorem dX0_run_158 : decode cX0_run 158 = .ok (.iastore, 1) := by decide +kernel
theorem dX0_run_159 : decode cX0_run 159 = .ok (.iinc 6 1, 3) := by decide +kernel
theorem dX0_run_162 : decode cX0_run 162 = .ok (.goto (-112), 3) := by decide +kernel
theorem dX0_run_165 : decode cX0_run 165 = .ok (.aload_n 0, 1) := by decide +kernel
theorem dX0_run_166 : decode cX0_run 166 = .ok (.iload 4, 2) := by decide +kernel
theorem dX0_run_168 : decode cX0_run 168 = .ok (.bipush 6, 2) := by decide +kernel
theorem dX0_run_170 : decode cX0_run 170 = .ok (.idiv, 1) := by decide +kernel
theorem dX0_run_171 : decode cX0_run 171 = .ok (.putfield 19, 3) := by decide +kernel
theorem dX0_run_174 : decode cX0_run 174 = .ok (.iload 5, 2) := by decide +kernel
theorem dX0_run_176 : decode cX0_run 176 = .ok (.ireturn, 1) := by decide +kernel
theorem dX0_stateBehindDraws_0 : decode cX0_stateBehindDraws 0 = .ok (.aload_n 0, 1) := by decide +kernel
theorem dX0_stateBehindDraws_1 : decode cX0_stateBehindDraws 1 = .ok (.aload_n 0, 1) := by decide +kernel
theorem dX0_stateBehindDraws_2 : decode cX0_stateBehindDraws 2 = .ok (.getfield 26, 3) := by decide +kernel
theorem dX0_stateBehindDraws_5 : decode cX0_stateBehindDraws 5 = .ok (.getfield 82, 3) := by decide +kernel
theorem dX0_stateBehindDraws_8 : decode cX0_stateBehindDraws 8 = .ok (.invokevirtual 85, 3) := by decide +kernel
theorem dX0_stateBehindDraws_11 : decode cX0_stateBehindDraws 11 = .ok (.istore_n 2, 1) := by decide +kernel
theorem dX0_stateBehindDraws_12 : decode cX0_stateBehindDraws 12 = .ok (.aload_n 0, 1) := by decide +kernel
theorem dX0_stateBehindDraws_13 : decode cX0_stateBehindDraws 13 = .ok (.bipush 10, 2) := by decide +kernel
theorem dX0_stateBehindDraws_15 : decode cX0_stateBehindDraws 15 = .ok (.invokevirtual 85, 3) := by decide +kernel
theorem dX0_stateBehindDraws_18 : decode cX0_stateBehindDraws 18 = .ok (.aload_n 0, 1) := by decide +kernel
theorem dX0_stateBehindDraws_19 : decode cX0_stateBehindDraws 19 = .ok (.getfield 26, 3) := by decide +kernel
theorem dX0_stateBehindDraws_22 : decode cX0_stateBehindDraws 22 = .ok (.getfield 40, 3) := by decide +kernel
theorem dX0_stateBehindDraws_25 : decode cX0_stateBehindDraws 25 = .ok (.iconst 2, 1) := by decide +kernel
theorem dX0_stateBehindDraws_26 : decode cX0_stateBehindDraws 26 = .ok (.iaload, 1) := by decide +kernel
theorem dX0_stateBehindDraws_27 : decode cX0_stateBehindDraws 27 = .ok (.if_icmp .ge 7, 3) := by decide +kernel
theorem dX0_stateBehindDraws_30 : decode cX0_stateBehindDraws 30 = .ok (.iconst 1, 1) := by decide +kernel
theorem dX0_stateBehindDraws_31 : decode cX0_stateBehindDraws 31 = .ok (.goto 4, 3) := by decide +kernel
theorem dX0_stateBehindDraws_34 : decode cX0_stateBehindDraws 34 = .ok (.iconst 0, 1) := by decide +kernel
theorem dX0_stateBehindDraws_35 : decode cX0_stateBehindDraws 35 = .ok (.istore_n 3, 1) := by decide +kernel
theorem dX0_stateBehindDraws_36 : decode cX0_stateBehindDraws 36 = .ok (.aload_n 0, 1) := by decide +kernel
theorem dX0_stateBehindDraws_37 : decode cX0_stateBehindDraws 37 = .ok (.getfield 30, 3) := by decide +kernel
theorem dX0_stateBehindDraws_40 : decode cX0_stateBehindDraws 40 = .ok (.iload_n 1, 1) := by decide +kernel
theorem dX0_stateBehindDraws_41 : decode cX0_stateBehindDraws 41 = .ok (.bipush 6, 2) := by decide +kernel
theorem dX0_stateBehindDraws_43 : decode cX0_stateBehindDraws 43 = .ok (.idiv, 1) := by decide +kernel
theorem dX0_stateBehindDraws_44 : decode cX0_stateBehindDraws 44 = .ok (.iload_n 1, 1) := by decide +kernel
theorem dX0_stateBehindDraws_45 : decode cX0_stateBehindDraws 45 = .ok (.bipush 6, 2) := by decide +kernel
theorem dX0_stateBehindDraws_47 : decode cX0_stateBehindDraws 47 = .ok (.irem, 1) := by decide +kernel
theorem dX0_stateBehindDraws_48 : decode cX0_stateBehindDraws 48 = .ok (.iload_n 2, 1) := by decide +kernel
theorem dX0_stateBehindDraws_49 : decode cX0_stateBehindDraws 49 = .ok (.iload_n 3, 1) := by decide +kernel
theorem dX0_stateBehindDraws_50 : decode cX0_stateBehindDraws 50 = .ok (.invokevirtual 88, 3) := by decide +kernel
theorem dX0_stateBehindDraws_53 : decode cX0_stateBehindDraws 53 = .ok (.istore 4, 2) := by decide +kernel
theorem dX0_stateBehindDraws_55 : decode cX0_stateBehindDraws 55 = .ok (.aload_n 0, 1) := by decide +kernel
theorem dX0_stateBehindDraws_56 : decode cX0_stateBehindDraws 56 = .ok (.getfield 30, 3) := by decide +kernel
theorem dX0_stateBehindDraws_59 : decode cX0_stateBehindDraws 59 = .ok (.iload_n 1, 1) := by decide +kernel
theorem dX0_stateBehindDraws_60 : decode cX0_stateBehindDraws 60 = .ok (.bipush 6, 2) := by decide +kernel
theorem dX0_stateBehindDraws_62 : decode cX0_stateBehindDraws 62 = .ok (.idiv, 1) := by decide +kernel
theorem dX0_stateBehindDraws_63 : decode cX0_stateBehindDraws 63 = .ok (.iload 4, 2) := by decide +kernel
theorem dX0_stateBehindDraws_65 : decode cX0_stateBehindDraws 65 = .ok (.invokevirtual 92, 3) := by decide +kernel
theorem dX0_stateBehindDraws_68 : decode cX0_stateBehindDraws 68 = .ok (.ireturn, 1) := by decide +kernel
theorem dX1_init_0 : decode cX1_init 0 = .ok (.aload_n 0, 1) := by decide +kernel
theorem dX1_init_1 : decode cX1_init 1 = .ok (.invokespecial 3, 3) := by decide +kernel
theorem dX1_init_4 : decode cX1_init 4 = .ok (.aload_n 0, 1) := by decide +kernel
theorem dX1_init_5 : decode cX1_init 5 = .ok (.bipush 6, 2) := by decide +kernel
theorem dX1_init_7 : decode cX1_init 7 = .ok (.newarray .int, 2) := by decide +kernel
theorem dX1_init_9 : decode cX1_init 9 = .ok (.putfield 9, 3) := by decide +kernel
theorem dX1_init_12 : decode cX1_init 12 = .ok (.aload_n 0, 1) := by decide +kernel
theorem dX1_init_13 : decode cX1_init 13 = .ok (.sipush 384, 3) := by decide +kernel
theorem dX1_init_16 : decode cX1_init 16 = .ok (.newarray .int, 2) := by decide +kernel
theorem dX1_init_18 : decode cX1_init 18 = .ok (.putfield 15, 3) := by decide +kernel
theorem dX1_init_21 : decode cX1_init 21 = .ok (.aload_n 0, 1) := by decide +kernel
theorem dX1_init_22 : decode cX1_init 22 = .ok (.sipush 384, 3) := by decide +kernel
theorem dX1_init_25 : decode cX1_init 25 = .ok (.newarray .int, 2) := by decide +kernel
theorem dX1_init_27 : decode cX1_init 27 = .ok (.putfield 18, 3) := by decide +kernel
theorem dX1_init_30 : decode cX1_init 30 = .ok (.aload_n 0, 1) := by decide +kernel
theorem dX1_init_31 : decode cX1_init 31 = .ok (.sipush 384, 3) := by decide +kernel
theorem dX1_init_34 : decode cX1_init 34 = .ok (.newarray .int, 2) := by decide +kernel
theorem dX1_init_36 : decode cX1_init 36 = .ok (.putfield 21, 3) := by decide +kernel
theorem dX1_init_39 : decode cX1_init 39 = .ok (.aload_n 0, 1) := by decide +kernel
theorem dX1_init_40 : decode cX1_init 40 = .ok (.sipush 384, 3) := by decide +kernel
theorem dX1_init_43 : decode cX1_init 43 = .ok (.newarray .int, 2) := by decide +kernel
theorem dX1_init_45 : decode cX1_init 45 = .ok (.putfield 24, 3) := by decide +kernel
theorem dX1_init_48 : decode cX1_init 48 = .ok (.aload_n 0, 1) := by decide +kernel
theorem dX1_init_49 : decode cX1_init 49 = .ok (.sipush 384, 3) := by decide +kernel
theorem dX1_init_52 : decode cX1_init 52 = .ok (.newarray .long, 2) := by decide +kernel
theorem dX1_init_54 : decode cX1_init 54 = .ok (.putfield 27, 3) := by decide +kernel
theorem dX1_init_57 : decode cX1_init 57 = .ok (.aload_n 0, 1) := by decide +kernel
theorem dX1_init_58 : decode cX1_init 58 = .ok (.sipush 384, 3) := by decide +kernel
theorem dX1_init_61 : decode cX1_init 61 = .ok (.newarray .long, 2) := by decide +kernel
theorem dX1_init_63 : decode cX1_init 63 = .ok (.putfield 31, 3) := by decide +kernel
theorem dX1_init_66 : decode cX1_init 66 = .ok (.aload_n 0, 1) := by decide +kernel
theorem dX1_init_67 : decode cX1_init 67 = .ok (.iconst 0, 1) := by decide +kernel
theorem dX1_init_68 : decode cX1_init 68 = .ok (.putfield 34, 3) := by decide +kernel
theorem dX1_init_71 : decode cX1_init 71 = .ok (.aload_n 0, 1) := by decide +kernel
theorem dX1_init_72 : decode cX1_init 72 = .ok (.iconst 0, 1) := by decide +kernel
theorem dX1_init_73 : decode cX1_init 73 = .ok (.putfield 38, 3) := by decide +kernel
theorem dX1_init_76 : decode cX1_init 76 = .ok (.aload_n 0, 1) := by decide +kernel
theorem dX1_init_77 : decode cX1_init 77 = .ok (.iconst (-1), 1) := by decide +kernel
theorem dX1_init_78 : decode cX1_init 78 = .ok (.putfield 41, 3) := by decide +kernel
theorem dX1_init_81 : decode cX1_init 81 = .ok (.aload_n 0, 1) := by decide +kernel
theorem dX1_init_82 : decode cX1_init 82 = .ok (.aload_n 1, 1) := by decide +kernel
theorem dX1_init_83 : decode cX1_init 83 = .ok (.putfield 44, 3) := by decide +kernel
theorem dX1_init_86 : decode cX1_init 86 = .ok (.aload_n 0, 1) := by decide +kernel
theorem dX1_init_87 : decode cX1_init 87 = .ok (.aload_n 2, 1) := by decide +kernel
theorem dX1_init_88 : decode cX1_init 88 = .ok (.putfield 48, 3) := by decide +kernel
theorem dX1_init_91 : decode cX1_init 91 = .ok (.return_, 1) := by decide +kernel
theorem dX1_onlyOneIn_0 : decode cX1_onlyOneIn 0 = .ok (.iload_n 0, 1) := by decide +kernel
theorem dX1_onlyOneIn_1 : decode cX1_onlyOneIn 1 = .ok (.bipush 6, 2) := by decide +kernel
theorem dX1_onlyOneIn_3 : decode cX1_onlyOneIn 3 = .ok (.idiv, 1) := by decide +kernel
theorem dX1_onlyOneIn_4 : decode cX1_onlyOneIn 4 = .ok (.istore_n 1, 1) := by decide +kernel
theorem dX1_onlyOneIn_5 : decode cX1_onlyOneIn 5 = .ok (.iload_n 1, 1) := by decide +kernel
theorem dX1_onlyOneIn_6 : decode cX1_onlyOneIn 6 = .ok (.invokestatic 52, 3) := by decide +kernel
theorem dX1_onlyOneIn_9 : decode cX1_onlyOneIn 9 = .ok (.iconst 1, 1) := by decide +kernel
theorem dX1_onlyOneIn_10 : decode cX1_onlyOneIn 10 = .ok (.if_icmp .ne 10, 3) := by decide +kernel
theorem dX1_onlyOneIn_13 : decode cX1_onlyOneIn 13 = .ok (.iload_n 1, 1) := by decide +kernel
theorem dX1_onlyOneIn_14 : decode cX1_onlyOneIn 14 = .ok (.invokestatic 58, 3) := by decide +kernel
theorem dX1_onlyOneIn_17 : decode cX1_onlyOneIn 17 = .ok (.goto 4, 3) := by decide +kernel
theorem dX1_onlyOneIn_20 : decode cX1_onlyOneIn 20 = .ok (.iconst (-1), 1) := by decide +kernel
theorem dX1_onlyOneIn_21 : decode cX1_onlyOneIn 21 = .ok (.ireturn, 1) := by decide +kernel
theorem dX1_goesOn_0 : decode cX1_goesOn 0 = .ok (.iload_n 0, 1) := by decide +kernel
theorem dX1_goesOn_1 : decode cX1_goesOn 1 = .ok (.bipush 6, 2) := by decide +kernel
theorem dX1_goesOn_3 : decode cX1_goesOn 3 = .ok (.idiv, 1) := by decide +kernel
theorem dX1_goesOn_4 : decode cX1_goesOn 4 = .ok (.invokestatic 52, 3) := by decide +kernel
theorem dX1_goesOn_7 : decode cX1_goesOn 7 = .ok (.iconst 1, 1) := by decide +kernel
theorem dX1_goesOn_8 : decode cX1_goesOn 8 = .ok (.if_icmp .le 7, 3) := by decide +kernel
theorem dX1_goesOn_11 : decode cX1_goesOn 11 = .ok (.iconst 1, 1) := by decide +kernel
theorem dX1_goesOn_12 : decode cX1_goesOn 12 = .ok (.goto 4, 3) := by decide +kernel
theorem dX1_goesOn_15 : decode cX1_goesOn 15 = .ok (.iconst 0, 1) := by decide +kernel
theorem dX1_goesOn_16 : decode cX1_goesOn 16 = .ok (.ireturn, 1) := by decide +kernel
theorem dX1_lastBy_0 : decode cX1_lastBy 0 = .ok (.iload_n 1, 1) := by decide +kernel
theorem dX1_lastBy_1 : decode cX1_lastBy 1 = .ok (.istore_n 3, 1) := by decide +kernel
theorem dX1_lastBy_2 : decode cX1_lastBy 2 = .ok (.aload_n 0, 1) := by decide +kernel
theorem dX1_lastBy_3 : decode cX1_lastBy 3 = .ok (.iconst 0, 1) := by decide +kernel
theorem dX1_lastBy_4 : decode cX1_lastBy 4 = .ok (.putfield 34, 3) := by decide +kernel
theorem dX1_lastBy_7 : decode cX1_lastBy 7 = .ok (.iconst 0, 1) := by decide +kernel
theorem dX1_lastBy_8 : decode cX1_lastBy 8 = .ok (.istore 4, 2) := by decide +kernel
theorem dX1_lastBy_10 : decode cX1_lastBy 10 = .ok (.iload 4, 2) := by decide +kernel
theorem dX1_lastBy_12 : decode cX1_lastBy 12 = .ok (.bipush 60, 2) := by decide +kernel
theorem dX1_lastBy_14 : decode cX1_lastBy 14 = .ok (.if_icmp .ge 85, 3) := by decide +kernel
theorem dX1_lastBy_17 : decode cX1_lastBy 17 = .ok (.iload_n 3, 1) := by decide +kernel
theorem dX1_lastBy_18 : decode cX1_lastBy 18 = .ok (.invokestatic 61, 3) := by decide +kernel
theorem dX1_lastBy_21 : decode cX1_lastBy 21 = .ok (.ifCond .eq 78, 3) := by decide +kernel
theorem dX1_lastBy_24 : decode cX1_lastBy 24 = .ok (.aload_n 0, 1) := by decide +kernel
theorem dX1_lastBy_25 : decode cX1_lastBy 25 = .ok (.getfield 48, 3) := by decide +kernel
theorem dX1_lastBy_28 : decode cX1_lastBy 28 = .ok (.iload_n 3, 1) := by decide +kernel
theorem dX1_lastBy_29 : decode cX1_lastBy 29 = .ok (.iload_n 2, 1) := by decide +kernel
theorem dX1_lastBy_30 : decode cX1_lastBy 30 = .ok (.invokevirtual 65, 3) := by decide +kernel
theorem dX1_lastBy_33 : decode cX1_lastBy 33 = .ok (.istore 5, 2) := by decide +kernel
theorem dX1_lastBy_35 : decode cX1_lastBy 35 = .ok (.iload_n 3, 1) := by decide +kernel
theorem dX1_lastBy_36 : decode cX1_lastBy 36 = .ok (.bipush 6, 2) := by decide +kernel
theorem dX1_lastBy_38 : decode cX1_lastBy 38 = .ok (.idiv, 1) := by decide +kernel
theorem dX1_lastBy_39 : decode cX1_lastBy 39 = .ok (.iload 5, 2) := by decide +kernel
theorem dX1_lastBy_41 : decode cX1_lastBy 41 = .ok (.bipush 6, 2) := by decide +kernel
theorem dX1_lastBy_43 : decode cX1_lastBy 43 = .ok (.idiv, 1) := by decide +kernel
theorem dX1_lastBy_44 : decode cX1_lastBy 44 = .ok (.iconst (-1), 1) := by decide +kernel
theorem dX1_lastBy_45 : decode cX1_lastBy 45 = .ok (.ixor, 1) := by decide +kernel
theorem dX1_lastBy_46 : decode cX1_lastBy 46 = .ok (.iand, 1) := by decide +kernel
theorem dX1_lastBy_47 : decode cX1_lastBy 47 = .ok (.istore 6, 2) := by decide +kernel
theorem dX1_lastBy_49 : decode cX1_lastBy 49 = .ok (.iload 6, 2) := by decide +kernel
theorem dX1_lastBy_51 : decode cX1_lastBy 51 = .ok (.ifCond .eq 39, 3) := by decide +kernel
theorem dX1_lastBy_54 : decode cX1_lastBy 54 = .ok (.aload_n 0, 1) := by decide +kernel
theorem dX1_lastBy_55 : decode cX1_lastBy 55 = .ok (.getfield 34, 3) := by decide +kernel
theorem dX1_lastBy_58 : decode cX1_lastBy 58 = .ok (.aload_n 0, 1) := by decide +kernel
theorem dX1_lastBy_59 : decode cX1_lastBy 59 = .ok (.getfield 9, 3) := by decide +kernel
theorem dX1_lastBy_62 : decode cX1_lastBy 62 = .ok (.arraylength, 1) := by decide +kernel
theorem dX1_lastBy_63 : decode cX1_lastBy 63 = .ok (.if_icmp .ge 27, 3) := by decide +kernel
theorem dX1_lastBy_66 : decode cX1_lastBy 66 = .ok (.aload_n 0, 1) := by decide +kernel
theorem dX1_lastBy_67 : decode cX1_lastBy 67 = .ok (.getfield 9, 3) := by decide +kernel
theorem dX1_lastBy_70 : decode cX1_lastBy 70 = .ok (.aload_n 0, 1) := by decide +kernel
theorem dX1_lastBy_71 : decode cX1_lastBy 71 = .ok (.getfield 34, 3) := by decide +kernel
theorem dX1_lastBy_74 : decode cX1_lastBy 74 = .ok (.iload 6, 2) := by decide +kernel
theorem dX1_lastBy_76 : decode cX1_lastBy 76 = .ok (.invokestatic 58, 3) := by decide +kernel
theorem dX1_lastBy_79 : decode cX1_lastBy 79 = .ok (.iastore, 1) := by decide +kernel
theorem dX1_lastBy_80 : decode cX1_lastBy 80 = .ok (.aload_n 0, 1) := by decide +kernel
theorem dX1_lastBy_81 : decode cX1_lastBy 81 = .ok (.dup, 1) := by decide +kernel
theorem dX1_lastBy_82 : decode cX1_lastBy 82 = .ok (.getfield 34, 3) := by decide +kernel
theorem dX1_lastBy_85 : decode cX1_lastBy 85 = .ok (.iconst 1, 1) := by decide +kernel
theorem dX1_lastBy_86 : decode cX1_lastBy 86 = .ok (.iadd, 1) := by decide +kernel
theorem dX1_lastBy_87 : decode cX1_lastBy 87 = .ok (.putfield 34, 3) := by decide +kernel
theorem dX1_lastBy_90 : decode cX1_lastBy 90 = .ok (.iload 5, 2) := by decide +kernel
theorem dX1_lastBy_92 : decode cX1_lastBy 92 = .ok (.istore_n 3, 1) := by decide +kernel
theorem dX1_lastBy_93 : decode cX1_lastBy 93 = .ok (.iinc 4 1, 3) := by decide +kernel
theorem dX1_lastBy_96 : decode cX1_lastBy 96 = .ok (.goto (-86), 3) := by decide +kernel
theorem dX1_lastBy_99 : decode cX1_lastBy 99 = .ok (.iload_n 3, 1) := by decide +kernel
theorem dX1_lastBy_100 : decode cX1_lastBy 100 = .ok (.invokestatic 71, 3) := by decide +kernel
theorem dX1_lastBy_103 : decode cX1_lastBy 103 = .ok (.ireturn, 1) := by decide +kernel
theorem dX1_reach_0 : decode cX1_reach 0 = .ok (.aload_n 0, 1) := by decide +kernel
theorem dX1_reach_1 : decode cX1_reach 1 = .ok (.getfield 18, 3) := by decide +kernel
theorem dX1_reach_4 : decode cX1_reach 4 = .ok (.iconst (-1), 1) := by decide +kernel
theorem dX1_reach_5 : decode cX1_reach 5 = .ok (.invokestatic 74, 3) := by decide +kernel
theorem dX1_reach_8 : decode cX1_reach 8 = .ok (.aload_n 0, 1) := by decide +kernel
theorem dX1_reach_9 : decode cX1_reach 9 = .ok (.getfield 18, 3) := by decide +kernel
theorem dX1_reach_12 : decode cX1_reach 12 = .ok (.iload_n 1, 1) := by decide +kernel
theorem dX1_reach_13 : decode cX1_reach 13 = .ok (.bipush (-2), 2) := by decide +kernel
theorem dX1_reach_15 : decode cX1_reach 15 = .ok (.iastore, 1) := by decide +kernel
theorem dX1_reach_16 : decode cX1_reach 16 = .ok (.aload_n 0, 1) := by decide +kernel
theorem dX1_reach_17 : decode cX1_reach 17 = .ok (.getfield 15, 3) := by decide +kernel
theorem dX1_reach_20 : decode cX1_reach 20 = .ok (.iconst 0, 1) := by decide +kernel
theorem dX1_reach_21 : decode cX1_reach 21 = .ok (.iload_n 1, 1) := by decide +kernel
theorem dX1_reach_22 : decode cX1_reach 22 = .ok (.iastore, 1) := by decide +kernel
theorem dX1_reach_23 : decode cX1_reach 23 = .ok (.aload_n 0, 1) := by decide +kernel
theorem dX1_reach_24 : decode cX1_reach 24 = .ok (.iconst 1, 1) := by decide +kernel
theorem dX1_reach_25 : decode cX1_reach 25 = .ok (.putfield 38, 3) := by decide +kernel
theorem dX1_reach_28 : decode cX1_reach 28 = .ok (.iload_n 1, 1) := by decide +kernel
theorem dX1_reach_29 : decode cX1_reach 29 = .ok (.bipush 6, 2) := by decide +kernel
theorem dX1_reach_31 : decode cX1_reach 31 = .ok (.idiv, 1) := by decide +kernel
theorem dX1_reach_32 : decode cX1_reach 32 = .ok (.iload_n 2, 1) := by decide +kernel
theorem dX1_reach_33 : decode cX1_reach 33 = .ok (.if_icmp .ne 5, 3) := by decide +kernel
theorem dX1_reach_36 : decode cX1_reach 36 = .ok (.iload_n 1, 1) := by decide +kernel
theorem dX1_reach_37 : decode cX1_reach 37 = .ok (.ireturn, 1) := by decide +kernel
theorem dX1_reach_38 : decode cX1_reach 38 = .ok (.iconst 0, 1) := by decide +kernel
theorem dX1_reach_39 : decode cX1_reach 39 = .ok (.istore_n 3, 1) := by decide +kernel
theorem dX1_reach_40 : decode cX1_reach 40 = .ok (.iload_n 3, 1) := by decide +kernel
theorem dX1_reach_41 : decode cX1_reach 41 = .ok (.aload_n 0, 1) := by decide +kernel
theorem dX1_reach_42 : decode cX1_reach 42 = .ok (.getfield 38, 3) := by decide +kernel
theorem dX1_reach_45 : decode cX1_reach 45 = .ok (.if_icmp .ge 137, 3) := by decide +kernel
theorem dX1_reach_48 : decode cX1_reach 48 = .ok (.iload_n 3, 1) := by decide +kernel
theorem dX1_reach_49 : decode cX1_reach 49 = .ok (.sipush 384, 3) := by decide +kernel
theorem dX1_reach_52 : decode cX1_reach 52 = .ok (.if_icmp .ge 130, 3) := by decide +kernel
theorem dX1_reach_55 : decode cX1_reach 55 = .ok (.aload_n 0, 1) := by decide +kernel
theorem dX1_reach_56 : decode cX1_reach 56 = .ok (.getfield 15, 3) := by decide +kernel
theorem dX1_reach_59 : decode cX1_reach 59 = .ok (.iload_n 3, 1) := by decide +kernel
theorem dX1_reach_60 : decode cX1_reach 60 = .ok (.iaload, 1) := by decide +kernel
theorem dX1_reach_61 : decode cX1_reach 61 = .ok (.istore 4, 2) := by decide +kernel
theorem dX1_reach_63 : decode cX1_reach 63 = .ok (.iconst 0, 1) := by decide +kernel
theorem dX1_reach_64 : decode cX1_reach 64 = .ok (.istore 5, 2) := by decide +kernel
theorem dX1_reach_66 : decode cX1_reach 66 = .ok (.iload 5, 2) := by decide +kernel
theorem dX1_reach_68 : decode cX1_reach 68 = .ok (.aload_n 0, 1) := by decide +kernel
theorem dX1_reach_69 : decode cX1_reach 69 = .ok (.getfield 44, 3) := by decide +kernel
theorem dX1_reach_72 : decode cX1_reach 72 = .ok (.getfield 80, 3) := by decide +kernel
theorem dX1_reach_75 : decode cX1_reach 75 = .ok (.if_icmp .ge 101, 3) := by decide +kernel
theorem dX1_reach_78 : decode cX1_reach 78 = .ok (.iload 4, 2) := by decide +kernel
theorem dX1_reach_80 : decode cX1_reach 80 = .ok (.invokestatic 61, 3) := by decide +kernel
theorem dX1_reach_83 : decode cX1_reach 83 = .ok (.ifCond .eq 93, 3) := by decide +kernel
theorem dX1_reach_86 : decode cX1_reach 86 = .ok (.aload_n 0, 1) := by decide +kernel
theorem dX1_reach_87 : decode cX1_reach 87 = .ok (.getfield 48, 3) := by decide +kernel
theorem dX1_reach_90 : decode cX1_reach 90 = .ok (.iload 4, 2) := by decide +kernel
theorem dX1_reach_92 : decode cX1_reach 92 = .ok (.iload 5, 2) := by decide +kernel
theorem dX1_reach_94 : decode cX1_reach 94 = .ok (.invokevirtual 65, 3) := by decide +kernel
theorem dX1_reach_97 : decode cX1_reach 97 = .ok (.istore 6, 2) := by decide +kernel
theorem dX1_reach_99 : decode cX1_reach 99 = .ok (.aload_n 0, 1) := by decide +kernel
theorem dX1_reach_100 : decode cX1_reach 100 = .ok (.getfield 18, 3) := by decide +kernel
theorem dX1_reach_103 : decode cX1_reach 103 = .ok (.iload 6, 2) := by decide +kernel
theorem dX1_reach_105 : decode cX1_reach 105 = .ok (.iaload, 1) := by decide +kernel
theorem dX1_reach_106 : decode cX1_reach 106 = .ok (.iconst (-1), 1) := by decide +kernel
theorem dX1_reach_107 : decode cX1_reach 107 = .ok (.if_icmp .ne 63, 3) := by decide +kernel
theorem dX1_reach_110 : decode cX1_reach 110 = .ok (.aload_n 0, 1) := by decide +kernel
theorem dX1_reach_111 : decode cX1_reach 111 = .ok (.getfield 38, 3) := by decide +kernel
theorem dX1_reach_114 : decode cX1_reach 114 = .ok (.sipush 384, 3) := by decide +kernel
theorem dX1_reach_117 : decode cX1_reach 117 = .ok (.if_icmp .lt 6, 3) := by decide +kernel
theorem dX1_reach_120 : decode cX1_reach 120 = .ok (.goto 50, 3) := by decide +kernel
theorem dX1_reach_123 : decode cX1_reach 123 = .ok (.aload_n 0, 1) := by decide +kernel
theorem dX1_reach_124 : decode cX1_reach 124 = .ok (.getfield 18, 3) := by decide +kernel
theorem dX1_reach_127 : decode cX1_reach 127 = .ok (.iload 6, 2) := by decide +kernel
theorem dX1_reach_129 : decode cX1_reach 129 = .ok (.iload 4, 2) := by decide +kernel
theorem dX1_reach_131 : decode cX1_reach 131 = .ok (.iconst 5, 1) := by decide +kernel
theorem dX1_reach_132 : decode cX1_reach 132 = .ok (.imul, 1) := by decide +kernel
theorem dX1_reach_133 : decode cX1_reach 133 = .ok (.iload 5, 2) := by decide +kernel
theorem dX1_reach_135 : decode cX1_reach 135 = .ok (.iadd, 1) := by decide +kernel
theorem dX1_reach_136 : decode cX1_reach 136 = .ok (.iastore, 1) := by decide +kernel
theorem dX1_reach_137 : decode cX1_reach 137 = .ok (.aload_n 0, 1) := by decide +kernel
theorem dX1_reach_138 : decode cX1_reach 138 = .ok (.getfield 15, 3) := by decide +kernel
theorem dX1_reach_141 : decode cX1_reach 141 = .ok (.aload_n 0, 1) := by decide +kernel
theorem dX1_reach_142 : decode cX1_reach 142 = .ok (.getfield 38, 3) := by decide +kernel
theorem dX1_reach_145 : decode cX1_reach 145 = .ok (.iload 6, 2) := by decide +kernel
theorem dX1_reach_147 : decode cX1_reach 147 = .ok (.iastore, 1) := by decide +kernel
theorem dX1_reach_148 : decode cX1_reach 148 = .ok (.aload_n 0, 1) := by decide +kernel
theorem dX1_reach_149 : decode cX1_reach 149 = .ok (.dup, 1) := by decide +kernel
theorem dX1_reach_150 : decode cX1_reach 150 = .ok (.getfield 38, 3) := by decide +kernel
theorem dX1_reach_153 : decode cX1_reach 153 = .ok (.iconst 1, 1) := by decide +kernel
theorem dX1_reach_154 : decode cX1_reach 154 = .ok (.iadd, 1) := by decide +kernel
theorem dX1_reach_155 : decode cX1_reach 155 = .ok (.putfield 38, 3) := by decide +kernel
theorem dX1_reach_158 : decode cX1_reach 158 = .ok (.iload 6, 2) := by decide +kernel
theorem dX1_reach_160 : decode cX1_reach 160 = .ok (.bipush 6, 2) := by decide +kernel
theorem dX1_reach_162 : decode cX1_reach 162 = .ok (.idiv, 1) := by decide +kernel
theorem dX1_reach_163 : decode cX1_reach 163 = .ok (.iload_n 2, 1) := by decide +kernel
theorem dX1_reach_164 : decode cX1_reach 164 = .ok (.if_icmp .ne 6, 3) := by decide +kernel
theorem dX1_reach_167 : decode cX1_reach 167 = .ok (.iload 6, 2) := by decide +kernel
theorem dX1_reach_169 : decode cX1_reach 169 = .ok (.ireturn, 1) := by decide +kernel
theorem dX1_reach_170 : decode cX1_reach 170 = .ok (.iinc 5 1, 3) := by decide +kernel
theorem dX1_reach_173 : decode cX1_reach 173 = .ok (.goto (-107), 3) := by decide +kernel
theorem dX1_reach_176 : decode cX1_reach 176 = .ok (.iinc 3 1, 3) := by decide +kernel
theorem dX1_reach_179 : decode cX1_reach 179 = .ok (.goto (-139), 3) := by decide +kernel
theorem dX1_reach_182 : decode cX1_reach 182 = .ok (.iconst (-1), 1) := by decide +kernel
theorem dX1_reach_183 : decode cX1_reach 183 = .ok (.ireturn, 1) := by decide +kernel
theorem dX1_sayingsTo_0 : decode cX1_sayingsTo 0 = .ok (.iconst 0, 1) := by decide +kernel
theorem dX1_sayingsTo_1 : decode cX1_sayingsTo 1 = .ok (.istore_n 2, 1) := by decide +kernel
theorem dX1_sayingsTo_2 : decode cX1_sayingsTo 2 = .ok (.iload_n 1, 1) := by decide +kernel
theorem dX1_sayingsTo_3 : decode cX1_sayingsTo 3 = .ok (.istore_n 3, 1) := by decide +kernel
theorem dX1_sayingsTo_4 : decode cX1_sayingsTo 4 = .ok (.iload_n 2, 1) := by decide +kernel
theorem dX1_sayingsTo_5 : decode cX1_sayingsTo 5 = .ok (.sipush 384, 3) := by decide +kernel
theorem dX1_sayingsTo_8 : decode cX1_sayingsTo 8 = .ok (.if_icmp .ge 27, 3) := by decide +kernel
theorem dX1_sayingsTo_11 : decode cX1_sayingsTo 11 = .ok (.aload_n 0, 1) := by decide +kernel
theorem dX1_sayingsTo_12 : decode cX1_sayingsTo 12 = .ok (.getfield 18, 3) := by decide +kernel
theorem dX1_sayingsTo_15 : decode cX1_sayingsTo 15 = .ok (.iload_n 3, 1) := by decide +kernel
theorem dX1_sayingsTo_16 : decode cX1_sayingsTo 16 = .ok (.iaload, 1) := by decide +kernel
theorem dX1_sayingsTo_17 : decode cX1_sayingsTo 17 = .ok (.ifCond .lt 18, 3) := by decide +kernel
theorem dX1_sayingsTo_20 : decode cX1_sayingsTo 20 = .ok (.aload_n 0, 1) := by decide +kernel
theorem dX1_sayingsTo_21 : decode cX1_sayingsTo 21 = .ok (.getfield 18, 3) := by decide +kernel
theorem dX1_sayingsTo_24 : decode cX1_sayingsTo 24 = .ok (.iload_n 3, 1) := by decide +kernel
theorem dX1_sayingsTo_25 : decode cX1_sayingsTo 25 = .ok (.iaload, 1) := by decide +kernel
theorem dX1_sayingsTo_26 : decode cX1_sayingsTo 26 = .ok (.iconst 5, 1) := by decide +kernel
theorem dX1_sayingsTo_27 : decode cX1_sayingsTo 27 = .ok (.idiv, 1) := by decide +kernel
theorem dX1_sayingsTo_28 : decode cX1_sayingsTo 28 = .ok (.istore_n 3, 1) := by decide +kernel
theorem dX1_sayingsTo_29 : decode cX1_sayingsTo 29 = .ok (.iinc 2 1, 3) := by decide +kernel
theorem dX1_sayingsTo_32 : decode cX1_sayingsTo 32 = .ok (.goto (-28), 3) := by decide +kernel
theorem dX1_sayingsTo_35 : decode cX1_sayingsTo 35 = .ok (.iload_n 2, 1) := by decide +kernel
theorem dX1_sayingsTo_36 : decode cX1_sayingsTo 36 = .ok (.ireturn, 1) := by decide +kernel
theorem dX1_rhymeAhead_0 : decode cX1_rhymeAhead 0 = .ok (.iload_n 1, 1) := by decide +kernel
theorem dX1_rhymeAhead_1 : decode cX1_rhymeAhead 1 = .ok (.istore_n 3, 1) := by decide +kernel
theorem dX1_rhymeAhead_2 : decode cX1_rhymeAhead 2 = .ok (.iconst 0, 1) := by decide +kernel
theorem dX1_rhymeAhead_3 : decode cX1_rhymeAhead 3 = .ok (.istore 4, 2) := by decide +kernel
theorem dX1_rhymeAhead_5 : decode cX1_rhymeAhead 5 = .ok (.iload 4, 2) := by decide +kernel
theorem dX1_rhymeAhead_7 : decode cX1_rhymeAhead 7 = .ok (.iload_n 2, 1) := by decide +kernel
theorem dX1_rhymeAhead_8 : decode cX1_rhymeAhead 8 = .ok (.if_icmp .ge 27, 3) := by decide +kernel
theorem dX1_rhymeAhead_11 : decode cX1_rhymeAhead 11 = .ok (.aload_n 0, 1) := by decide +kernel
theorem dX1_rhymeAhead_12 : decode cX1_rhymeAhead 12 = .ok (.getfield 18, 3) := by decide +kernel
theorem dX1_rhymeAhead_15 : decode cX1_rhymeAhead 15 = .ok (.iload_n 3, 1) := by decide +kernel
theorem dX1_rhymeAhead_16 : decode cX1_rhymeAhead 16 = .ok (.iaload, 1) := by decide +kernel
theorem dX1_rhymeAhead_17 : decode cX1_rhymeAhead 17 = .ok (.ifCond .lt 18, 3) := by decide +kernel
theorem dX1_rhymeAhead_20 : decode cX1_rhymeAhead 20 = .ok (.aload_n 0, 1) := by decide +kernel
theorem dX1_rhymeAhead_21 : decode cX1_rhymeAhead 21 = .ok (.getfield 18, 3) := by decide +kernel
theorem dX1_rhymeAhead_24 : decode cX1_rhymeAhead 24 = .ok (.iload_n 3, 1) := by decide +kernel
theorem dX1_rhymeAhead_25 : decode cX1_rhymeAhead 25 = .ok (.iaload, 1) := by decide +kernel
theorem dX1_rhymeAhead_26 : decode cX1_rhymeAhead 26 = .ok (.iconst 5, 1) := by decide +kernel
theorem dX1_rhymeAhead_27 : decode cX1_rhymeAhead 27 = .ok (.idiv, 1) := by decide +kernel
theorem dX1_rhymeAhead_28 : decode cX1_rhymeAhead 28 = .ok (.istore_n 3, 1) := by decide +kernel
theorem dX1_rhymeAhead_29 : decode cX1_rhymeAhead 29 = .ok (.iinc 4 1, 3) := by decide +kernel
theorem dX1_rhymeAhead_32 : decode cX1_rhymeAhead 32 = .ok (.goto (-27), 3) := by decide +kernel
theorem dX1_rhymeAhead_35 : decode cX1_rhymeAhead 35 = .ok (.aload_n 0, 1) := by decide +kernel
theorem dX1_rhymeAhead_36 : decode cX1_rhymeAhead 36 = .ok (.getfield 18, 3) := by decide +kernel
theorem dX1_rhymeAhead_39 : decode cX1_rhymeAhead 39 = .ok (.iload_n 3, 1) := by decide +kernel
theorem dX1_rhymeAhead_40 : decode cX1_rhymeAhead 40 = .ok (.iaload, 1) := by decide +kernel
theorem dX1_rhymeAhead_41 : decode cX1_rhymeAhead 41 = .ok (.ifCond .ge 7, 3) := by decide +kernel
theorem dX1_rhymeAhead_44 : decode cX1_rhymeAhead 44 = .ok (.iconst (-1), 1) := by decide +kernel
theorem dX1_rhymeAhead_45 : decode cX1_rhymeAhead 45 = .ok (.goto 11, 3) := by decide +kernel
theorem dX1_rhymeAhead_48 : decode cX1_rhymeAhead 48 = .ok (.aload_n 0, 1) := by decide +kernel
theorem dX1_rhymeAhead_49 : decode cX1_rhymeAhead 49 = .ok (.getfield 18, 3) := by decide +kernel
theorem dX1_rhymeAhead_52 : decode cX1_rhymeAhead 52 = .ok (.iload_n 3, 1) := by decide +kernel
theorem dX1_rhymeAhead_53 : decode cX1_rhymeAhead 53 = .ok (.iaload, 1) := by decide +kernel
theorem dX1_rhymeAhead_54 : decode cX1_rhymeAhead 54 = .ok (.iconst 5, 1) := by decide +kernel
theorem dX1_rhymeAhead_55 : decode cX1_rhymeAhead 55 = .ok (.irem, 1) := by decide +kernel
theorem dX1_rhymeAhead_56 : decode cX1_rhymeAhead 56 = .ok (.ireturn, 1) := by decide +kernel
theorem dX1_play_0 : decode cX1_play 0 = .ok (.aload_n 0, 1) := by decide +kernel
theorem dX1_play_1 : decode cX1_play 1 = .ok (.getfield 21, 3) := by decide +kernel
theorem dX1_play_4 : decode cX1_play 4 = .ok (.astore_n 2, 1) := by decide +kernel
theorem dX1_play_5 : decode cX1_play 5 = .ok (.aload_n 0, 1) := by decide +kernel
theorem dX1_play_6 : decode cX1_play 6 = .ok (.getfield 24, 3) := by decide +kernel
theorem dX1_play_9 : decode cX1_play 9 = .ok (.astore_n 3, 1) := by decide +kernel
theorem dX1_play_10 : decode cX1_play 10 = .ok (.aload_n 0, 1) := by decide +kernel
theorem dX1_play_11 : decode cX1_play 11 = .ok (.iconst (-1), 1) := by decide +kernel
theorem dX1_play_12 : decode cX1_play 12 = .ok (.putfield 41, 3) := by decide +kernel
theorem dX1_play_15 : decode cX1_play 15 = .ok (.aload_n 0, 1) := by decide +kernel
theorem dX1_play_16 : decode cX1_play 16 = .ok (.iload_n 1, 1) := by decide +kernel
theorem dX1_play_17 : decode cX1_play 17 = .ok (.iconst (-1), 1) := by decide +kernel
theorem dX1_play_18 : decode cX1_play 18 = .ok (.invokevirtual 85, 3) := by decide +kernel
theorem dX1_play_21 : decode cX1_play 21 = .ok (.pop, 1) := by decide +kernel
theorem dX1_play_22 : decode cX1_play 22 = .ok (.iconst 0, 1) := by decide +kernel
theorem dX1_play_23 : decode cX1_play 23 = .ok (.istore 4, 2) := by decide +kernel
theorem dX1_play_25 : decode cX1_play 25 = .ok (.iload 4, 2) := by decide +kernel
theorem dX1_play_27 : decode cX1_play 27 = .ok (.aload_n 0, 1) := by decide +kernel
theorem dX1_play_28 : decode cX1_play 28 = .ok (.getfield 38, 3) := by decide +kernel
theorem dX1_play_31 : decode cX1_play 31 = .ok (.if_icmp .ge 28, 3) := by decide +kernel
theorem dX1_play_34 : decode cX1_play 34 = .ok (.aload_n 2, 1) := by decide +kernel
theorem dX1_play_35 : decode cX1_play 35 = .ok (.aload_n 0, 1) := by decide +kernel
theorem dX1_play_36 : decode cX1_play 36 = .ok (.getfield 15, 3) := by decide +kernel
theorem dX1_play_39 : decode cX1_play 39 = .ok (.iload 4, 2) := by decide +kernel
theorem dX1_play_41 : decode cX1_play 41 = .ok (.iaload, 1) := by decide +kernel
theorem dX1_play_42 : decode cX1_play 42 = .ok (.aload_n 0, 1) := by decide +kernel
theorem dX1_play_43 : decode cX1_play 43 = .ok (.getfield 15, 3) := by decide +kernel
theorem dX1_play_46 : decode cX1_play 46 = .ok (.iload 4, 2) := by decide +kernel
theorem dX1_play_48 : decode cX1_play 48 = .ok (.iaload, 1) := by decide +kernel
theorem dX1_play_49 : decode cX1_play 49 = .ok (.invokestatic 71, 3) := by decide +kernel
theorem dX1_play_52 : decode cX1_play 52 = .ok (.iastore, 1) := by decide +kernel
theorem dX1_play_53 : decode cX1_play 53 = .ok (.iinc 4 1, 3) := by decide +kernel
theorem dX1_play_56 : decode cX1_play 56 = .ok (.goto (-31), 3) := by decide +kernel
theorem dX1_play_59 : decode cX1_play 59 = .ok (.aload_n 0, 1) := by decide +kernel
theorem dX1_play_60 : decode cX1_play 60 = .ok (.getfield 44, 3) := by decide +kernel
theorem dX1_play_63 : decode cX1_play 63 = .ok (.getfield 80, 3) := by decide +kernel
theorem dX1_play_66 : decode cX1_play 66 = .ok (.ifCond .le 7, 3) := by decide +kernel
theorem dX1_play_69 : decode cX1_play 69 = .ok (.iconst 1, 1) := by decide +kernel
theorem dX1_play_70 : decode cX1_play 70 = .ok (.goto 4, 3) := by decide +kernel
theorem dX1_play_73 : decode cX1_play 73 = .ok (.iconst 0, 1) := by decide +kernel
theorem dX1_play_74 : decode cX1_play 74 = .ok (.istore 4, 2) := by decide +kernel
theorem dX1_play_76 : decode cX1_play 76 = .ok (.iconst 0, 1) := by decide +kernel
theorem dX1_play_77 : decode cX1_play 77 = .ok (.istore 5, 2) := by decide +kernel
theorem dX1_play_79 : decode cX1_play 79 = .ok (.iload 5, 2) := by decide +kernel
theorem dX1_play_81 : decode cX1_play 81 = .ok (.bipush 12, 2) := by decide +kernel
theorem dX1_play_83 : decode cX1_play 83 = .ok (.if_icmp .ge 136, 3) := by decide +kernel
theorem dX1_play_86 : decode cX1_play 86 = .ok (.iload 4, 2) := by decide +kernel
theorem dX1_play_88 : decode cX1_play 88 = .ok (.ifCond .eq 131, 3) := by decide +kernel
theorem dX1_play_91 : decode cX1_play 91 = .ok (.iconst 0, 1) := by decide +kernel
theorem dX1_play_92 : decode cX1_play 92 = .ok (.istore 4, 2) := by decide +kernel
theorem dX1_play_94 : decode cX1_play 94 = .ok (.iconst 0, 1) := by decide +kernel
theorem dX1_play_95 : decode cX1_play 95 = .ok (.istore 6, 2) := by decide +kernel
theorem dX1_play_97 : decode cX1_play 97 = .ok (.iload 6, 2) := by decide +kernel
theorem dX1_play_99 : decode cX1_play 99 = .ok (.aload_n 0, 1) := by decide +kernel
theorem dX1_play_100 : decode cX1_play 100 = .ok (.getfield 38, 3) := by decide +kernel
theorem dX1_play_103 : decode cX1_play 103 = .ok (.if_icmp .ge 102, 3) := by decide +kernel
theorem dX1_play_106 : decode cX1_play 106 = .ok (.aload_n 0, 1) := by decide +kernel
theorem dX1_play_107 : decode cX1_play 107 = .ok (.getfield 15, 3) := by decide +kernel
theorem dX1_play_110 : decode cX1_play 110 = .ok (.iload 6, 2) := by decide +kernel
theorem dX1_play_112 : decode cX1_play 112 = .ok (.iaload, 1) := by decide +kernel
theorem dX1_play_113 : decode cX1_play 113 = .ok (.istore 7, 2) := by decide +kernel
theorem dX1_play_115 : decode cX1_play 115 = .ok (.aload_n 3, 1) := by decide +kernel
theorem dX1_play_116 : decode cX1_play 116 = .ok (.iload 7, 2) := by decide +kernel
theorem dX1_play_118 : decode cX1_play 118 = .ok (.aload_n 2, 1) := by decide +kernel
theorem dX1_play_119 : decode cX1_play 119 = .ok (.iload 7, 2) := by decide +kernel
theorem dX1_play_121 : decode cX1_play 121 = .ok (.iaload, 1) := by decide +kernel
theorem dX1_play_122 : decode cX1_play 122 = .ok (.iastore, 1) := by decide +kernel
theorem dX1_play_123 : decode cX1_play 123 = .ok (.iload 7, 2) := by decide +kernel
theorem dX1_play_125 : decode cX1_play 125 = .ok (.invokestatic 61, 3) := by decide +kernel
theorem dX1_play_128 : decode cX1_play 128 = .ok (.ifCond .eq 71, 3) := by decide +kernel
theorem dX1_play_131 : decode cX1_play 131 = .ok (.aload_n 0, 1) := by decide +kernel
theorem dX1_play_132 : decode cX1_play 132 = .ok (.iload 7, 2) := by decide +kernel
theorem dX1_play_134 : decode cX1_play 134 = .ok (.aload_n 2, 1) := by decide +kernel
theorem dX1_play_135 : decode cX1_play 135 = .ok (.invokevirtual 88, 3) := by decide +kernel
theorem dX1_play_138 : decode cX1_play 138 = .ok (.istore 8, 2) := by decide +kernel
theorem dX1_play_140 : decode cX1_play 140 = .ok (.aload_n 3, 1) := by decide +kernel
theorem dX1_play_141 : decode cX1_play 141 = .ok (.iload 7, 2) := by decide +kernel
theorem dX1_play_143 : decode cX1_play 143 = .ok (.aload_n 2, 1) := by decide +kernel
theorem dX1_play_144 : decode cX1_play 144 = .ok (.aload_n 0, 1) := by decide +kernel
theorem dX1_play_145 : decode cX1_play 145 = .ok (.getfield 48, 3) := by decide +kernel
theorem dX1_play_148 : decode cX1_play 148 = .ok (.iload 7, 2) := by decide +kernel
theorem dX1_play_150 : decode cX1_play 150 = .ok (.iload 8, 2) := by decide +kernel
theorem dX1_play_152 : decode cX1_play 152 = .ok (.invokevirtual 65, 3) := by decide +kernel
theorem dX1_play_155 : decode cX1_play 155 = .ok (.iaload, 1) := by decide +kernel
theorem dX1_play_156 : decode cX1_play 156 = .ok (.iastore, 1) := by decide +kernel
theorem dX1_play_157 : decode cX1_play 157 = .ok (.aload_n 0, 1) := by decide +kernel
theorem dX1_play_158 : decode cX1_play 158 = .ok (.iload 7, 2) := by decide +kernel
theorem dX1_play_160 : decode cX1_play 160 = .ok (.iload_n 1, 1) := by decide +kernel
theorem dX1_play_161 : decode cX1_play 161 = .ok (.if_icmp .ne 8, 3) := by decide +kernel
theorem dX1_play_164 : decode cX1_play 164 = .ok (.iload 8, 2) := by decide +kernel
theorem dX1_play_166 : decode cX1_play 166 = .ok (.goto 7, 3) := by decide +kernel
theorem dX1_play_169 : decode cX1_play 169 = .ok (.aload_n 0, 1) := by decide +kernel
theorem dX1_play_170 : decode cX1_play 170 = .ok (.getfield 41, 3) := by decide +kernel
theorem dX1_play_173 : decode cX1_play 173 = .ok (.putfield 41, 3) := by decide +kernel
theorem dX1_play_176 : decode cX1_play 176 = .ok (.iload 4, 2) := by decide +kernel
theorem dX1_play_178 : decode cX1_play 178 = .ok (.ifCond .ne 14, 3) := by decide +kernel
theorem dX1_play_181 : decode cX1_play 181 = .ok (.aload_n 3, 1) := by decide +kernel
theorem dX1_play_182 : decode cX1_play 182 = .ok (.iload 7, 2) := by decide +kernel
theorem dX1_play_184 : decode cX1_play 184 = .ok (.iaload, 1) := by decide +kernel
theorem dX1_play_185 : decode cX1_play 185 = .ok (.aload_n 2, 1) := by decide +kernel
theorem dX1_play_186 : decode cX1_play 186 = .ok (.iload 7, 2) := by decide +kernel
theorem dX1_play_188 : decode cX1_play 188 = .ok (.iaload, 1) := by decide +kernel
theorem dX1_play_189 : decode cX1_play 189 = .ok (.if_icmp .eq 7, 3) := by decide +kernel
theorem dX1_play_192 : decode cX1_play 192 = .ok (.iconst 1, 1) := by decide +kernel
theorem dX1_play_193 : decode cX1_play 193 = .ok (.goto 4, 3) := by decide +kernel
theorem dX1_play_196 : decode cX1_play 196 = .ok (.iconst 0, 1) := by decide +kernel
theorem dX1_play_197 : decode cX1_play 197 = .ok (.istore 4, 2) := by decide +kernel
theorem dX1_play_199 : decode cX1_play 199 = .ok (.iinc 6 1, 3) := by decide +kernel
theorem dX1_play_202 : decode cX1_play 202 = .ok (.goto (-105), 3) := by decide +kernel
theorem dX1_play_205 : decode cX1_play 205 = .ok (.aload_n 2, 1) := by decide +kernel
theorem dX1_play_206 : decode cX1_play 206 = .ok (.astore 6, 2) := by decide +kernel
theorem dX1_play_208 : decode cX1_play 208 = .ok (.aload_n 3, 1) := by decide +kernel
theorem dX1_play_209 : decode cX1_play 209 = .ok (.astore_n 2, 1) := by decide +kernel
theorem dX1_play_210 : decode cX1_play 210 = .ok (.aload 6, 2) := by decide +kernel
theorem dX1_play_212 : decode cX1_play 212 = .ok (.astore_n 3, 1) := by decide +kernel
theorem dX1_play_213 : decode cX1_play 213 = .ok (.iinc 5 1, 3) := by decide +kernel
theorem dX1_play_216 : decode cX1_play 216 = .ok (.goto (-137), 3) := by decide +kernel
theorem dX1_play_219 : decode cX1_play 219 = .ok (.aload_n 2, 1) := by decide +kernel
theorem dX1_play_220 : decode cX1_play 220 = .ok (.iload_n 1, 1) := by decide +kernel
theorem dX1_play_221 : decode cX1_play 221 = .ok (.iaload, 1) := by decide +kernel
theorem dX1_play_222 : decode cX1_play 222 = .ok (.ireturn, 1) := by decide +kernel
theorem dX1_choose_0 : decode cX1_choose 0 = .ok (.aload_n 0, 1) := by decide +kernel
theorem dX1_choose_1 : decode cX1_choose 1 = .ok (.getfield 48, 3) := by decide +kernel
theorem dX1_choose_4 : decode cX1_choose 4 = .ok (.iload_n 1, 1) := by decide +kernel
theorem dX1_choose_5 : decode cX1_choose 5 = .ok (.bipush 6, 2) := by decide +kernel
theorem dX1_choose_7 : decode cX1_choose 7 = .ok (.idiv, 1) := by decide +kernel
theorem dX1_choose_8 : decode cX1_choose 8 = .ok (.iload_n 1, 1) := by decide +kernel
theorem dX1_choose_9 : decode cX1_choose 9 = .ok (.bipush 6, 2) := by decide +kernel
theorem dX1_choose_11 : decode cX1_choose 11 = .ok (.irem, 1) := by decide +kernel
theorem dX1_choose_12 : decode cX1_choose 12 = .ok (.invokevirtual 92, 3) := by decide +kernel
theorem dX1_choose_15 : decode cX1_choose 15 = .ok (.istore_n 3, 1) := by decide +kernel
theorem dX1_choose_16 : decode cX1_choose 16 = .ok (.iconst 0, 1) := by decide +kernel
theorem dX1_choose_17 : decode cX1_choose 17 = .ok (.istore 4, 2) := by decide +kernel
theorem dX1_choose_19 : decode cX1_choose 19 = .ok (.iload 4, 2) := by decide +kernel
theorem dX1_choose_21 : decode cX1_choose 21 = .ok (.aload_n 0, 1) := by decide +kernel
theorem dX1_choose_22 : decode cX1_choose 22 = .ok (.getfield 44, 3) := by decide +kernel
theorem dX1_choose_25 : decode cX1_choose 25 = .ok (.getfield 80, 3) := by decide +kernel
theorem dX1_choose_28 : decode cX1_choose 28 = .ok (.if_icmp .ge 28, 3) := by decide +kernel
theorem dX1_choose_31 : decode cX1_choose 31 = .ok (.aload_n 2, 1) := by decide +kernel
theorem dX1_choose_32 : decode cX1_choose 32 = .ok (.aload_n 0, 1) := by decide +kernel
theorem dX1_choose_33 : decode cX1_choose 33 = .ok (.getfield 48, 3) := by decide +kernel
theorem dX1_choose_36 : decode cX1_choose 36 = .ok (.iload_n 1, 1) := by decide +kernel
theorem dX1_choose_37 : decode cX1_choose 37 = .ok (.iload 4, 2) := by decide +kernel
theorem dX1_choose_39 : decode cX1_choose 39 = .ok (.invokevirtual 65, 3) := by decide +kernel
theorem dX1_choose_42 : decode cX1_choose 42 = .ok (.iaload, 1) := by decide +kernel
theorem dX1_choose_43 : decode cX1_choose 43 = .ok (.iload_n 3, 1) := by decide +kernel
theorem dX1_choose_44 : decode cX1_choose 44 = .ok (.if_icmp .eq 6, 3) := by decide +kernel
theorem dX1_choose_47 : decode cX1_choose 47 = .ok (.iload 4, 2) := by decide +kernel
theorem dX1_choose_49 : decode cX1_choose 49 = .ok (.ireturn, 1) := by decide +kernel
theorem dX1_choose_50 : decode cX1_choose 50 = .ok (.iinc 4 1, 3) := by decide +kernel
theorem dX1_choose_53 : decode cX1_choose 53 = .ok (.goto (-34), 3) := by decide +kernel
theorem dX1_choose_56 : decode cX1_choose 56 = .ok (.iconst 0, 1) := by decide +kernel
theorem dX1_choose_57 : decode cX1_choose 57 = .ok (.ireturn, 1) := by decide +kernel
theorem dX1_partsIn_0 : decode cX1_partsIn 0 = .ok (.aload_n 0, 1) := by decide +kernel
theorem dX1_partsIn_1 : decode cX1_partsIn 1 = .ok (.getfield 27, 3) := by decide +kernel
theorem dX1_partsIn_4 : decode cX1_partsIn 4 = .ok (.astore 4, 2) := by decide +kernel
theorem dX1_partsIn_6 : decode cX1_partsIn 6 = .ok (.aload_n 0, 1) := by decide +kernel
theorem dX1_partsIn_7 : decode cX1_partsIn 7 = .ok (.getfield 31, 3) := by decide +kernel
theorem dX1_partsIn_10 : decode cX1_partsIn 10 = .ok (.astore 5, 2) := by decide +kernel
theorem dX1_partsIn_12 : decode cX1_partsIn 12 = .ok (.aload 4, 2) := by decide +kernel
theorem dX1_partsIn_14 : decode cX1_partsIn 14 = .ok (.lconst 0, 1) := by decide +kernel
theorem dX1_partsIn_15 : decode cX1_partsIn 15 = .ok (.invokestatic 95, 3) := by decide +kernel
theorem dX1_partsIn_18 : decode cX1_partsIn 18 = .ok (.aload 5, 2) := by decide +kernel
theorem dX1_partsIn_20 : decode cX1_partsIn 20 = .ok (.lconst 0, 1) := by decide +kernel
theorem dX1_partsIn_21 : decode cX1_partsIn 21 = .ok (.invokestatic 95, 3) := by decide +kernel
theorem dX1_partsIn_24 : decode cX1_partsIn 24 = .ok (.aload 4, 2) := by decide +kernel
theorem dX1_partsIn_26 : decode cX1_partsIn 26 = .ok (.iload_n 1, 1) := by decide +kernel
theorem dX1_partsIn_27 : decode cX1_partsIn 27 = .ok (.ldc2_w 98, 3) := by decide +kernel
theorem dX1_partsIn_30 : decode cX1_partsIn 30 = .ok (.lastore, 1) := by decide +kernel
theorem dX1_partsIn_31 : decode cX1_partsIn 31 = .ok (.sipush 384, 3) := by decide +kernel
theorem dX1_partsIn_34 : decode cX1_partsIn 34 = .ok (.aload_n 0, 1) := by decide +kernel
theorem dX1_partsIn_35 : decode cX1_partsIn 35 = .ok (.getfield 44, 3) := by decide +kernel
theorem dX1_partsIn_38 : decode cX1_partsIn 38 = .ok (.invokevirtual 100, 3) := by decide +kernel
theorem dX1_partsIn_41 : decode cX1_partsIn 41 = .ok (.iconst 1, 1) := by decide +kernel
theorem dX1_partsIn_42 : decode cX1_partsIn 42 = .ok (.iadd, 1) := by decide +kernel
theorem dX1_partsIn_43 : decode cX1_partsIn 43 = .ok (.bipush 6, 2) := by decide +kernel
theorem dX1_partsIn_45 : decode cX1_partsIn 45 = .ok (.imul, 1) := by decide +kernel
theorem dX1_partsIn_46 : decode cX1_partsIn 46 = .ok (.invokestatic 104, 3) := by decide +kernel
theorem dX1_partsIn_49 : decode cX1_partsIn 49 = .ok (.istore 6, 2) := by decide +kernel
theorem dX1_partsIn_51 : decode cX1_partsIn 51 = .ok (.iconst 1, 1) := by decide +kernel
theorem dX1_partsIn_52 : decode cX1_partsIn 52 = .ok (.istore 7, 2) := by decide +kernel
theorem dX1_partsIn_54 : decode cX1_partsIn 54 = .ok (.iconst 0, 1) := by decide +kernel
theorem dX1_partsIn_55 : decode cX1_partsIn 55 = .ok (.istore 8, 2) := by decide +kernel
theorem dX1_partsIn_57 : decode cX1_partsIn 57 = .ok (.iload 8, 2) := by decide +kernel
theorem dX1_partsIn_59 : decode cX1_partsIn 59 = .ok (.iload_n 3, 1) := by decide +kernel
theorem dX1_partsIn_60 : decode cX1_partsIn 60 = .ok (.if_icmp .ge 94, 3) := by decide +kernel
theorem dX1_partsIn_63 : decode cX1_partsIn 63 = .ok (.iload 7, 2) := by decide +kernel
theorem dX1_partsIn_65 : decode cX1_partsIn 65 = .ok (.ifCond .eq 89, 3) := by decide +kernel
theorem dX1_partsIn_68 : decode cX1_partsIn 68 = .ok (.iconst 0, 1) := by decide +kernel
theorem dX1_partsIn_69 : decode cX1_partsIn 69 = .ok (.istore 7, 2) := by decide +kernel
theorem dX1_partsIn_71 : decode cX1_partsIn 71 = .ok (.iconst 0, 1) := by decide +kernel
theorem dX1_partsIn_72 : decode cX1_partsIn 72 = .ok (.istore 9, 2) := by decide +kernel
theorem dX1_partsIn_74 : decode cX1_partsIn 74 = .ok (.iload 9, 2) := by decide +kernel
theorem dX1_partsIn_76 : decode cX1_partsIn 76 = .ok (.iload 6, 2) := by decide +kernel
theorem dX1_partsIn_78 : decode cX1_partsIn 78 = .ok (.if_icmp .ge 58, 3) := by decide +kernel
theorem dX1_partsIn_81 : decode cX1_partsIn 81 = .ok (.aload 4, 2) := by decide +kernel
theorem dX1_partsIn_83 : decode cX1_partsIn 83 = .ok (.iload 9, 2) := by decide +kernel
theorem dX1_partsIn_85 : decode cX1_partsIn 85 = .ok (.laload, 1) := by decide +kernel
theorem dX1_partsIn_86 : decode cX1_partsIn 86 = .ok (.lconst 0, 1) := by decide +kernel
theorem dX1_partsIn_87 : decode cX1_partsIn 87 = .ok (.lcmp, 1) := by decide +kernel
theorem dX1_partsIn_88 : decode cX1_partsIn 88 = .ok (.ifCond .eq 42, 3) := by decide +kernel
theorem dX1_partsIn_91 : decode cX1_partsIn 91 = .ok (.aload_n 0, 1) := by decide +kernel
theorem dX1_partsIn_92 : decode cX1_partsIn 92 = .ok (.iload 9, 2) := by decide +kernel
theorem dX1_partsIn_94 : decode cX1_partsIn 94 = .ok (.aload 4, 2) := by decide +kernel
theorem dX1_partsIn_96 : decode cX1_partsIn 96 = .ok (.iload 9, 2) := by decide +kernel
theorem dX1_partsIn_98 : decode cX1_partsIn 98 = .ok (.laload, 1) := by decide +kernel
theorem dX1_partsIn_99 : decode cX1_partsIn 99 = .ok (.aload 5, 2) := by decide +kernel
theorem dX1_partsIn_101 : decode cX1_partsIn 101 = .ok (.invokevirtual 109, 3) := by decide +kernel
theorem dX1_partsIn_104 : decode cX1_partsIn 104 = .ok (.aload 4, 2) := by decide +kernel
theorem dX1_partsIn_106 : decode cX1_partsIn 106 = .ok (.iload 9, 2) := by decide +kernel
theorem dX1_partsIn_108 : decode cX1_partsIn 108 = .ok (.lconst 0, 1) := by decide +kernel
theorem dX1_partsIn_109 : decode cX1_partsIn 109 = .ok (.lastore, 1) := by decide +kernel
theorem dX1_partsIn_110 : decode cX1_partsIn 110 = .ok (.iload 7, 2) := by decide +kernel
theorem dX1_partsIn_112 : decode cX1_partsIn 112 = .ok (.ifCond .ne 11, 3) := by decide +kernel
theorem dX1_partsIn_115 : decode cX1_partsIn 115 = .ok (.iload 9, 2) := by decide +kernel
theorem dX1_partsIn_117 : decode cX1_partsIn 117 = .ok (.invokestatic 61, 3) := by decide +kernel
theorem dX1_partsIn_120 : decode cX1_partsIn 120 = .ok (.ifCond .eq 7, 3) := by decide +kernel
theorem dX1_partsIn_123 : decode cX1_partsIn 123 = .ok (.iconst 1, 1) := by decide +kernel
theorem dX1_partsIn_124 : decode cX1_partsIn 124 = .ok (.goto 4, 3) := by decide +kernel
theorem dX1_partsIn_127 : decode cX1_partsIn 127 = .ok (.iconst 0, 1) := by decide +kernel
theorem dX1_partsIn_128 : decode cX1_partsIn 128 = .ok (.istore 7, 2) := by decide +kernel
theorem dX1_partsIn_130 : decode cX1_partsIn 130 = .ok (.iinc 9 1, 3) := by decide +kernel
theorem dX1_partsIn_133 : decode cX1_partsIn 133 = .ok (.goto (-59), 3) := by decide +kernel
theorem dX1_partsIn_136 : decode cX1_partsIn 136 = .ok (.aload 4, 2) := by decide +kernel
theorem dX1_partsIn_138 : decode cX1_partsIn 138 = .ok (.astore 9, 2) := by decide +kernel
theorem dX1_partsIn_140 : decode cX1_partsIn 140 = .ok (.aload 5, 2) := by decide +kernel
theorem dX1_partsIn_142 : decode cX1_partsIn 142 = .ok (.astore 4, 2) := by decide +kernel
theorem dX1_partsIn_144 : decode cX1_partsIn 144 = .ok (.aload 9, 2) := by decide +kernel
theorem dX1_partsIn_146 : decode cX1_partsIn 146 = .ok (.astore 5, 2) := by decide +kernel
theorem dX1_partsIn_148 : decode cX1_partsIn 148 = .ok (.iinc 8 1, 3) := by decide +kernel
theorem dX1_partsIn_151 : decode cX1_partsIn 151 = .ok (.goto (-94), 3) := by decide +kernel
theorem dX1_partsIn_154 : decode cX1_partsIn 154 = .ok (.lconst 0, 1) := by decide +kernel
theorem dX1_partsIn_155 : decode cX1_partsIn 155 = .ok (.lstore 8, 2) := by decide +kernel
theorem dX1_partsIn_157 : decode cX1_partsIn 157 = .ok (.iconst 0, 1) := by decide +kernel
theorem dX1_partsIn_158 : decode cX1_partsIn 158 = .ok (.istore 10, 2) := by decide +kernel
theorem dX1_partsIn_160 : decode cX1_partsIn 160 = .ok (.iload 10, 2) := by decide +kernel
theorem dX1_partsIn_162 : decode cX1_partsIn 162 = .ok (.iload 6, 2) := by decide +kernel
theorem dX1_partsIn_164 : decode cX1_partsIn 164 = .ok (.if_icmp .ge 32, 3) := by decide +kernel
theorem dX1_partsIn_167 : decode cX1_partsIn 167 = .ok (.iload 10, 2) := by decide +kernel
theorem dX1_partsIn_169 : decode cX1_partsIn 169 = .ok (.bipush 6, 2) := by decide +kernel
theorem dX1_partsIn_171 : decode cX1_partsIn 171 = .ok (.idiv, 1) := by decide +kernel
theorem dX1_partsIn_172 : decode cX1_partsIn 172 = .ok (.iload_n 2, 1) := by decide +kernel
theorem dX1_partsIn_173 : decode cX1_partsIn 173 = .ok (.ishr, 1) := by decide +kernel
theorem dX1_partsIn_174 : decode cX1_partsIn 174 = .ok (.iconst 1, 1) := by decide +kernel
theorem dX1_partsIn_175 : decode cX1_partsIn 175 = .ok (.iand, 1) := by decide +kernel
theorem dX1_partsIn_176 : decode cX1_partsIn 176 = .ok (.iconst 1, 1) := by decide +kernel
theorem dX1_partsIn_177 : decode cX1_partsIn 177 = .ok (.if_icmp .ne 13, 3) := by decide +kernel
theorem dX1_partsIn_180 : decode cX1_partsIn 180 = .ok (.lload 8, 2) := by decide +kernel
theorem dX1_partsIn_182 : decode cX1_partsIn 182 = .ok (.aload 4, 2) := by decide +kernel
theorem dX1_partsIn_184 : decode cX1_partsIn 184 = .ok (.iload 10, 2) := by decide +kernel
theorem dX1_partsIn_186 : decode cX1_partsIn 186 = .ok (.laload, 1) := by decide +kernel
theorem dX1_partsIn_187 : decode cX1_partsIn 187 = .ok (.ladd, 1) := by decide +kernel
theorem dX1_partsIn_188 : decode cX1_partsIn 188 = .ok (.lstore 8, 2) := by decide +kernel
theorem dX1_partsIn_190 : decode cX1_partsIn 190 = .ok (.iinc 10 1, 3) := by decide +kernel
theorem dX1_partsIn_193 : decode cX1_partsIn 193 = .ok (.goto (-33), 3) := by decide +kernel
theorem dX1_partsIn_196 : decode cX1_partsIn 196 = .ok (.lload 8, 2) := by decide +kernel
theorem dX1_partsIn_198 : decode cX1_partsIn 198 = .ok (.lreturn, 1) := by decide +kernel
theorem dX1_handOn_0 : decode cX1_handOn 0 = .ok (.iload_n 1, 1) := by decide +kernel
theorem dX1_handOn_1 : decode cX1_handOn 1 = .ok (.invokestatic 61, 3) := by decide +kernel
theorem dX1_handOn_4 : decode cX1_handOn 4 = .ok (.ifCond .eq 13, 3) := by decide +kernel
theorem dX1_handOn_7 : decode cX1_handOn 7 = .ok (.aload_n 0, 1) := by decide +kernel
theorem dX1_handOn_8 : decode cX1_handOn 8 = .ok (.getfield 44, 3) := by decide +kernel
theorem dX1_handOn_11 : decode cX1_handOn 11 = .ok (.getfield 80, 3) := by decide +kernel
theorem dX1_handOn_14 : decode cX1_handOn 14 = .ok (.ifCond .ne 12, 3) := by decide +kernel
theorem dX1_handOn_17 : decode cX1_handOn 17 = .ok (.aload 4, 2) := by decide +kernel
theorem dX1_handOn_19 : decode cX1_handOn 19 = .ok (.iload_n 1, 1) := by decide +kernel
theorem dX1_handOn_20 : decode cX1_handOn 20 = .ok (.dup2, 1) := by decide +kernel
theorem dX1_handOn_21 : decode cX1_handOn 21 = .ok (.laload, 1) := by decide +kernel
theorem dX1_handOn_22 : decode cX1_handOn 22 = .ok (.lload_n 2, 1) := by decide +kernel
theorem dX1_handOn_23 : decode cX1_handOn 23 = .ok (.ladd, 1) := by decide +kernel
theorem dX1_handOn_24 : decode cX1_handOn 24 = .ok (.lastore, 1) := by decide +kernel
theorem dX1_handOn_25 : decode cX1_handOn 25 = .ok (.return_, 1) := by decide +kernel
theorem dX1_handOn_26 : decode cX1_handOn 26 = .ok (.lload_n 2, 1) := by decide +kernel
theorem dX1_handOn_27 : decode cX1_handOn 27 = .ok (.aload_n 0, 1) := by decide +kernel
theorem dX1_handOn_28 : decode cX1_handOn 28 = .ok (.getfield 44, 3) := by decide +kernel
theorem dX1_handOn_31 : decode cX1_handOn 31 = .ok (.getfield 80, 3) := by decide +kernel
theorem dX1_handOn_34 : decode cX1_handOn 34 = .ok (.i2l, 1) := by decide +kernel
theorem dX1_handOn_35 : decode cX1_handOn 35 = .ok (.ldiv, 1) := by decide +kernel
theorem dX1_handOn_36 : decode cX1_handOn 36 = .ok (.lstore 5, 2) := by decide +kernel
theorem dX1_handOn_38 : decode cX1_handOn 38 = .ok (.iconst 0, 1) := by decide +kernel
theorem dX1_handOn_39 : decode cX1_handOn 39 = .ok (.istore 7, 2) := by decide +kernel
theorem dX1_handOn_41 : decode cX1_handOn 41 = .ok (.iload 7, 2) := by decide +kernel
theorem dX1_handOn_43 : decode cX1_handOn 43 = .ok (.aload_n 0, 1) := by decide +kernel
theorem dX1_handOn_44 : decode cX1_handOn 44 = .ok (.getfield 44, 3) := by decide +kernel
theorem dX1_handOn_47 : decode cX1_handOn 47 = .ok (.getfield 80, 3) := by decide +kernel
theorem dX1_handOn_50 : decode cX1_handOn 50 = .ok (.if_icmp .ge 27, 3) := by decide +kernel
theorem dX1_handOn_53 : decode cX1_handOn 53 = .ok (.aload 4, 2) := by decide +kernel
theorem dX1_handOn_55 : decode cX1_handOn 55 = .ok (.aload_n 0, 1) := by decide +kernel
theorem dX1_handOn_56 : decode cX1_handOn 56 = .ok (.getfield 48, 3) := by decide +kernel
theorem dX1_handOn_59 : decode cX1_handOn 59 = .ok (.iload_n 1, 1) := by decide +kernel
theorem dX1_handOn_60 : decode cX1_handOn 60 = .ok (.iload 7, 2) := by decide +kernel
theorem dX1_handOn_62 : decode cX1_handOn 62 = .ok (.invokevirtual 65, 3) := by decide +kernel
theorem dX1_handOn_65 : decode cX1_handOn 65 = .ok (.dup2, 1) := by decide +kernel
theorem dX1_handOn_66 : decode cX1_handOn 66 = .ok (.laload, 1) := by decide +kernel
theorem dX1_handOn_67 : decode cX1_handOn 67 = .ok (.lload 5, 2) := by decide +kernel
theorem dX1_handOn_69 : decode cX1_handOn 69 = .ok (.ladd, 1) := by decide +kernel
theorem dX1_handOn_70 : decode cX1_handOn 70 = .ok (.lastore, 1) := by decide +kernel
theorem dX1_handOn_71 : decode cX1_handOn 71 = .ok (.iinc 7 1, 3) := by decide +kernel
theorem dX1_handOn_74 : decode cX1_handOn 74 = .ok (.goto (-33), 3) := by decide +kernel
theorem dX1_handOn_77 : decode cX1_handOn 77 = .ok (.return_, 1) := by decide +kernel
theorem dX1_rowsSaid_0 : decode cX1_rowsSaid 0 = .ok (.iconst 1, 1) := by decide +kernel
theorem dX1_rowsSaid_1 : decode cX1_rowsSaid 1 = .ok (.istore_n 3, 1) := by decide +kernel
theorem dX1_rowsSaid_2 : decode cX1_rowsSaid 2 = .ok (.iconst 0, 1) := by decide +kernel
theorem dX1_rowsSaid_3 : decode cX1_rowsSaid 3 = .ok (.istore 4, 2) := by decide +kernel
theorem dX1_rowsSaid_5 : decode cX1_rowsSaid 5 = .ok (.iload 4, 2) := by decide +kernel
theorem dX1_rowsSaid_7 : decode cX1_rowsSaid 7 = .ok (.iload_n 1, 1) := by decide +kernel
theorem dX1_rowsSaid_8 : decode cX1_rowsSaid 8 = .ok (.if_icmp .ge 19, 3) := by decide +kernel
theorem dX1_rowsSaid_11 : decode cX1_rowsSaid 11 = .ok (.iload_n 3, 1) := by decide +kernel
theorem dX1_rowsSaid_12 : decode cX1_rowsSaid 12 = .ok (.aload_n 0, 1) := by decide +kernel
theorem dX1_rowsSaid_13 : decode cX1_rowsSaid 13 = .ok (.getfield 44, 3) := by decide +kernel
theorem dX1_rowsSaid_16 : decode cX1_rowsSaid 16 = .ok (.getfield 80, 3) := by decide +kernel
theorem dX1_rowsSaid_19 : decode cX1_rowsSaid 19 = .ok (.imul, 1) := by decide +kernel
theorem dX1_rowsSaid_20 : decode cX1_rowsSaid 20 = .ok (.istore_n 3, 1) := by decide +kernel
theorem dX1_rowsSaid_21 : decode cX1_rowsSaid 21 = .ok (.iinc 4 1, 3) := by decide +kernel
theorem dX1_rowsSaid_24 : decode cX1_rowsSaid 24 = .ok (.goto (-19), 3) := by decide +kernel
theorem dX1_rowsSaid_27 : decode cX1_rowsSaid 27 = .ok (.iconst 0, 1) := by decide +kernel
theorem dX1_rowsSaid_28 : decode cX1_rowsSaid 28 = .ok (.istore 4, 2) := by decide +kernel
theorem dX1_rowsSaid_30 : decode cX1_rowsSaid 30 = .ok (.iconst 0, 1) := by decide +kernel
theorem dX1_rowsSaid_31 : decode cX1_rowsSaid 31 = .ok (.istore 5, 2) := by decide +kernel
theorem dX1_rowsSaid_33 : decode cX1_rowsSaid 33 = .ok (.iload 5, 2) := by decide +kernel
theorem dX1_rowsSaid_35 : decode cX1_rowsSaid 35 = .ok (.iload_n 3, 1) := by decide +kernel
theorem dX1_rowsSaid_36 : decode cX1_rowsSaid 36 = .ok (.if_icmp .ge 31, 3) := by decide +kernel
theorem dX1_rowsSaid_39 : decode cX1_rowsSaid 39 = .ok (.aload_n 0, 1) := by decide +kernel
theorem dX1_rowsSaid_40 : decode cX1_rowsSaid 40 = .ok (.iload 5, 2) := by decide +kernel
theorem dX1_rowsSaid_42 : decode cX1_rowsSaid 42 = .ok (.iload_n 1, 1) := by decide +kernel
theorem dX1_rowsSaid_43 : decode cX1_rowsSaid 43 = .ok (.invokevirtual 113, 3) := by decide +kernel
theorem dX1_rowsSaid_46 : decode cX1_rowsSaid 46 = .ok (.ifCond .eq 15, 3) := by decide +kernel
theorem dX1_rowsSaid_49 : decode cX1_rowsSaid 49 = .ok (.iload 4, 2) := by decide +kernel
theorem dX1_rowsSaid_51 : decode cX1_rowsSaid 51 = .ok (.iload_n 2, 1) := by decide +kernel
theorem dX1_rowsSaid_52 : decode cX1_rowsSaid 52 = .ok (.if_icmp .ne 6, 3) := by decide +kernel
theorem dX1_rowsSaid_55 : decode cX1_rowsSaid 55 = .ok (.iload 5, 2) := by decide +kernel
theorem dX1_rowsSaid_57 : decode cX1_rowsSaid 57 = .ok (.ireturn, 1) := by decide +kernel
theorem dX1_rowsSaid_58 : decode cX1_rowsSaid 58 = .ok (.iinc 4 1, 3) := by decide +kernel
theorem dX1_rowsSaid_61 : decode cX1_rowsSaid 61 = .ok (.iinc 5 1, 3) := by decide +kernel
theorem dX1_rowsSaid_64 : decode cX1_rowsSaid 64 = .ok (.goto (-31), 3) := by decide +kernel
theorem dX1_rowsSaid_67 : decode cX1_rowsSaid 67 = .ok (.iload_n 2, 1) := by decide +kernel
theorem dX1_rowsSaid_68 : decode cX1_rowsSaid 68 = .ok (.iconst (-1), 1) := by decide +kernel
theorem dX1_rowsSaid_69 : decode cX1_rowsSaid 69 = .ok (.if_icmp .ne 8, 3) := by decide +kernel
theorem dX1_rowsSaid_72 : decode cX1_rowsSaid 72 = .ok (.iload 4, 2) := by decide +kernel
theorem dX1_rowsSaid_74 : decode cX1_rowsSaid 74 = .ok (.goto 4, 3) := by decide +kernel
theorem dX1_rowsSaid_77 : decode cX1_rowsSaid 77 = .ok (.iconst (-1), 1) := by decide +kernel
theorem dX1_rowsSaid_78 : decode cX1_rowsSaid 78 = .ok (.ireturn, 1) := by decide +kernel
theorem dX1_leadsHere_0 : decode cX1_leadsHere 0 = .ok (.aload_n 0, 1) := by decide +kernel
theorem dX1_leadsHere_1 : decode cX1_leadsHere 1 = .ok (.getfield 44, 3) := by decide +kernel
theorem dX1_leadsHere_4 : decode cX1_leadsHere 4 = .ok (.invokevirtual 100, 3) := by decide +kernel
theorem dX1_leadsHere_7 : decode cX1_leadsHere 7 = .ok (.bipush 6, 2) := by decide +kernel
theorem dX1_leadsHere_9 : decode cX1_leadsHere 9 = .ok (.imul, 1) := by decide +kernel
theorem dX1_leadsHere_10 : decode cX1_leadsHere 10 = .ok (.istore_n 3, 1) := by decide +kernel
theorem dX1_leadsHere_11 : decode cX1_leadsHere 11 = .ok (.iload_n 2, 1) := by decide +kernel
theorem dX1_leadsHere_12 : decode cX1_leadsHere 12 = .ok (.iconst 1, 1) := by decide +kernel
theorem dX1_leadsHere_13 : decode cX1_leadsHere 13 = .ok (.isub, 1) := by decide +kernel
theorem dX1_leadsHere_14 : decode cX1_leadsHere 14 = .ok (.istore 4, 2) := by decide +kernel
theorem dX1_leadsHere_16 : decode cX1_leadsHere 16 = .ok (.iload 4, 2) := by decide +kernel
theorem dX1_leadsHere_18 : decode cX1_leadsHere 18 = .ok (.ifCond .lt 34, 3) := by decide +kernel
theorem dX1_leadsHere_21 : decode cX1_leadsHere 21 = .ok (.iload_n 3, 1) := by decide +kernel
theorem dX1_leadsHere_22 : decode cX1_leadsHere 22 = .ok (.invokestatic 61, 3) := by decide +kernel
theorem dX1_leadsHere_25 : decode cX1_leadsHere 25 = .ok (.ifCond .ne 5, 3) := by decide +kernel
theorem dX1_leadsHere_28 : decode cX1_leadsHere 28 = .ok (.iconst 0, 1) := by decide +kernel
theorem dX1_leadsHere_29 : decode cX1_leadsHere 29 = .ok (.ireturn, 1) := by decide +kernel
theorem dX1_leadsHere_30 : decode cX1_leadsHere 30 = .ok (.aload_n 0, 1) := by decide +kernel
theorem dX1_leadsHere_31 : decode cX1_leadsHere 31 = .ok (.getfield 48, 3) := by decide +kernel
theorem dX1_leadsHere_34 : decode cX1_leadsHere 34 = .ok (.iload_n 3, 1) := by decide +kernel
theorem dX1_leadsHere_35 : decode cX1_leadsHere 35 = .ok (.aload_n 0, 1) := by decide +kernel
theorem dX1_leadsHere_36 : decode cX1_leadsHere 36 = .ok (.iload_n 1, 1) := by decide +kernel
theorem dX1_leadsHere_37 : decode cX1_leadsHere 37 = .ok (.iload 4, 2) := by decide +kernel
theorem dX1_leadsHere_39 : decode cX1_leadsHere 39 = .ok (.invokevirtual 117, 3) := by decide +kernel
theorem dX1_leadsHere_42 : decode cX1_leadsHere 42 = .ok (.invokevirtual 65, 3) := by decide +kernel
theorem dX1_leadsHere_45 : decode cX1_leadsHere 45 = .ok (.istore_n 3, 1) := by decide +kernel
theorem dX1_leadsHere_46 : decode cX1_leadsHere 46 = .ok (.iinc 4 (-1), 3) := by decide +kernel
theorem dX1_leadsHere_49 : decode cX1_leadsHere 49 = .ok (.goto (-33), 3) := by decide +kernel
theorem dX1_leadsHere_52 : decode cX1_leadsHere 52 = .ok (.iload_n 3, 1) := by decide +kernel
theorem dX1_leadsHere_53 : decode cX1_leadsHere 53 = .ok (.aload_n 0, 1) := by decide +kernel
theorem dX1_leadsHere_54 : decode cX1_leadsHere 54 = .ok (.getfield 44, 3) := by decide +kernel
theorem dX1_leadsHere_57 : decode cX1_leadsHere 57 = .ok (.getfield 120, 3) := by decide +kernel
theorem dX1_leadsHere_60 : decode cX1_leadsHere 60 = .ok (.bipush 6, 2) := by decide +kernel
theorem dX1_leadsHere_62 : decode cX1_leadsHere 62 = .ok (.imul, 1) := by decide +kernel
theorem dX1_leadsHere_63 : decode cX1_leadsHere 63 = .ok (.aload_n 0, 1) := by decide +kernel
theorem dX1_leadsHere_64 : decode cX1_leadsHere 64 = .ok (.getfield 44, 3) := by decide +kernel
theorem dX1_leadsHere_67 : decode cX1_leadsHere 67 = .ok (.getfield 123, 3) := by decide +kernel
theorem dX1_leadsHere_70 : decode cX1_leadsHere 70 = .ok (.iconst 1, 1) := by decide +kernel
theorem dX1_leadsHere_71 : decode cX1_leadsHere 71 = .ok (.iaload, 1) := by decide +kernel
theorem dX1_leadsHere_72 : decode cX1_leadsHere 72 = .ok (.iadd, 1) := by decide +kernel
theorem dX1_leadsHere_73 : decode cX1_leadsHere 73 = .ok (.if_icmp .ne 7, 3) := by decide +kernel
theorem dX1_leadsHere_76 : decode cX1_leadsHere 76 = .ok (.iconst 1, 1) := by decide +kernel
theorem dX1_leadsHere_77 : decode cX1_leadsHere 77 = .ok (.goto 4, 3) := by decide +kernel
theorem dX1_leadsHere_80 : decode cX1_leadsHere 80 = .ok (.iconst 0, 1) := by decide +kernel
theorem dX1_leadsHere_81 : decode cX1_leadsHere 81 = .ok (.ireturn, 1) := by decide +kernel
theorem dX1_digit_0 : decode cX1_digit 0 = .ok (.aload_n 0, 1) := by decide +kernel
theorem dX1_digit_1 : decode cX1_digit 1 = .ok (.getfield 44, 3) := by decide +kernel
theorem dX1_digit_4 : decode cX1_digit 4 = .ok (.getfield 80, 3) := by decide +kernel
theorem dX1_digit_7 : decode cX1_digit 7 = .ok (.ifCond .ne 5, 3) := by decide +kernel
theorem dX1_digit_10 : decode cX1_digit 10 = .ok (.iconst 0, 1) := by decide +kernel
theorem dX1_digit_11 : decode cX1_digit 11 = .ok (.ireturn, 1) := by decide +kernel
theorem dX1_digit_12 : decode cX1_digit 12 = .ok (.iload_n 1, 1) := by decide +kernel
theorem dX1_digit_13 : decode cX1_digit 13 = .ok (.istore_n 3, 1) := by decide +kernel
theorem dX1_digit_14 : decode cX1_digit 14 = .ok (.iconst 0, 1) := by decide +kernel
theorem dX1_digit_15 : decode cX1_digit 15 = .ok (.istore 4, 2) := by decide +kernel
theorem dX1_digit_17 : decode cX1_digit 17 = .ok (.iload 4, 2) := by decide +kernel
theorem dX1_digit_19 : decode cX1_digit 19 = .ok (.iload_n 2, 1) := by decide +kernel
theorem dX1_digit_20 : decode cX1_digit 20 = .ok (.if_icmp .ge 19, 3) := by decide +kernel
theorem dX1_digit_23 : decode cX1_digit 23 = .ok (.iload_n 3, 1) := by decide +kernel
theorem dX1_digit_24 : decode cX1_digit 24 = .ok (.aload_n 0, 1) := by decide +kernel
theorem dX1_digit_25 : decode cX1_digit 25 = .ok (.getfield 44, 3) := by decide +kernel
theorem dX1_digit_28 : decode cX1_digit 28 = .ok (.getfield 80, 3) := by decide +kernel
theorem dX1_digit_31 : decode cX1_digit 31 = .ok (.idiv, 1) := by decide +kernel
theorem dX1_digit_32 : decode cX1_digit 32 = .ok (.istore_n 3, 1) := by decide +kernel
theorem dX1_digit_33 : decode cX1_digit 33 = .ok (.iinc 4 1, 3) := by decide +kernel
theorem dX1_digit_36 : decode cX1_digit 36 = .ok (.goto (-19), 3) := by decide +kernel
theorem dX1_digit_39 : decode cX1_digit 39 = .ok (.iload_n 3, 1) := by decide +kernel
theorem dX1_digit_40 : decode cX1_digit 40 = .ok (.aload_n 0, 1) := by decide +kernel
theorem dX1_digit_41 : decode cX1_digit 41 = .ok (.getfield 44, 3) := by decide +kernel
theorem dX1_digit_44 : decode cX1_digit 44 = .ok (.getfield 80, 3) := by decide +kernel
theorem dX1_digit_47 : decode cX1_digit 47 = .ok (.irem, 1) := by decide +kernel
theorem dX1_digit_48 : decode cX1_digit 48 = .ok (.ireturn, 1) := by decide +kernel
theorem dX2_init_0 : decode cX2_init 0 = .ok (.aload_n 0, 1) := by decide +kernel
theorem dX2_init_1 : decode cX2_init 1 = .ok (.invokespecial 3, 3) := by decide +kernel
theorem dX2_init_4 : decode cX2_init 4 = .ok (.aload_n 0, 1) := by decide +kernel
theorem dX2_init_5 : decode cX2_init 5 = .ok (.bipush 16, 2) := by decide +kernel
theorem dX2_init_7 : decode cX2_init 7 = .ok (.newarray .int, 2) := by decide +kernel
theorem dX2_init_9 : decode cX2_init 9 = .ok (.putfield 11, 3) := by decide +kernel
theorem dX2_init_12 : decode cX2_init 12 = .ok (.aload_n 0, 1) := by decide +kernel
theorem dX2_init_13 : decode cX2_init 13 = .ok (.iconst 0, 1) := by decide +kernel
theorem dX2_init_14 : decode cX2_init 14 = .ok (.putfield 15, 3) := by decide +kernel
theorem dX2_init_17 : decode cX2_init 17 = .ok (.return_, 1) := by decide +kernel
theorem dX2_forget_0 : decode cX2_forget 0 = .ok (.aload_n 0, 1) := by decide +kernel
theorem dX2_forget_1 : decode cX2_forget 1 = .ok (.iconst 0, 1) := by decide +kernel
theorem dX2_forget_2 : decode cX2_forget 2 = .ok (.putfield 15, 3) := by decide +kernel
theorem dX2_forget_5 : decode cX2_forget 5 = .ok (.return_, 1) := by decide +kernel
theorem dX2_becomes_0 : decode cX2_becomes 0 = .ok (.aload_n 1, 1) := by decide +kernel
theorem dX2_becomes_1 : decode cX2_becomes 1 = .ok (.getfield 11, 3) := by decide +kernel
theorem dX2_becomes_4 : decode cX2_becomes 4 = .ok (.iconst 0, 1) := by decide +kernel
theorem dX2_becomes_5 : decode cX2_becomes 5 = .ok (.aload_n 0, 1) := by decide +kernel
theorem dX2_becomes_6 : decode cX2_becomes 6 = .ok (.getfield 11, 3) := by decide +kernel
theorem dX2_becomes_9 : decode cX2_becomes 9 = .ok (.iconst 0, 1) := by decide +kernel
theorem dX2_becomes_10 : decode cX2_becomes 10 = .ok (.bipush 16, 2) := by decide +kernel
theorem dX2_becomes_12 : decode cX2_becomes 12 = .ok (.invokestatic 19, 3) := by decide +kernel
theorem dX2_becomes_15 : decode cX2_becomes 15 = .ok (.aload_n 0, 1) := by decide +kernel
theorem dX2_becomes_16 : decode cX2_becomes 16 = .ok (.aload_n 1, 1) := by decide +kernel
theorem dX2_becomes_17 : decode cX2_becomes 17 = .ok (.getfield 15, 3) := by decide +kernel
theorem dX2_becomes_20 : decode cX2_becomes 20 = .ok (.putfield 15, 3) := by decide +kernel
theorem dX2_becomes_23 : decode cX2_becomes 23 = .ok (.return_, 1) := by decide +kernel
theorem dX2_keep_0 : decode cX2_keep 0 = .ok (.aload_n 0, 1) := by decide +kernel
theorem dX2_keep_1 : decode cX2_keep 1 = .ok (.getfield 15, 3) := by decide +kernel
theorem dX2_keep_4 : decode cX2_keep 4 = .ok (.bipush 16, 2) := by decide +kernel
theorem dX2_keep_6 : decode cX2_keep 6 = .ok (.if_icmp .lt 24, 3) := by decide +kernel
theorem dX2_keep_9 : decode cX2_keep 9 = .ok (.aload_n 0, 1) := by decide +kernel
theorem dX2_keep_10 : decode cX2_keep 10 = .ok (.getfield 11, 3) := by decide +kernel
theorem dX2_keep_13 : decode cX2_keep 13 = .ok (.iconst 1, 1) := by decide +kernel
theorem dX2_keep_14 : decode cX2_keep 14 = .ok (.aload_n 0, 1) := by decide +kernel
theorem dX2_keep_15 : decode cX2_keep 15 = .ok (.getfield 11, 3) := by decide +kernel
theorem dX2_keep_18 : decode cX2_keep 18 = .ok (.iconst 0, 1) := by decide +kernel
theorem dX2_keep_19 : decode cX2_keep 19 = .ok (.bipush 15, 2) := by decide +kernel
theorem dX2_keep_21 : decode cX2_keep 21 = .ok (.invokestatic 19, 3) := by decide +kernel
theorem dX2_keep_24 : decode cX2_keep 24 = .ok (.aload_n 0, 1) := by decide +kernel
theorem dX2_keep_25 : decode cX2_keep 25 = .ok (.bipush 15, 2) := by decide +kernel
theorem dX2_keep_27 : decode cX2_keep 27 = .ok (.putfield 15, 3) := by decide +kernel
theorem dX2_keep_30 : decode cX2_keep 30 = .ok (.aload_n 2, 1) := by decide +kernel
theorem dX2_keep_31 : decode cX2_keep 31 = .ok (.getfield 25, 3) := by decide +kernel
theorem dX2_keep_34 : decode cX2_keep 34 = .ok (.bipush 6, 2) := by decide +kernel
theorem dX2_keep_36 : decode cX2_keep 36 = .ok (.imul, 1) := by decide +kernel
theorem dX2_keep_37 : decode cX2_keep 37 = .ok (.aload_n 2, 1) := by decide +kernel
theorem dX2_keep_38 : decode cX2_keep 38 = .ok (.getfield 30, 3) := by decide +kernel
theorem dX2_keep_41 : decode cX2_keep 41 = .ok (.iconst 1, 1) := by decide +kernel
theorem dX2_keep_42 : decode cX2_keep 42 = .ok (.iaload, 1) := by decide +kernel
theorem dX2_keep_43 : decode cX2_keep 43 = .ok (.iadd, 1) := by decide +kernel
theorem dX2_keep_44 : decode cX2_keep 44 = .ok (.istore_n 3, 1) := by decide +kernel
theorem dX2_keep_45 : decode cX2_keep 45 = .ok (.aload_n 0, 1) := by decide +kernel
theorem dX2_keep_46 : decode cX2_keep 46 = .ok (.getfield 11, 3) := by decide +kernel
theorem dX2_keep_49 : decode cX2_keep 49 = .ok (.aload_n 0, 1) := by decide +kernel
theorem dX2_keep_50 : decode cX2_keep 50 = .ok (.getfield 15, 3) := by decide +kernel
theorem dX2_keep_53 : decode cX2_keep 53 = .ok (.aload_n 2, 1) := by decide +kernel
theorem dX2_keep_54 : decode cX2_keep 54 = .ok (.getfield 30, 3) := by decide +kernel
theorem dX2_keep_57 : decode cX2_keep 57 = .ok (.iconst 0, 1) := by decide +kernel
theorem dX2_keep_58 : decode cX2_keep 58 = .ok (.iaload, 1) := by decide +kernel
theorem dX2_keep_59 : decode cX2_keep 59 = .ok (.sipush 384, 3) := by decide +kernel
theorem dX2_keep_62 : decode cX2_keep 62 = .ok (.imul, 1) := by decide +kernel
theorem dX2_keep_63 : decode cX2_keep 63 = .ok (.iload_n 3, 1) := by decide +kernel
theorem dX2_keep_64 : decode cX2_keep 64 = .ok (.iadd, 1) := by decide +kernel
theorem dX2_keep_65 : decode cX2_keep 65 = .ok (.iconst 4, 1) := by decide +kernel
theorem dX2_keep_66 : decode cX2_keep 66 = .ok (.imul, 1) := by decide +kernel
theorem dX2_keep_67 : decode cX2_keep 67 = .ok (.iload_n 1, 1) := by decide +kernel
theorem dX2_keep_68 : decode cX2_keep 68 = .ok (.iadd, 1) := by decide +kernel
theorem dX2_keep_69 : decode cX2_keep 69 = .ok (.iastore, 1) := by decide +kernel
theorem dX2_keep_70 : decode cX2_keep 70 = .ok (.aload_n 0, 1) := by decide +kernel
theorem dX2_keep_71 : decode cX2_keep 71 = .ok (.dup, 1) := by decide +kernel
theorem dX2_keep_72 : decode cX2_keep 72 = .ok (.getfield 15, 3) := by decide +kernel
theorem dX2_keep_75 : decode cX2_keep 75 = .ok (.iconst 1, 1) := by decide +kernel
theorem dX2_keep_76 : decode cX2_keep 76 = .ok (.iadd, 1) := by decide +kernel
theorem dX2_keep_77 : decode cX2_keep 77 = .ok (.putfield 15, 3) := by decide +kernel
theorem dX2_keep_80 : decode cX2_keep 80 = .ok (.return_, 1) := by decide +kernel
theorem dX2_takeBack_0 : decode cX2_takeBack 0 = .ok (.aload_n 0, 1) := by decide +kernel
theorem dX2_takeBack_1 : decode cX2_takeBack 1 = .ok (.getfield 15, 3) := by decide +kernel
theorem dX2_takeBack_4 : decode cX2_takeBack 4 = .ok (.ifCond .ne 5, 3) := by decide +kernel
theorem dX2_takeBack_7 : decode cX2_takeBack 7 = .ok (.iconst (-1), 1) := by decide +kernel
theorem dX2_takeBack_8 : decode cX2_takeBack 8 = .ok (.ireturn, 1) := by decide +kernel
theorem dX2_takeBack_9 : decode cX2_takeBack 9 = .ok (.aload_n 0, 1) := by decide +kernel
theorem dX2_takeBack_10 : decode cX2_takeBack 10 = .ok (.dup, 1) := by decide +kernel
theorem dX2_takeBack_11 : decode cX2_takeBack 11 = .ok (.getfield 15, 3) := by decide +kernel
theorem dX2_takeBack_14 : decode cX2_takeBack 14 = .ok (.iconst 1, 1) := by decide +kernel
theorem dX2_takeBack_15 : decode cX2_takeBack 15 = .ok (.isub, 1) := by decide +kernel
theorem dX2_takeBack_16 : decode cX2_takeBack 16 = .ok (.putfield 15, 3) := by decide +kernel
theorem dX2_takeBack_19 : decode cX2_takeBack 19 = .ok (.aload_n 0, 1) := by decide +kernel
theorem dX2_takeBack_20 : decode cX2_takeBack 20 = .ok (.getfield 11, 3) := by decide +kernel
theorem dX2_takeBack_23 : decode cX2_takeBack 23 = .ok (.aload_n 0, 1) := by decide +kernel
theorem dX2_takeBack_24 : decode cX2_takeBack 24 = .ok (.getfield 15, 3) := by decide +kernel
theorem dX2_takeBack_27 : decode cX2_takeBack 27 = .ok (.iaload, 1) := by decide +kernel
theorem dX2_takeBack_28 : decode cX2_takeBack 28 = .ok (.istore_n 2, 1) := by decide +kernel
theorem dX2_takeBack_29 : decode cX2_takeBack 29 = .ok (.aload_n 1, 1) := by decide +kernel
theorem dX2_takeBack_30 : decode cX2_takeBack 30 = .ok (.iload_n 2, 1) := by decide +kernel
theorem dX2_takeBack_31 : decode cX2_takeBack 31 = .ok (.iconst 4, 1) := by decide +kernel
theorem dX2_takeBack_32 : decode cX2_takeBack 32 = .ok (.idiv, 1) := by decide +kernel
theorem dX2_takeBack_33 : decode cX2_takeBack 33 = .ok (.sipush 384, 3) := by decide +kernel
theorem dX2_takeBack_36 : decode cX2_takeBack 36 = .ok (.irem, 1) := by decide +kernel
theorem dX2_takeBack_37 : decode cX2_takeBack 37 = .ok (.invokevirtual 33, 3) := by decide +kernel
theorem dX2_takeBack_40 : decode cX2_takeBack 40 = .ok (.aload_n 1, 1) := by decide +kernel
theorem dX2_takeBack_41 : decode cX2_takeBack 41 = .ok (.getfield 30, 3) := by decide +kernel
theorem dX2_takeBack_44 : decode cX2_takeBack 44 = .ok (.iconst 0, 1) := by decide +kernel
theorem dX2_takeBack_45 : decode cX2_takeBack 45 = .ok (.iload_n 2, 1) := by decide +kernel
theorem dX2_takeBack_46 : decode cX2_takeBack 46 = .ok (.iconst 4, 1) := by decide +kernel
theorem dX2_takeBack_47 : decode cX2_takeBack 47 = .ok (.idiv, 1) := by decide +kernel
theorem dX2_takeBack_48 : decode cX2_takeBack 48 = .ok (.sipush 384, 3) := by decide +kernel
theorem dX2_takeBack_51 : decode cX2_takeBack 51 = .ok (.idiv, 1) := by decide +kernel
theorem dX2_takeBack_52 : decode cX2_takeBack 52 = .ok (.iastore, 1) := by decide +kernel
theorem dX2_takeBack_53 : decode cX2_takeBack 53 = .ok (.iload_n 2, 1) := by decide +kernel
theorem dX2_takeBack_54 : decode cX2_takeBack 54 = .ok (.iconst 4, 1) := by decide +kernel
theorem dX2_takeBack_55 : decode cX2_takeBack 55 = .ok (.irem, 1) := by decide +kernel
theorem dX2_takeBack_56 : decode cX2_takeBack 56 = .ok (.ireturn, 1) := by decide +kernel
theorem dX3_init_0 : decode cX3_init 0 = .ok (.aload_n 0, 1) := by decide +kernel
theorem dX3_init_1 : decode cX3_init 1 = .ok (.invokespecial 7, 3) := by decide +kernel
theorem dX3_init_4 : decode cX3_init 4 = .ok (.aload_n 0, 1) := by decide +kernel
theorem dX3_init_5 : decode cX3_init 5 = .ok (.sipush 400, 3) := by decide +kernel
theorem dX3_init_8 : decode cX3_init 8 = .ok (.newarray .byte, 2) := by decide +kernel
theorem dX3_init_10 : decode cX3_init 10 = .ok (.putfield 13, 3) := by decide +kernel
theorem dX3_init_13 : decode cX3_init 13 = .ok (.aload_n 0, 1) := by decide +kernel
theorem dX3_init_14 : decode cX3_init 14 = .ok (.new 3, 3) := by decide +kernel
theorem dX3_init_17 : decode cX3_init 17 = .ok (.dup, 1) := by decide +kernel
theorem dX3_init_18 : decode cX3_init 18 = .ok (.sipush 826, 3) := by decide +kernel
theorem dX3_init_21 : decode cX3_init 21 = .ok (.invokespecial 17, 3) := by decide +kernel
theorem dX3_init_24 : decode cX3_init 24 = .ok (.putfield 20, 3) := by decide +kernel
theorem dX3_init_27 : decode cX3_init 27 = .ok (.aload_n 0, 1) := by decide +kernel
theorem dX3_init_28 : decode cX3_init 28 = .ok (.iconst 0, 1) := by decide +kernel
theorem dX3_init_29 : decode cX3_init 29 = .ok (.putfield 24, 3) := by decide +kernel
theorem dX3_init_32 : decode cX3_init 32 = .ok (.aload_n 0, 1) := by decide +kernel
theorem dX3_init_33 : decode cX3_init 33 = .ok (.iconst 1, 1) := by decide +kernel
theorem dX3_init_34 : decode cX3_init 34 = .ok (.putfield 28, 3) := by decide +kernel
theorem dX3_init_37 : decode cX3_init 37 = .ok (.aload_n 0, 1) := by decide +kernel
theorem dX3_init_38 : decode cX3_init 38 = .ok (.iconst 0, 1) := by decide +kernel
theorem dX3_init_39 : decode cX3_init 39 = .ok (.putfield 32, 3) := by decide +kernel
theorem dX3_init_42 : decode cX3_init 42 = .ok (.aload_n 0, 1) := by decide +kernel
theorem dX3_init_43 : decode cX3_init 43 = .ok (.iconst 0, 1) := by decide +kernel
theorem dX3_init_44 : decode cX3_init 44 = .ok (.putfield 35, 3) := by decide +kernel
theorem dX3_init_47 : decode cX3_init 47 = .ok (.aload_n 0, 1) := by decide +kernel
theorem dX3_init_48 : decode cX3_init 48 = .ok (.iconst 0, 1) := by decide +kernel
theorem dX3_init_49 : decode cX3_init 49 = .ok (.putfield 38, 3) := by decide +kernel
theorem dX3_init_52 : decode cX3_init 52 = .ok (.aload_n 0, 1) := by decide +kernel
theorem dX3_init_53 : decode cX3_init 53 = .ok (.iconst 0, 1) := by decide +kernel
theorem dX3_init_54 : decode cX3_init 54 = .ok (.putfield 41, 3) := by decide +kernel
theorem dX3_init_57 : decode cX3_init 57 = .ok (.aload_n 0, 1) := by decide +kernel
theorem dX3_init_58 : decode cX3_init 58 = .ok (.iconst 0, 1) := by decide +kernel
theorem dX3_init_59 : decode cX3_init 59 = .ok (.putfield 44, 3) := by decide +kernel
theorem dX3_init_62 : decode cX3_init 62 = .ok (.return_, 1) := by decide +kernel
theorem dX3_hasRoomFor_0 : decode cX3_hasRoomFor 0 = .ok (.aload_n 0, 1) := by decide +kernel
theorem dX3_hasRoomFor_1 : decode cX3_hasRoomFor 1 = .ok (.getfield 24, 3) := by decide +kernel
theorem dX3_hasRoomFor_4 : decode cX3_hasRoomFor 4 = .ok (.iload_n 1, 1) := by decide +kernel
theorem dX3_hasRoomFor_5 : decode cX3_hasRoomFor 5 = .ok (.iadd, 1) := by decide +kernel
theorem dX3_hasRoomFor_6 : decode cX3_hasRoomFor 6 = .ok (.sipush 400, 3) := by decide +kernel
theorem dX3_hasRoomFor_9 : decode cX3_hasRoomFor 9 = .ok (.if_icmp .gt 7, 3) := by decide +kernel
theorem dX3_hasRoomFor_12 : decode cX3_hasRoomFor 12 = .ok (.iconst 1, 1) := by decide +kernel
theorem dX3_hasRoomFor_13 : decode cX3_hasRoomFor 13 = .ok (.goto 4, 3) := by decide +kernel
theorem dX3_hasRoomFor_16 : decode cX3_hasRoomFor 16 = .ok (.iconst 0, 1) := by decide +kernel
theorem dX3_hasRoomFor_17 : decode cX3_hasRoomFor 17 = .ok (.ireturn, 1) := by decide +kernel
theorem dX3_append_0 : decode cX3_append 0 = .ok (.bipush 24, 2) := by decide +kernel
theorem dX3_append_2 : decode cX3_append 2 = .ok (.istore_n 2, 1) := by decide +kernel
theorem dX3_append_3 : decode cX3_append 3 = .ok (.iload_n 2, 1) := by decide +kernel
theorem dX3_append_4 : decode cX3_append 4 = .ok (.ifCond .lt 42, 3) := by decide +kernel
theorem dX3_append_7 : decode cX3_append 7 = .ok (.aload_n 0, 1) := by decide +kernel
theorem dX3_append_8 : decode cX3_append 8 = .ok (.getfield 24, 3) := by decide +kernel
theorem dX3_append_11 : decode cX3_append 11 = .ok (.sipush 400, 3) := by decide +kernel
theorem dX3_append_14 : decode cX3_append 14 = .ok (.if_icmp .ge 32, 3) := by decide +kernel
theorem dX3_append_17 : decode cX3_append 17 = .ok (.aload_n 0, 1) := by decide +kernel
theorem dX3_append_18 : decode cX3_append 18 = .ok (.getfield 13, 3) := by decide +kernel
theorem dX3_append_21 : decode cX3_append 21 = .ok (.aload_n 0, 1) := by decide +kernel
theorem dX3_append_22 : decode cX3_append 22 = .ok (.getfield 24, 3) := by decide +kernel
theorem dX3_append_25 : decode cX3_append 25 = .ok (.iload_n 1, 1) := by decide +kernel
theorem dX3_append_26 : decode cX3_append 26 = .ok (.iload_n 2, 1) := by decide +kernel
theorem dX3_append_27 : decode cX3_append 27 = .ok (.ishr, 1) := by decide +kernel
theorem dX3_append_28 : decode cX3_append 28 = .ok (.i2b, 1) := by decide +kernel
theorem dX3_append_29 : decode cX3_append 29 = .ok (.bastore, 1) := by decide +kernel
theorem dX3_append_30 : decode cX3_append 30 = .ok (.aload_n 0, 1) := by decide +kernel
theorem dX3_append_31 : decode cX3_append 31 = .ok (.dup, 1) := by decide +kernel
theorem dX3_append_32 : decode cX3_append 32 = .ok (.getfield 24, 3) := by decide +kernel
theorem dX3_append_35 : decode cX3_append 35 = .ok (.iconst 1, 1) := by decide +kernel
theorem dX3_append_36 : decode cX3_append 36 = .ok (.iadd, 1) := by decide +kernel
theorem dX3_append_37 : decode cX3_append 37 = .ok (.putfield 24, 3) := by decide +kernel
theorem dX3_append_40 : decode cX3_append 40 = .ok (.iinc 2 (-8), 3) := by decide +kernel
theorem dX3_append_43 : decode cX3_append 43 = .ok (.goto (-40), 3) := by decide +kernel
theorem dX3_append_46 : decode cX3_append 46 = .ok (.return_, 1) := by decide +kernel
theorem dX3_readAll_0 : decode cX3_readAll 0 = .ok (.aload_n 0, 1) := by decide +kernel
theorem dX3_readAll_1 : decode cX3_readAll 1 = .ok (.iload_n 1, 1) := by decide +kernel
theorem dX3_readAll_2 : decode cX3_readAll 2 = .ok (.putfield 28, 3) := by decide +kernel
theorem dX3_readAll_5 : decode cX3_readAll 5 = .ok (.aload_n 0, 1) := by decide +kernel
theorem dX3_readAll_6 : decode cX3_readAll 6 = .ok (.iconst 0, 1) := by decide +kernel
theorem dX3_readAll_7 : decode cX3_readAll 7 = .ok (.putfield 32, 3) := by decide +kernel
theorem dX3_readAll_10 : decode cX3_readAll 10 = .ok (.aload_n 0, 1) := by decide +kernel
theorem dX3_readAll_11 : decode cX3_readAll 11 = .ok (.iconst 0, 1) := by decide +kernel
theorem dX3_readAll_12 : decode cX3_readAll 12 = .ok (.putfield 41, 3) := by decide +kernel
theorem dX3_readAll_15 : decode cX3_readAll 15 = .ok (.aload_n 0, 1) := by decide +kernel
theorem dX3_readAll_16 : decode cX3_readAll 16 = .ok (.getfield 20, 3) := by decide +kernel
theorem dX3_readAll_19 : decode cX3_readAll 19 = .ok (.invokevirtual 47, 3) := by decide +kernel
theorem dX3_readAll_22 : decode cX3_readAll 22 = .ok (.aload_n 0, 1) := by decide +kernel
theorem dX3_readAll_23 : decode cX3_readAll 23 = .ok (.invokevirtual 50, 3) := by decide +kernel
theorem dX3_readAll_26 : decode cX3_readAll 26 = .ok (.iconst 0, 1) := by decide +kernel
theorem dX3_readAll_27 : decode cX3_readAll 27 = .ok (.istore_n 2, 1) := by decide +kernel
theorem dX3_readAll_28 : decode cX3_readAll 28 = .ok (.iconst 0, 1) := by decide +kernel
theorem dX3_readAll_29 : decode cX3_readAll 29 = .ok (.istore_n 3, 1) := by decide +kernel
theorem dX3_readAll_30 : decode cX3_readAll 30 = .ok (.iload_n 3, 1) := by decide +kernel
theorem dX3_readAll_31 : decode cX3_readAll 31 = .ok (.bipush 12, 2) := by decide +kernel
theorem dX3_readAll_33 : decode cX3_readAll 33 = .ok (.if_icmp .ge 46, 3) := by decide +kernel
theorem dX3_readAll_36 : decode cX3_readAll 36 = .ok (.aload_n 0, 1) := by decide +kernel
theorem dX3_readAll_37 : decode cX3_readAll 37 = .ok (.iload_n 3, 1) := by decide +kernel
theorem dX3_readAll_38 : decode cX3_readAll 38 = .ok (.invokevirtual 53, 3) := by decide +kernel
theorem dX3_readAll_41 : decode cX3_readAll 41 = .ok (.ifCond .eq 38, 3) := by decide +kernel
theorem dX3_readAll_44 : decode cX3_readAll 44 = .ok (.aload_n 0, 1) := by decide +kernel
theorem dX3_readAll_45 : decode cX3_readAll 45 = .ok (.getfield 35, 3) := by decide +kernel
theorem dX3_readAll_48 : decode cX3_readAll 48 = .ok (.ifCond .ne 7, 3) := by decide +kernel
theorem dX3_readAll_51 : decode cX3_readAll 51 = .ok (.iconst 1, 1) := by decide +kernel
theorem dX3_readAll_52 : decode cX3_readAll 52 = .ok (.goto 4, 3) := by decide +kernel
theorem dX3_readAll_55 : decode cX3_readAll 55 = .ok (.iconst 0, 1) := by decide +kernel
theorem dX3_readAll_56 : decode cX3_readAll 56 = .ok (.istore_n 2, 1) := by decide +kernel
theorem dX3_readAll_57 : decode cX3_readAll 57 = .ok (.aload_n 0, 1) := by decide +kernel
theorem dX3_readAll_58 : decode cX3_readAll 58 = .ok (.bipush 59, 2) := by decide +kernel
theorem dX3_readAll_60 : decode cX3_readAll 60 = .ok (.invokevirtual 57, 3) := by decide +kernel
theorem dX3_readAll_63 : decode cX3_readAll 63 = .ok (.ifCond .ne 6, 3) := by decide +kernel
theorem dX3_readAll_66 : decode cX3_readAll 66 = .ok (.goto 13, 3) := by decide +kernel
theorem dX3_readAll_69 : decode cX3_readAll 69 = .ok (.aload_n 0, 1) := by decide +kernel
theorem dX3_readAll_70 : decode cX3_readAll 70 = .ok (.invokevirtual 50, 3) := by decide +kernel
theorem dX3_readAll_73 : decode cX3_readAll 73 = .ok (.iinc 3 1, 3) := by decide +kernel
theorem dX3_readAll_76 : decode cX3_readAll 76 = .ok (.goto (-46), 3) := by decide +kernel
theorem dX3_readAll_79 : decode cX3_readAll 79 = .ok (.aload_n 0, 1) := by decide +kernel
theorem dX3_readAll_80 : decode cX3_readAll 80 = .ok (.iconst 0, 1) := by decide +kernel
theorem dX3_readAll_81 : decode cX3_readAll 81 = .ok (.putfield 24, 3) := by decide +kernel
theorem dX3_readAll_84 : decode cX3_readAll 84 = .ok (.iload_n 2, 1) := by decide +kernel
theorem dX3_readAll_85 : decode cX3_readAll 85 = .ok (.ifCond .eq 7, 3) := by decide +kernel
theorem dX3_readAll_88 : decode cX3_readAll 88 = .ok (.iconst (-1), 1) := by decide +kernel
theorem dX3_readAll_89 : decode cX3_readAll 89 = .ok (.goto 7, 3) := by decide +kernel
theorem dX3_readAll_92 : decode cX3_readAll 92 = .ok (.aload_n 0, 1) := by decide +kernel
theorem dX3_readAll_93 : decode cX3_readAll 93 = .ok (.getfield 38, 3) := by decide +kernel
theorem dX3_readAll_96 : decode cX3_readAll 96 = .ok (.ireturn, 1) := by decide +kernel
theorem dX3_clause_0 : decode cX3_clause 0 = .ok (.aload_n 0, 1) := by decide +kernel
theorem dX3_clause_1 : decode cX3_clause 1 = .ok (.aload_n 0, 1) := by decide +kernel
theorem dX3_clause_2 : decode cX3_clause 2 = .ok (.getfield 28, 3) := by decide +kernel
theorem dX3_clause_5 : decode cX3_clause 5 = .ok (.ifCond .eq 8, 3) := by decide +kernel
theorem dX3_clause_8 : decode cX3_clause 8 = .ok (.ldc 60, 2) := by decide +kernel
theorem dX3_clause_10 : decode cX3_clause 10 = .ok (.goto 5, 3) := by decide +kernel
theorem dX3_clause_13 : decode cX3_clause 13 = .ok (.ldc 62, 2) := by decide +kernel
theorem dX3_clause_15 : decode cX3_clause 15 = .ok (.invokevirtual 64, 3) := by decide +kernel
theorem dX3_clause_18 : decode cX3_clause 18 = .ok (.istore_n 2, 1) := by decide +kernel
theorem dX3_clause_19 : decode cX3_clause 19 = .ok (.iload_n 2, 1) := by decide +kernel
theorem dX3_clause_20 : decode cX3_clause 20 = .ok (.iconst (-1), 1) := by decide +kernel
theorem dX3_clause_21 : decode cX3_clause 21 = .ok (.if_icmp .ne 5, 3) := by decide +kernel
theorem dX3_clause_24 : decode cX3_clause 24 = .ok (.iconst 0, 1) := by decide +kernel
theorem dX3_clause_25 : decode cX3_clause 25 = .ok (.ireturn, 1) := by decide +kernel
theorem dX3_clause_26 : decode cX3_clause 26 = .ok (.aload_n 0, 1) := by decide +kernel
theorem dX3_clause_27 : decode cX3_clause 27 = .ok (.invokevirtual 50, 3) := by decide +kernel
theorem dX3_clause_30 : decode cX3_clause 30 = .ok (.aload_n 0, 1) := by decide +kernel
theorem dX3_clause_31 : decode cX3_clause 31 = .ok (.getfield 20, 3) := by decide +kernel
theorem dX3_clause_34 : decode cX3_clause 34 = .ok (.getfield 68, 3) := by decide +kernel
theorem dX3_clause_37 : decode cX3_clause 37 = .ok (.iload_n 1, 1) := by decide +kernel
theorem dX3_clause_38 : decode cX3_clause 38 = .ok (.iload_n 2, 1) := by decide +kernel
theorem dX3_clause_39 : decode cX3_clause 39 = .ok (.iastore, 1) := by decide +kernel
theorem dX3_clause_40 : decode cX3_clause 40 = .ok (.aload_n 0, 1) := by decide +kernel
theorem dX3_clause_41 : decode cX3_clause 41 = .ok (.getfield 20, 3) := by decide +kernel
theorem dX3_clause_44 : decode cX3_clause 44 = .ok (.dup, 1) := by decide +kernel
theorem dX3_clause_45 : decode cX3_clause 45 = .ok (.getfield 72, 3) := by decide +kernel
theorem dX3_clause_48 : decode cX3_clause 48 = .ok (.iconst 1, 1) := by decide +kernel
theorem dX3_clause_49 : decode cX3_clause 49 = .ok (.iload_n 2, 1) := by decide +kernel
theorem dX3_clause_50 : decode cX3_clause 50 = .ok (.ishl, 1) := by decide +kernel
theorem dX3_clause_51 : decode cX3_clause 51 = .ok (.ior, 1) := by decide +kernel
theorem dX3_clause_52 : decode cX3_clause 52 = .ok (.putfield 72, 3) := by decide +kernel
theorem dX3_clause_55 : decode cX3_clause 55 = .ok (.aload_n 0, 1) := by decide +kernel
theorem dX3_clause_56 : decode cX3_clause 56 = .ok (.getfield 20, 3) := by decide +kernel
theorem dX3_clause_59 : decode cX3_clause 59 = .ok (.getfield 75, 3) := by decide +kernel
theorem dX3_clause_62 : decode cX3_clause 62 = .ok (.iload_n 1, 1) := by decide +kernel
theorem dX3_clause_63 : decode cX3_clause 63 = .ok (.iconst 1, 1) := by decide +kernel
theorem dX3_clause_64 : decode cX3_clause 64 = .ok (.iastore, 1) := by decide +kernel
theorem dX3_clause_65 : decode cX3_clause 65 = .ok (.aload_n 0, 1) := by decide +kernel
theorem dX3_clause_66 : decode cX3_clause 66 = .ok (.getfield 20, 3) := by decide +kernel
theorem dX3_clause_69 : decode cX3_clause 69 = .ok (.getfield 78, 3) := by decide +kernel
theorem dX3_clause_72 : decode cX3_clause 72 = .ok (.iload_n 1, 1) := by decide +kernel
theorem dX3_clause_73 : decode cX3_clause 73 = .ok (.iconst 0, 1) := by decide +kernel
theorem dX3_clause_74 : decode cX3_clause 74 = .ok (.iastore, 1) := by decide +kernel
theorem dX3_clause_75 : decode cX3_clause 75 = .ok (.aload_n 0, 1) := by decide +kernel
theorem dX3_clause_76 : decode cX3_clause 76 = .ok (.getfield 20, 3) := by decide +kernel
theorem dX3_clause_79 : decode cX3_clause 79 = .ok (.getfield 81, 3) := by decide +kernel
theorem dX3_clause_82 : decode cX3_clause 82 = .ok (.iload_n 1, 1) := by decide +kernel
theorem dX3_clause_83 : decode cX3_clause 83 = .ok (.iconst 0, 1) := by decide +kernel
theorem dX3_clause_84 : decode cX3_clause 84 = .ok (.iastore, 1) := by decide +kernel
theorem dX3_clause_85 : decode cX3_clause 85 = .ok (.aload_n 0, 1) := by decide +kernel
theorem dX3_clause_86 : decode cX3_clause 86 = .ok (.getfield 20, 3) := by decide +kernel
theorem dX3_clause_89 : decode cX3_clause 89 = .ok (.iload_n 1, 1) := by decide +kernel
theorem dX3_clause_90 : decode cX3_clause 90 = .ok (.iconst 1, 1) := by decide +kernel
theorem dX3_clause_91 : decode cX3_clause 91 = .ok (.iadd, 1) := by decide +kernel
theorem dX3_clause_92 : decode cX3_clause 92 = .ok (.putfield 84, 3) := by decide +kernel
theorem dX3_clause_95 : decode cX3_clause 95 = .ok (.aload_n 0, 1) := by decide +kernel
theorem dX3_clause_96 : decode cX3_clause 96 = .ok (.getfield 28, 3) := by decide +kernel
theorem dX3_clause_99 : decode cX3_clause 99 = .ok (.ifCond .eq 10, 3) := by decide +kernel
theorem dX3_clause_102 : decode cX3_clause 102 = .ok (.iload_n 2, 1) := by decide +kernel
theorem dX3_clause_103 : decode cX3_clause 103 = .ok (.ifCond .ne 45, 3) := by decide +kernel
theorem dX3_clause_106 : decode cX3_clause 106 = .ok (.goto 8, 3) := by decide +kernel
theorem dX3_clause_109 : decode cX3_clause 109 = .ok (.iload_n 2, 1) := by decide +kernel
theorem dX3_clause_110 : decode cX3_clause 110 = .ok (.iconst 3, 1) := by decide +kernel
theorem dX3_clause_111 : decode cX3_clause 111 = .ok (.if_icmp .eq 37, 3) := by decide +kernel
theorem dX3_clause_114 : decode cX3_clause 114 = .ok (.aload_n 0, 1) := by decide +kernel
theorem dX3_clause_115 : decode cX3_clause 115 = .ok (.getfield 20, 3) := by decide +kernel
theorem dX3_clause_118 : decode cX3_clause 118 = .ok (.getfield 78, 3) := by decide +kernel
theorem dX3_clause_121 : decode cX3_clause 121 = .ok (.iload_n 1, 1) := by decide +kernel
theorem dX3_clause_122 : decode cX3_clause 122 = .ok (.aload_n 0, 1) := by decide +kernel
theorem dX3_clause_123 : decode cX3_clause 123 = .ok (.getfield 20, 3) := by decide +kernel
theorem dX3_clause_126 : decode cX3_clause 126 = .ok (.getfield 87, 3) := by decide +kernel
theorem dX3_clause_129 : decode cX3_clause 129 = .ok (.iastore, 1) := by decide +kernel
theorem dX3_clause_130 : decode cX3_clause 130 = .ok (.aload_n 0, 1) := by decide +kernel
theorem dX3_clause_131 : decode cX3_clause 131 = .ok (.iconst 0, 1) := by decide +kernel
theorem dX3_clause_132 : decode cX3_clause 132 = .ok (.invokevirtual 90, 3) := by decide +kernel
theorem dX3_clause_135 : decode cX3_clause 135 = .ok (.ifCond .ne 5, 3) := by decide +kernel
theorem dX3_clause_138 : decode cX3_clause 138 = .ok (.iconst 0, 1) := by decide +kernel
theorem dX3_clause_139 : decode cX3_clause 139 = .ok (.ireturn, 1) := by decide +kernel
theorem dX3_clause_140 : decode cX3_clause 140 = .ok (.aload_n 0, 1) := by decide +kernel
theorem dX3_clause_141 : decode cX3_clause 141 = .ok (.getfield 20, 3) := by decide +kernel
theorem dX3_clause_144 : decode cX3_clause 144 = .ok (.iconst 0, 1) := by decide +kernel
theorem dX3_clause_145 : decode cX3_clause 145 = .ok (.invokevirtual 93, 3) := by decide +kernel
theorem dX3_clause_148 : decode cX3_clause 148 = .ok (.aload_n 0, 1) := by decide +kernel
theorem dX3_clause_149 : decode cX3_clause 149 = .ok (.getfield 28, 3) := by decide +kernel
theorem dX3_clause_152 : decode cX3_clause 152 = .ok (.ifCond .ne 60, 3) := by decide +kernel
theorem dX3_clause_155 : decode cX3_clause 155 = .ok (.aload_n 0, 1) := by decide +kernel
theorem dX3_clause_156 : decode cX3_clause 156 = .ok (.ldc 96, 2) := by decide +kernel
theorem dX3_clause_158 : decode cX3_clause 158 = .ok (.invokevirtual 64, 3) := by decide +kernel
theorem dX3_clause_161 : decode cX3_clause 161 = .ok (.ifCond .ne 51, 3) := by decide +kernel
theorem dX3_clause_164 : decode cX3_clause 164 = .ok (.aload_n 0, 1) := by decide +kernel
theorem dX3_clause_165 : decode cX3_clause 165 = .ok (.invokevirtual 50, 3) := by decide +kernel
theorem dX3_clause_168 : decode cX3_clause 168 = .ok (.aload_n 0, 1) := by decide +kernel
theorem dX3_clause_169 : decode cX3_clause 169 = .ok (.getfield 35, 3) := by decide +kernel
theorem dX3_clause_172 : decode cX3_clause 172 = .ok (.iconst 3, 1) := by decide +kernel
theorem dX3_clause_173 : decode cX3_clause 173 = .ok (.if_icmp .ne 20, 3) := by decide +kernel
theorem dX3_clause_176 : decode cX3_clause 176 = .ok (.aload_n 0, 1) := by decide +kernel
theorem dX3_clause_177 : decode cX3_clause 177 = .ok (.getfield 44, 3) := by decide +kernel
theorem dX3_clause_180 : decode cX3_clause 180 = .ok (.iconst 1, 1) := by decide +kernel
theorem dX3_clause_181 : decode cX3_clause 181 = .ok (.if_icmp .lt 12, 3) := by decide +kernel
theorem dX3_clause_184 : decode cX3_clause 184 = .ok (.aload_n 0, 1) := by decide +kernel
theorem dX3_clause_185 : decode cX3_clause 185 = .ok (.getfield 44, 3) := by decide +kernel
theorem dX3_clause_188 : decode cX3_clause 188 = .ok (.bipush 20, 2) := by decide +kernel
theorem dX3_clause_190 : decode cX3_clause 190 = .ok (.if_icmp .le 5, 3) := by decide +kernel
theorem dX3_clause_193 : decode cX3_clause 193 = .ok (.iconst 0, 1) := by decide +kernel
theorem dX3_clause_194 : decode cX3_clause 194 = .ok (.ireturn, 1) := by decide +kernel
theorem dX3_clause_195 : decode cX3_clause 195 = .ok (.aload_n 0, 1) := by decide +kernel
theorem dX3_clause_196 : decode cX3_clause 196 = .ok (.getfield 20, 3) := by decide +kernel
theorem dX3_clause_199 : decode cX3_clause 199 = .ok (.getfield 75, 3) := by decide +kernel
theorem dX3_clause_202 : decode cX3_clause 202 = .ok (.iload_n 1, 1) := by decide +kernel
theorem dX3_clause_203 : decode cX3_clause 203 = .ok (.aload_n 0, 1) := by decide +kernel
theorem dX3_clause_204 : decode cX3_clause 204 = .ok (.getfield 44, 3) := by decide +kernel
theorem dX3_clause_207 : decode cX3_clause 207 = .ok (.iastore, 1) := by decide +kernel
theorem dX3_clause_208 : decode cX3_clause 208 = .ok (.aload_n 0, 1) := by decide +kernel
theorem dX3_clause_209 : decode cX3_clause 209 = .ok (.invokevirtual 50, 3) := by decide +kernel
theorem dX3_clause_212 : decode cX3_clause 212 = .ok (.aload_n 0, 1) := by decide +kernel
theorem dX3_clause_213 : decode cX3_clause 213 = .ok (.ldc 97, 2) := by decide +kernel
theorem dX3_clause_215 : decode cX3_clause 215 = .ok (.invokevirtual 64, 3) := by decide +kernel
theorem dX3_clause_218 : decode cX3_clause 218 = .ok (.ifCond .ne 41, 3) := by decide +kernel
theorem dX3_clause_221 : decode cX3_clause 221 = .ok (.aload_n 0, 1) := by decide +kernel
theorem dX3_clause_222 : decode cX3_clause 222 = .ok (.invokevirtual 50, 3) := by decide +kernel
theorem dX3_clause_225 : decode cX3_clause 225 = .ok (.aload_n 0, 1) := by decide +kernel
theorem dX3_clause_226 : decode cX3_clause 226 = .ok (.getfield 20, 3) := by decide +kernel
theorem dX3_clause_229 : decode cX3_clause 229 = .ok (.getfield 81, 3) := by decide +kernel
theorem dX3_clause_232 : decode cX3_clause 232 = .ok (.iload_n 1, 1) := by decide +kernel
theorem dX3_clause_233 : decode cX3_clause 233 = .ok (.aload_n 0, 1) := by decide +kernel
theorem dX3_clause_234 : decode cX3_clause 234 = .ok (.getfield 20, 3) := by decide +kernel
theorem dX3_clause_237 : decode cX3_clause 237 = .ok (.getfield 87, 3) := by decide +kernel
theorem dX3_clause_240 : decode cX3_clause 240 = .ok (.iastore, 1) := by decide +kernel
theorem dX3_clause_241 : decode cX3_clause 241 = .ok (.aload_n 0, 1) := by decide +kernel
theorem dX3_clause_242 : decode cX3_clause 242 = .ok (.iconst 0, 1) := by decide +kernel
theorem dX3_clause_243 : decode cX3_clause 243 = .ok (.invokevirtual 99, 3) := by decide +kernel
theorem dX3_clause_246 : decode cX3_clause 246 = .ok (.ifCond .ne 5, 3) := by decide +kernel
theorem dX3_clause_249 : decode cX3_clause 249 = .ok (.iconst 0, 1) := by decide +kernel
theorem dX3_clause_250 : decode cX3_clause 250 = .ok (.ireturn, 1) := by decide +kernel
theorem dX3_clause_251 : decode cX3_clause 251 = .ok (.aload_n 0, 1) := by decide +kernel
theorem dX3_clause_252 : decode cX3_clause 252 = .ok (.getfield 20, 3) := by decide +kernel
theorem dX3_clause_255 : decode cX3_clause 255 = .ok (.iconst 0, 1) := by decide +kernel
theorem dX3_clause_256 : decode cX3_clause 256 = .ok (.invokevirtual 93, 3) := by decide +kernel
theorem dX3_clause_259 : decode cX3_clause 259 = .ok (.iconst 1, 1) := by decide +kernel
theorem dX3_clause_260 : decode cX3_clause 260 = .ok (.ireturn, 1) := by decide +kernel
theorem dX3_test_0 : decode cX3_test 0 = .ok (.iconst 0, 1) := by decide +kernel
theorem dX3_test_1 : decode cX3_test 1 = .ok (.istore_n 2, 1) := by decide +kernel
theorem dX3_test_2 : decode cX3_test 2 = .ok (.iconst 0, 1) := by decide +kernel
theorem dX3_test_3 : decode cX3_test 3 = .ok (.istore_n 3, 1) := by decide +kernel
theorem dX3_test_4 : decode cX3_test 4 = .ok (.iload_n 3, 1) := by decide +kernel
theorem dX3_test_5 : decode cX3_test 5 = .ok (.sipush 400, 3) := by decide +kernel
theorem dX3_test_8 : decode cX3_test 8 = .ok (.if_icmp .ge 108, 3) := by decide +kernel
theorem dX3_test_11 : decode cX3_test 11 = .ok (.iconst 0, 1) := by decide +kernel
theorem dX3_test_12 : decode cX3_test 12 = .ok (.istore 4, 2) := by decide +kernel
theorem dX3_test_14 : decode cX3_test 14 = .ok (.iconst 0, 1) := by decide +kernel
theorem dX3_test_15 : decode cX3_test 15 = .ok (.istore 5, 2) := by decide +kernel
theorem dX3_test_17 : decode cX3_test 17 = .ok (.iload 5, 2) := by decide +kernel
theorem dX3_test_19 : decode cX3_test 19 = .ok (.sipush 400, 3) := by decide +kernel
theorem dX3_test_22 : decode cX3_test 22 = .ok (.if_icmp .ge 55, 3) := by decide +kernel
theorem dX3_test_25 : decode cX3_test 25 = .ok (.aload_n 0, 1) := by decide +kernel
theorem dX3_test_26 : decode cX3_test 26 = .ok (.iload_n 1, 1) := by decide +kernel
theorem dX3_test_27 : decode cX3_test 27 = .ok (.invokevirtual 102, 3) := by decide +kernel
theorem dX3_test_30 : decode cX3_test 30 = .ok (.ifCond .ne 5, 3) := by decide +kernel
theorem dX3_test_33 : decode cX3_test 33 = .ok (.iconst 0, 1) := by decide +kernel
theorem dX3_test_34 : decode cX3_test 34 = .ok (.ireturn, 1) := by decide +kernel
theorem dX3_test_35 : decode cX3_test 35 = .ok (.aload_n 0, 1) := by decide +kernel
theorem dX3_test_36 : decode cX3_test 36 = .ok (.getfield 20, 3) := by decide +kernel
theorem dX3_test_39 : decode cX3_test 39 = .ok (.iload 4, 2) := by decide +kernel
theorem dX3_test_41 : decode cX3_test 41 = .ok (.invokevirtual 105, 3) := by decide +kernel
theorem dX3_test_44 : decode cX3_test 44 = .ok (.aload_n 0, 1) := by decide +kernel
theorem dX3_test_45 : decode cX3_test 45 = .ok (.ldc 108, 2) := by decide +kernel
theorem dX3_test_47 : decode cX3_test 47 = .ok (.invokevirtual 64, 3) := by decide +kernel
theorem dX3_test_50 : decode cX3_test 50 = .ok (.iconst (-1), 1) := by decide +kernel
theorem dX3_test_51 : decode cX3_test 51 = .ok (.if_icmp .ne 6, 3) := by decide +kernel
theorem dX3_test_54 : decode cX3_test 54 = .ok (.goto 23, 3) := by decide +kernel
theorem dX3_test_57 : decode cX3_test 57 = .ok (.aload_n 0, 1) := by decide +kernel
theorem dX3_test_58 : decode cX3_test 58 = .ok (.getfield 20, 3) := by decide +kernel
theorem dX3_test_61 : decode cX3_test 61 = .ok (.iconst 3, 1) := by decide +kernel
theorem dX3_test_62 : decode cX3_test 62 = .ok (.invokevirtual 110, 3) := by decide +kernel
theorem dX3_test_65 : decode cX3_test 65 = .ok (.istore 4, 2) := by decide +kernel
theorem dX3_test_67 : decode cX3_test 67 = .ok (.aload_n 0, 1) := by decide +kernel
theorem dX3_test_68 : decode cX3_test 68 = .ok (.invokevirtual 50, 3) := by decide +kernel
theorem dX3_test_71 : decode cX3_test 71 = .ok (.iinc 5 1, 3) := by decide +kernel
theorem dX3_test_74 : decode cX3_test 74 = .ok (.goto (-57), 3) := by decide +kernel
theorem dX3_test_77 : decode cX3_test 77 = .ok (.aload_n 0, 1) := by decide +kernel
theorem dX3_test_78 : decode cX3_test 78 = .ok (.getfield 20, 3) := by decide +kernel
theorem dX3_test_81 : decode cX3_test 81 = .ok (.iload_n 2, 1) := by decide +kernel
theorem dX3_test_82 : decode cX3_test 82 = .ok (.invokevirtual 105, 3) := by decide +kernel
theorem dX3_test_85 : decode cX3_test 85 = .ok (.aload_n 0, 1) := by decide +kernel
theorem dX3_test_86 : decode cX3_test 86 = .ok (.ldc 114, 2) := by decide +kernel
theorem dX3_test_88 : decode cX3_test 88 = .ok (.invokevirtual 64, 3) := by decide +kernel
theorem dX3_test_91 : decode cX3_test 91 = .ok (.iconst (-1), 1) := by decide +kernel
theorem dX3_test_92 : decode cX3_test 92 = .ok (.if_icmp .ne 5, 3) := by decide +kernel
theorem dX3_test_95 : decode cX3_test 95 = .ok (.iconst 1, 1) := by decide +kernel
theorem dX3_test_96 : decode cX3_test 96 = .ok (.ireturn, 1) := by decide +kernel
theorem dX3_test_97 : decode cX3_test 97 = .ok (.aload_n 0, 1) := by decide +kernel
theorem dX3_test_98 : decode cX3_test 98 = .ok (.getfield 20, 3) := by decide +kernel
theorem dX3_test_101 : decode cX3_test 101 = .ok (.iconst 4, 1) := by decide +kernel
theorem dX3_test_102 : decode cX3_test 102 = .ok (.invokevirtual 110, 3) := by decide +kernel
theorem dX3_test_105 : decode cX3_test 105 = .ok (.istore_n 2, 1) := by decide +kernel
theorem dX3_test_106 : decode cX3_test 106 = .ok (.aload_n 0, 1) := by decide +kernel
theorem dX3_test_107 : decode cX3_test 107 = .ok (.invokevirtual 50, 3) := by decide +kernel
theorem dX3_test_110 : decode cX3_test 110 = .ok (.iinc 3 1, 3) := by decide +kernel
theorem dX3_test_113 : decode cX3_test 113 = .ok (.goto (-109), 3) := by decide +kernel
theorem dX3_test_116 : decode cX3_test 116 = .ok (.iconst 0, 1) := by decide +kernel
theorem dX3_test_117 : decode cX3_test 117 = .ok (.ireturn, 1) := by decide +kernel
theorem dX3_plain_0 : decode cX3_plain 0 = .ok (.iconst 0, 1) := by decide +kernel
theorem dX3_plain_1 : decode cX3_plain 1 = .ok (.istore_n 2, 1) := by decide +kernel
theorem dX3_plain_2 : decode cX3_plain 2 = .ok (.iconst 0, 1) := by decide +kernel
theorem dX3_plain_3 : decode cX3_plain 3 = .ok (.istore_n 3, 1) := by decide +kernel
theorem dX3_plain_4 : decode cX3_plain 4 = .ok (.iload_n 3, 1) := by decide +kernel
theorem dX3_plain_5 : decode cX3_plain 5 = .ok (.sipush 400, 3) := by decide +kernel
theorem dX3_plain_8 : decode cX3_plain 8 = .ok (.if_icmp .ge 32, 3) := by decide +kernel
theorem dX3_plain_11 : decode cX3_plain 11 = .ok (.aload_n 0, 1) := by decide +kernel
theorem dX3_plain_12 : decode cX3_plain 12 = .ok (.ldc 116, 2) := by decide +kernel
theorem dX3_plain_14 : decode cX3_plain 14 = .ok (.invokevirtual 64, 3) := by decide +kernel
theorem dX3_plain_17 : decode cX3_plain 17 = .ok (.ifCond .ne 23, 3) := by decide +kernel
theorem dX3_plain_20 : decode cX3_plain 20 = .ok (.iload_n 2, 1) := by decide +kernel
theorem dX3_plain_21 : decode cX3_plain 21 = .ok (.ifCond .ne 7, 3) := by decide +kernel
theorem dX3_plain_24 : decode cX3_plain 24 = .ok (.iconst 1, 1) := by decide +kernel
theorem dX3_plain_25 : decode cX3_plain 25 = .ok (.goto 4, 3) := by decide +kernel
theorem dX3_plain_28 : decode cX3_plain 28 = .ok (.iconst 0, 1) := by decide +kernel
theorem dX3_plain_29 : decode cX3_plain 29 = .ok (.istore_n 2, 1) := by decide +kernel
theorem dX3_plain_30 : decode cX3_plain 30 = .ok (.aload_n 0, 1) := by decide +kernel
theorem dX3_plain_31 : decode cX3_plain 31 = .ok (.invokevirtual 50, 3) := by decide +kernel
theorem dX3_plain_34 : decode cX3_plain 34 = .ok (.iinc 3 1, 3) := by decide +kernel
theorem dX3_plain_37 : decode cX3_plain 37 = .ok (.goto (-33), 3) := by decide +kernel
theorem dX3_plain_40 : decode cX3_plain 40 = .ok (.aload_n 0, 1) := by decide +kernel
theorem dX3_plain_41 : decode cX3_plain 41 = .ok (.bipush 40, 2) := by decide +kernel
theorem dX3_plain_43 : decode cX3_plain 43 = .ok (.invokevirtual 57, 3) := by decide +kernel
theorem dX3_plain_46 : decode cX3_plain 46 = .ok (.ifCond .eq 43, 3) := by decide +kernel
theorem dX3_plain_49 : decode cX3_plain 49 = .ok (.iload_n 1, 1) := by decide +kernel
theorem dX3_plain_50 : decode cX3_plain 50 = .ok (.bipush 8, 2) := by decide +kernel
theorem dX3_plain_52 : decode cX3_plain 52 = .ok (.if_icmp .lt 5, 3) := by decide +kernel
theorem dX3_plain_55 : decode cX3_plain 55 = .ok (.iconst 0, 1) := by decide +kernel
theorem dX3_plain_56 : decode cX3_plain 56 = .ok (.ireturn, 1) := by decide +kernel
theorem dX3_plain_57 : decode cX3_plain 57 = .ok (.aload_n 0, 1) := by decide +kernel
theorem dX3_plain_58 : decode cX3_plain 58 = .ok (.invokevirtual 50, 3) := by decide +kernel
theorem dX3_plain_61 : decode cX3_plain 61 = .ok (.aload_n 0, 1) := by decide +kernel
theorem dX3_plain_62 : decode cX3_plain 62 = .ok (.iload_n 1, 1) := by decide +kernel
theorem dX3_plain_63 : decode cX3_plain 63 = .ok (.iconst 1, 1) := by decide +kernel
theorem dX3_plain_64 : decode cX3_plain 64 = .ok (.iadd, 1) := by decide +kernel
theorem dX3_plain_65 : decode cX3_plain 65 = .ok (.invokevirtual 99, 3) := by decide +kernel
theorem dX3_plain_68 : decode cX3_plain 68 = .ok (.ifCond .eq 12, 3) := by decide +kernel
theorem dX3_plain_71 : decode cX3_plain 71 = .ok (.aload_n 0, 1) := by decide +kernel
theorem dX3_plain_72 : decode cX3_plain 72 = .ok (.bipush 41, 2) := by decide +kernel
theorem dX3_plain_74 : decode cX3_plain 74 = .ok (.invokevirtual 57, 3) := by decide +kernel
theorem dX3_plain_77 : decode cX3_plain 77 = .ok (.ifCond .ne 5, 3) := by decide +kernel
theorem dX3_plain_80 : decode cX3_plain 80 = .ok (.iconst 0, 1) := by decide +kernel
theorem dX3_plain_81 : decode cX3_plain 81 = .ok (.ireturn, 1) := by decide +kernel
theorem dX3_plain_82 : decode cX3_plain 82 = .ok (.aload_n 0, 1) := by decide +kernel
theorem dX3_plain_83 : decode cX3_plain 83 = .ok (.invokevirtual 50, 3) := by decide +kernel
theorem dX3_plain_86 : decode cX3_plain 86 = .ok (.goto 72, 3) := by decide +kernel
theorem dX3_plain_89 : decode cX3_plain 89 = .ok (.aload_n 0, 1) := by decide +kernel
theorem dX3_plain_90 : decode cX3_plain 90 = .ok (.iload_n 1, 1) := by decide +kernel
theorem dX3_plain_91 : decode cX3_plain 91 = .ok (.invokevirtual 90, 3) := by decide +kernel
theorem dX3_plain_94 : decode cX3_plain 94 = .ok (.ifCond .eq 30, 3) := by decide +kernel
theorem dX3_plain_97 : decode cX3_plain 97 = .ok (.aload_n 0, 1) := by decide +kernel
theorem dX3_plain_98 : decode cX3_plain 98 = .ok (.bipush 60, 2) := by decide +kernel
theorem dX3_plain_100 : decode cX3_plain 100 = .ok (.invokevirtual 57, 3) := by decide +kernel
theorem dX3_plain_103 : decode cX3_plain 103 = .ok (.ifCond .ne 23, 3) := by decide +kernel
theorem dX3_plain_106 : decode cX3_plain 106 = .ok (.aload_n 0, 1) := by decide +kernel
theorem dX3_plain_107 : decode cX3_plain 107 = .ok (.bipush 62, 2) := by decide +kernel
theorem dX3_plain_109 : decode cX3_plain 109 = .ok (.invokevirtual 57, 3) := by decide +kernel
theorem dX3_plain_112 : decode cX3_plain 112 = .ok (.ifCond .ne 14, 3) := by decide +kernel
theorem dX3_plain_115 : decode cX3_plain 115 = .ok (.aload_n 0, 1) := by decide +kernel
theorem dX3_plain_116 : decode cX3_plain 116 = .ok (.bipush 61, 2) := by decide +kernel
theorem dX3_plain_118 : decode cX3_plain 118 = .ok (.invokevirtual 57, 3) := by decide +kernel
theorem dX3_plain_121 : decode cX3_plain 121 = .ok (.ifCond .ne 5, 3) := by decide +kernel
theorem dX3_plain_124 : decode cX3_plain 124 = .ok (.iconst 0, 1) := by decide +kernel
theorem dX3_plain_125 : decode cX3_plain 125 = .ok (.ireturn, 1) := by decide +kernel
theorem dX3_plain_126 : decode cX3_plain 126 = .ok (.aload_n 0, 1) := by decide +kernel
theorem dX3_plain_127 : decode cX3_plain 127 = .ok (.getfield 13, 3) := by decide +kernel
theorem dX3_plain_130 : decode cX3_plain 130 = .ok (.aload_n 0, 1) := by decide +kernel
theorem dX3_plain_131 : decode cX3_plain 131 = .ok (.getfield 38, 3) := by decide +kernel
theorem dX3_plain_134 : decode cX3_plain 134 = .ok (.baload, 1) := by decide +kernel
theorem dX3_plain_135 : decode cX3_plain 135 = .ok (.istore_n 3, 1) := by decide +kernel
theorem dX3_plain_136 : decode cX3_plain 136 = .ok (.aload_n 0, 1) := by decide +kernel
theorem dX3_plain_137 : decode cX3_plain 137 = .ok (.invokevirtual 50, 3) := by decide +kernel
theorem dX3_plain_140 : decode cX3_plain 140 = .ok (.aload_n 0, 1) := by decide +kernel
theorem dX3_plain_141 : decode cX3_plain 141 = .ok (.iload_n 1, 1) := by decide +kernel
theorem dX3_plain_142 : decode cX3_plain 142 = .ok (.invokevirtual 90, 3) := by decide +kernel
theorem dX3_plain_145 : decode cX3_plain 145 = .ok (.ifCond .ne 5, 3) := by decide +kernel
theorem dX3_plain_148 : decode cX3_plain 148 = .ok (.iconst 0, 1) := by decide +kernel
theorem dX3_plain_149 : decode cX3_plain 149 = .ok (.ireturn, 1) := by decide +kernel
theorem dX3_plain_150 : decode cX3_plain 150 = .ok (.aload_n 0, 1) := by decide +kernel
theorem dX3_plain_151 : decode cX3_plain 151 = .ok (.getfield 20, 3) := by decide +kernel
theorem dX3_plain_154 : decode cX3_plain 154 = .ok (.iload_n 3, 1) := by decide +kernel
theorem dX3_plain_155 : decode cX3_plain 155 = .ok (.invokevirtual 93, 3) := by decide +kernel
theorem dX3_plain_158 : decode cX3_plain 158 = .ok (.iload_n 2, 1) := by decide +kernel
theorem dX3_plain_159 : decode cX3_plain 159 = .ok (.ifCond .eq 11, 3) := by decide +kernel
theorem dX3_plain_162 : decode cX3_plain 162 = .ok (.aload_n 0, 1) := by decide +kernel
theorem dX3_plain_163 : decode cX3_plain 163 = .ok (.getfield 20, 3) := by decide +kernel
theorem dX3_plain_166 : decode cX3_plain 166 = .ok (.iconst 5, 1) := by decide +kernel
theorem dX3_plain_167 : decode cX3_plain 167 = .ok (.invokevirtual 93, 3) := by decide +kernel
theorem dX3_plain_170 : decode cX3_plain 170 = .ok (.iconst 1, 1) := by decide +kernel
theorem dX3_plain_171 : decode cX3_plain 171 = .ok (.ireturn, 1) := by decide +kernel
theorem dX3_sum_0 : decode cX3_sum 0 = .ok (.iconst 0, 1) := by decide +kernel
theorem dX3_sum_1 : decode cX3_sum 1 = .ok (.istore_n 2, 1) := by decide +kernel
theorem dX3_sum_2 : decode cX3_sum 2 = .ok (.iconst 0, 1) := by decide +kernel
theorem dX3_sum_3 : decode cX3_sum 3 = .ok (.istore_n 3, 1) := by decide +kernel
theorem dX3_sum_4 : decode cX3_sum 4 = .ok (.iload_n 3, 1) := by decide +kernel
theorem dX3_sum_5 : decode cX3_sum 5 = .ok (.sipush 400, 3) := by decide +kernel
theorem dX3_sum_8 : decode cX3_sum 8 = .ok (.if_icmp .ge 143, 3) := by decide +kernel
theorem dX3_sum_11 : decode cX3_sum 11 = .ok (.aload_n 0, 1) := by decide +kernel
theorem dX3_sum_12 : decode cX3_sum 12 = .ok (.iload_n 1, 1) := by decide +kernel
theorem dX3_sum_13 : decode cX3_sum 13 = .ok (.invokevirtual 118, 3) := by decide +kernel
theorem dX3_sum_16 : decode cX3_sum 16 = .ok (.ifCond .ne 5, 3) := by decide +kernel
theorem dX3_sum_19 : decode cX3_sum 19 = .ok (.iconst 0, 1) := by decide +kernel
theorem dX3_sum_20 : decode cX3_sum 20 = .ok (.ireturn, 1) := by decide +kernel
theorem dX3_sum_21 : decode cX3_sum 21 = .ok (.iconst 0, 1) := by decide +kernel
theorem dX3_sum_22 : decode cX3_sum 22 = .ok (.istore 4, 2) := by decide +kernel
theorem dX3_sum_24 : decode cX3_sum 24 = .ok (.iload 4, 2) := by decide +kernel
theorem dX3_sum_26 : decode cX3_sum 26 = .ok (.sipush 400, 3) := by decide +kernel
theorem dX3_sum_29 : decode cX3_sum 29 = .ok (.if_icmp .ge 70, 3) := by decide +kernel
theorem dX3_sum_32 : decode cX3_sum 32 = .ok (.aload_n 0, 1) := by decide +kernel
theorem dX3_sum_33 : decode cX3_sum 33 = .ok (.bipush 42, 2) := by decide +kernel
theorem dX3_sum_35 : decode cX3_sum 35 = .ok (.invokevirtual 57, 3) := by decide +kernel
theorem dX3_sum_38 : decode cX3_sum 38 = .ok (.ifCond .ne 21, 3) := by decide +kernel
theorem dX3_sum_41 : decode cX3_sum 41 = .ok (.aload_n 0, 1) := by decide +kernel
theorem dX3_sum_42 : decode cX3_sum 42 = .ok (.bipush 47, 2) := by decide +kernel
theorem dX3_sum_44 : decode cX3_sum 44 = .ok (.invokevirtual 57, 3) := by decide +kernel
theorem dX3_sum_47 : decode cX3_sum 47 = .ok (.ifCond .ne 12, 3) := by decide +kernel
theorem dX3_sum_50 : decode cX3_sum 50 = .ok (.aload_n 0, 1) := by decide +kernel
theorem dX3_sum_51 : decode cX3_sum 51 = .ok (.bipush 37, 2) := by decide +kernel
theorem dX3_sum_53 : decode cX3_sum 53 = .ok (.invokevirtual 57, 3) := by decide +kernel
theorem dX3_sum_56 : decode cX3_sum 56 = .ok (.ifCond .eq 43, 3) := by decide +kernel
theorem dX3_sum_59 : decode cX3_sum 59 = .ok (.aload_n 0, 1) := by decide +kernel
theorem dX3_sum_60 : decode cX3_sum 60 = .ok (.getfield 13, 3) := by decide +kernel
theorem dX3_sum_63 : decode cX3_sum 63 = .ok (.aload_n 0, 1) := by decide +kernel
theorem dX3_sum_64 : decode cX3_sum 64 = .ok (.getfield 38, 3) := by decide +kernel
theorem dX3_sum_67 : decode cX3_sum 67 = .ok (.baload, 1) := by decide +kernel
theorem dX3_sum_68 : decode cX3_sum 68 = .ok (.istore 5, 2) := by decide +kernel
theorem dX3_sum_70 : decode cX3_sum 70 = .ok (.aload_n 0, 1) := by decide +kernel
theorem dX3_sum_71 : decode cX3_sum 71 = .ok (.invokevirtual 50, 3) := by decide +kernel
theorem dX3_sum_74 : decode cX3_sum 74 = .ok (.aload_n 0, 1) := by decide +kernel
theorem dX3_sum_75 : decode cX3_sum 75 = .ok (.iload_n 1, 1) := by decide +kernel
theorem dX3_sum_76 : decode cX3_sum 76 = .ok (.invokevirtual 118, 3) := by decide +kernel
theorem dX3_sum_79 : decode cX3_sum 79 = .ok (.ifCond .ne 5, 3) := by decide +kernel
theorem dX3_sum_82 : decode cX3_sum 82 = .ok (.iconst 0, 1) := by decide +kernel
theorem dX3_sum_83 : decode cX3_sum 83 = .ok (.ireturn, 1) := by decide +kernel
theorem dX3_sum_84 : decode cX3_sum 84 = .ok (.aload_n 0, 1) := by decide +kernel
theorem dX3_sum_85 : decode cX3_sum 85 = .ok (.getfield 20, 3) := by decide +kernel
theorem dX3_sum_88 : decode cX3_sum 88 = .ok (.iload 5, 2) := by decide +kernel
theorem dX3_sum_90 : decode cX3_sum 90 = .ok (.invokevirtual 93, 3) := by decide +kernel
theorem dX3_sum_93 : decode cX3_sum 93 = .ok (.iinc 4 1, 3) := by decide +kernel
theorem dX3_sum_96 : decode cX3_sum 96 = .ok (.goto (-72), 3) := by decide +kernel
theorem dX3_sum_99 : decode cX3_sum 99 = .ok (.iload_n 2, 1) := by decide +kernel
theorem dX3_sum_100 : decode cX3_sum 100 = .ok (.ifCond .eq 11, 3) := by decide +kernel
theorem dX3_sum_103 : decode cX3_sum 103 = .ok (.aload_n 0, 1) := by decide +kernel
theorem dX3_sum_104 : decode cX3_sum 104 = .ok (.getfield 20, 3) := by decide +kernel
theorem dX3_sum_107 : decode cX3_sum 107 = .ok (.iload_n 2, 1) := by decide +kernel
theorem dX3_sum_108 : decode cX3_sum 108 = .ok (.invokevirtual 93, 3) := by decide +kernel
theorem dX3_sum_111 : decode cX3_sum 111 = .ok (.aload_n 0, 1) := by decide +kernel
theorem dX3_sum_112 : decode cX3_sum 112 = .ok (.bipush 43, 2) := by decide +kernel
theorem dX3_sum_114 : decode cX3_sum 114 = .ok (.invokevirtual 57, 3) := by decide +kernel
theorem dX3_sum_117 : decode cX3_sum 117 = .ok (.ifCond .ne 14, 3) := by decide +kernel
theorem dX3_sum_120 : decode cX3_sum 120 = .ok (.aload_n 0, 1) := by decide +kernel
theorem dX3_sum_121 : decode cX3_sum 121 = .ok (.bipush 45, 2) := by decide +kernel
theorem dX3_sum_123 : decode cX3_sum 123 = .ok (.invokevirtual 57, 3) := by decide +kernel
theorem dX3_sum_126 : decode cX3_sum 126 = .ok (.ifCond .ne 5, 3) := by decide +kernel
theorem dX3_sum_129 : decode cX3_sum 129 = .ok (.iconst 1, 1) := by decide +kernel
theorem dX3_sum_130 : decode cX3_sum 130 = .ok (.ireturn, 1) := by decide +kernel
theorem dX3_sum_131 : decode cX3_sum 131 = .ok (.aload_n 0, 1) := by decide +kernel
theorem dX3_sum_132 : decode cX3_sum 132 = .ok (.getfield 13, 3) := by decide +kernel
theorem dX3_sum_135 : decode cX3_sum 135 = .ok (.aload_n 0, 1) := by decide +kernel
theorem dX3_sum_136 : decode cX3_sum 136 = .ok (.getfield 38, 3) := by decide +kernel
theorem dX3_sum_139 : decode cX3_sum 139 = .ok (.baload, 1) := by decide +kernel
theorem dX3_sum_140 : decode cX3_sum 140 = .ok (.istore_n 2, 1) := by decide +kernel
theorem dX3_sum_141 : decode cX3_sum 141 = .ok (.aload_n 0, 1) := by decide +kernel
theorem dX3_sum_142 : decode cX3_sum 142 = .ok (.invokevirtual 50, 3) := by decide +kernel
theorem dX3_sum_145 : decode cX3_sum 145 = .ok (.iinc 3 1, 3) := by decide +kernel
theorem dX3_sum_148 : decode cX3_sum 148 = .ok (.goto (-144), 3) := by decide +kernel
theorem dX3_sum_151 : decode cX3_sum 151 = .ok (.iconst 0, 1) := by decide +kernel
theorem dX3_sum_152 : decode cX3_sum 152 = .ok (.ireturn, 1) := by decide +kernel
theorem dX3_part_0 : decode cX3_part 0 = .ok (.aload_n 0, 1) := by decide +kernel
theorem dX3_part_1 : decode cX3_part 1 = .ok (.bipush 91, 2) := by decide +kernel
theorem dX3_part_3 : decode cX3_part 3 = .ok (.invokevirtual 57, 3) := by decide +kernel
theorem dX3_part_6 : decode cX3_part 6 = .ok (.ifCond .eq 42, 3) := by decide +kernel
theorem dX3_part_9 : decode cX3_part 9 = .ok (.iload_n 1, 1) := by decide +kernel
theorem dX3_part_10 : decode cX3_part 10 = .ok (.bipush 8, 2) := by decide +kernel
theorem dX3_part_12 : decode cX3_part 12 = .ok (.if_icmp .lt 5, 3) := by decide +kernel
theorem dX3_part_15 : decode cX3_part 15 = .ok (.iconst 0, 1) := by decide +kernel
theorem dX3_part_16 : decode cX3_part 16 = .ok (.ireturn, 1) := by decide +kernel
theorem dX3_part_17 : decode cX3_part 17 = .ok (.aload_n 0, 1) := by decide +kernel
theorem dX3_part_18 : decode cX3_part 18 = .ok (.invokevirtual 50, 3) := by decide +kernel
theorem dX3_part_21 : decode cX3_part 21 = .ok (.aload_n 0, 1) := by decide +kernel
theorem dX3_part_22 : decode cX3_part 22 = .ok (.iload_n 1, 1) := by decide +kernel
theorem dX3_part_23 : decode cX3_part 23 = .ok (.iconst 1, 1) := by decide +kernel
theorem dX3_part_24 : decode cX3_part 24 = .ok (.iadd, 1) := by decide +kernel
theorem dX3_part_25 : decode cX3_part 25 = .ok (.invokevirtual 90, 3) := by decide +kernel
theorem dX3_part_28 : decode cX3_part 28 = .ok (.ifCond .eq 12, 3) := by decide +kernel
theorem dX3_part_31 : decode cX3_part 31 = .ok (.aload_n 0, 1) := by decide +kernel
theorem dX3_part_32 : decode cX3_part 32 = .ok (.bipush 93, 2) := by decide +kernel
theorem dX3_part_34 : decode cX3_part 34 = .ok (.invokevirtual 57, 3) := by decide +kernel
theorem dX3_part_37 : decode cX3_part 37 = .ok (.ifCond .ne 5, 3) := by decide +kernel
theorem dX3_part_40 : decode cX3_part 40 = .ok (.iconst 0, 1) := by decide +kernel
theorem dX3_part_41 : decode cX3_part 41 = .ok (.ireturn, 1) := by decide +kernel
theorem dX3_part_42 : decode cX3_part 42 = .ok (.aload_n 0, 1) := by decide +kernel
theorem dX3_part_43 : decode cX3_part 43 = .ok (.invokevirtual 50, 3) := by decide +kernel
theorem dX3_part_46 : decode cX3_part 46 = .ok (.iconst 1, 1) := by decide +kernel
theorem dX3_part_47 : decode cX3_part 47 = .ok (.ireturn, 1) := by decide +kernel
theorem dX3_part_48 : decode cX3_part 48 = .ok (.aload_n 0, 1) := by decide +kernel
theorem dX3_part_49 : decode cX3_part 49 = .ok (.getfield 35, 3) := by decide +kernel
theorem dX3_part_52 : decode cX3_part 52 = .ok (.iconst 3, 1) := by decide +kernel
theorem dX3_part_53 : decode cX3_part 53 = .ok (.if_icmp .ne 17, 3) := by decide +kernel
theorem dX3_part_56 : decode cX3_part 56 = .ok (.aload_n 0, 1) := by decide +kernel
theorem dX3_part_57 : decode cX3_part 57 = .ok (.getfield 44, 3) := by decide +kernel
theorem dX3_part_60 : decode cX3_part 60 = .ok (.sipush 1000, 3) := by decide +kernel
theorem dX3_part_63 : decode cX3_part 63 = .ok (.if_icmp .gt 7, 3) := by decide +kernel
theorem dX3_part_66 : decode cX3_part 66 = .ok (.iconst 1, 1) := by decide +kernel
theorem dX3_part_67 : decode cX3_part 67 = .ok (.goto 4, 3) := by decide +kernel
theorem dX3_part_70 : decode cX3_part 70 = .ok (.iconst 0, 1) := by decide +kernel
theorem dX3_part_71 : decode cX3_part 71 = .ok (.istore_n 2, 1) := by decide +kernel
theorem dX3_part_72 : decode cX3_part 72 = .ok (.iload_n 2, 1) := by decide +kernel
theorem dX3_part_73 : decode cX3_part 73 = .ok (.ifCond .eq 10, 3) := by decide +kernel
theorem dX3_part_76 : decode cX3_part 76 = .ok (.aload_n 0, 1) := by decide +kernel
theorem dX3_part_77 : decode cX3_part 77 = .ok (.getfield 44, 3) := by decide +kernel
theorem dX3_part_80 : decode cX3_part 80 = .ok (.goto 21, 3) := by decide +kernel
theorem dX3_part_83 : decode cX3_part 83 = .ok (.aload_n 0, 1) := by decide +kernel
theorem dX3_part_84 : decode cX3_part 84 = .ok (.aload_n 0, 1) := by decide +kernel
theorem dX3_part_85 : decode cX3_part 85 = .ok (.getfield 28, 3) := by decide +kernel
theorem dX3_part_88 : decode cX3_part 88 = .ok (.ifCond .eq 8, 3) := by decide +kernel
theorem dX3_part_91 : decode cX3_part 91 = .ok (.ldc 121, 2) := by decide +kernel
theorem dX3_part_93 : decode cX3_part 93 = .ok (.goto 5, 3) := by decide +kernel
theorem dX3_part_96 : decode cX3_part 96 = .ok (.ldc 123, 2) := by decide +kernel
theorem dX3_part_98 : decode cX3_part 98 = .ok (.invokevirtual 64, 3) := by decide +kernel
theorem dX3_part_101 : decode cX3_part 101 = .ok (.istore_n 3, 1) := by decide +kernel
theorem dX3_part_102 : decode cX3_part 102 = .ok (.iload_n 3, 1) := by decide +kernel
theorem dX3_part_103 : decode cX3_part 103 = .ok (.iconst (-1), 1) := by decide +kernel
theorem dX3_part_104 : decode cX3_part 104 = .ok (.if_icmp .eq 12, 3) := by decide +kernel
theorem dX3_part_107 : decode cX3_part 107 = .ok (.aload_n 0, 1) := by decide +kernel
theorem dX3_part_108 : decode cX3_part 108 = .ok (.getfield 32, 3) := by decide +kernel
theorem dX3_part_111 : decode cX3_part 111 = .ok (.bipush 50, 2) := by decide +kernel
theorem dX3_part_113 : decode cX3_part 113 = .ok (.if_icmp .lt 5, 3) := by decide +kernel
theorem dX3_part_116 : decode cX3_part 116 = .ok (.iconst 0, 1) := by decide +kernel
theorem dX3_part_117 : decode cX3_part 117 = .ok (.ireturn, 1) := by decide +kernel
theorem dX3_part_118 : decode cX3_part 118 = .ok (.aload_n 0, 1) := by decide +kernel
theorem dX3_part_119 : decode cX3_part 119 = .ok (.dup, 1) := by decide +kernel
theorem dX3_part_120 : decode cX3_part 120 = .ok (.getfield 32, 3) := by decide +kernel
theorem dX3_part_123 : decode cX3_part 123 = .ok (.iconst 1, 1) := by decide +kernel
theorem dX3_part_124 : decode cX3_part 124 = .ok (.iadd, 1) := by decide +kernel
theorem dX3_part_125 : decode cX3_part 125 = .ok (.putfield 32, 3) := by decide +kernel
theorem dX3_part_128 : decode cX3_part 128 = .ok (.aload_n 0, 1) := by decide +kernel
theorem dX3_part_129 : decode cX3_part 129 = .ok (.invokevirtual 50, 3) := by decide +kernel
theorem dX3_part_132 : decode cX3_part 132 = .ok (.iload_n 2, 1) := by decide +kernel
theorem dX3_part_133 : decode cX3_part 133 = .ok (.ifCond .ne 52, 3) := by decide +kernel
theorem dX3_part_136 : decode cX3_part 136 = .ok (.aload_n 0, 1) := by decide +kernel
theorem dX3_part_137 : decode cX3_part 137 = .ok (.getfield 28, 3) := by decide +kernel
theorem dX3_part_140 : decode cX3_part 140 = .ok (.ifCond .ne 45, 3) := by decide +kernel
theorem dX3_part_143 : decode cX3_part 143 = .ok (.iload_n 3, 1) := by decide +kernel
theorem dX3_part_144 : decode cX3_part 144 = .ok (.iconst 5, 1) := by decide +kernel
theorem dX3_part_145 : decode cX3_part 145 = .ok (.if_icmp .lt 40, 3) := by decide +kernel
theorem dX3_part_148 : decode cX3_part 148 = .ok (.aload_n 0, 1) := by decide +kernel
theorem dX3_part_149 : decode cX3_part 149 = .ok (.getfield 35, 3) := by decide +kernel
theorem dX3_part_152 : decode cX3_part 152 = .ok (.iconst 3, 1) := by decide +kernel
theorem dX3_part_153 : decode cX3_part 153 = .ok (.if_icmp .ne 12, 3) := by decide +kernel
theorem dX3_part_156 : decode cX3_part 156 = .ok (.aload_n 0, 1) := by decide +kernel
theorem dX3_part_157 : decode cX3_part 157 = .ok (.getfield 44, 3) := by decide +kernel
theorem dX3_part_160 : decode cX3_part 160 = .ok (.bipush 6, 2) := by decide +kernel
theorem dX3_part_162 : decode cX3_part 162 = .ok (.if_icmp .lt 5, 3) := by decide +kernel
theorem dX3_part_165 : decode cX3_part 165 = .ok (.iconst 0, 1) := by decide +kernel
theorem dX3_part_166 : decode cX3_part 166 = .ok (.ireturn, 1) := by decide +kernel
theorem dX3_part_167 : decode cX3_part 167 = .ok (.iconst 5, 1) := by decide +kernel
theorem dX3_part_168 : decode cX3_part 168 = .ok (.iload_n 3, 1) := by decide +kernel
theorem dX3_part_169 : decode cX3_part 169 = .ok (.iconst 5, 1) := by decide +kernel
theorem dX3_part_170 : decode cX3_part 170 = .ok (.isub, 1) := by decide +kernel
theorem dX3_part_171 : decode cX3_part 171 = .ok (.bipush 6, 2) := by decide +kernel
theorem dX3_part_173 : decode cX3_part 173 = .ok (.imul, 1) := by decide +kernel
theorem dX3_part_174 : decode cX3_part 174 = .ok (.iadd, 1) := by decide +kernel
theorem dX3_part_175 : decode cX3_part 175 = .ok (.aload_n 0, 1) := by decide +kernel
theorem dX3_part_176 : decode cX3_part 176 = .ok (.getfield 44, 3) := by decide +kernel
theorem dX3_part_179 : decode cX3_part 179 = .ok (.iadd, 1) := by decide +kernel
theorem dX3_part_180 : decode cX3_part 180 = .ok (.istore_n 3, 1) := by decide +kernel
theorem dX3_part_181 : decode cX3_part 181 = .ok (.aload_n 0, 1) := by decide +kernel
theorem dX3_part_182 : decode cX3_part 182 = .ok (.invokevirtual 50, 3) := by decide +kernel
theorem dX3_part_185 : decode cX3_part 185 = .ok (.aload_n 0, 1) := by decide +kernel
theorem dX3_part_186 : decode cX3_part 186 = .ok (.getfield 20, 3) := by decide +kernel
theorem dX3_part_189 : decode cX3_part 189 = .ok (.iload_n 2, 1) := by decide +kernel
theorem dX3_part_190 : decode cX3_part 190 = .ok (.ifCond .eq 7, 3) := by decide +kernel
theorem dX3_part_193 : decode cX3_part 193 = .ok (.iconst 1, 1) := by decide +kernel
theorem dX3_part_194 : decode cX3_part 194 = .ok (.goto 4, 3) := by decide +kernel
theorem dX3_part_197 : decode cX3_part 197 = .ok (.iconst 2, 1) := by decide +kernel
theorem dX3_part_198 : decode cX3_part 198 = .ok (.invokevirtual 93, 3) := by decide +kernel
theorem dX3_part_201 : decode cX3_part 201 = .ok (.aload_n 0, 1) := by decide +kernel
theorem dX3_part_202 : decode cX3_part 202 = .ok (.getfield 20, 3) := by decide +kernel
theorem dX3_part_205 : decode cX3_part 205 = .ok (.iload_n 3, 1) := by decide +kernel
theorem dX3_part_206 : decode cX3_part 206 = .ok (.invokevirtual 93, 3) := by decide +kernel
theorem dX3_part_209 : decode cX3_part 209 = .ok (.iconst 1, 1) := by decide +kernel
theorem dX3_part_210 : decode cX3_part 210 = .ok (.ireturn, 1) := by decide +kernel
theorem dX3_step_0 : decode cX3_step 0 = .ok (.aload_n 0, 1) := by decide +kernel
theorem dX3_step_1 : decode cX3_step 1 = .ok (.getfield 41, 3) := by decide +kernel
theorem dX3_step_4 : decode cX3_step 4 = .ok (.istore_n 1, 1) := by decide +kernel
theorem dX3_step_5 : decode cX3_step 5 = .ok (.iload_n 1, 1) := by decide +kernel
theorem dX3_step_6 : decode cX3_step 6 = .ok (.aload_n 0, 1) := by decide +kernel
theorem dX3_step_7 : decode cX3_step 7 = .ok (.getfield 24, 3) := by decide +kernel
theorem dX3_step_10 : decode cX3_step 10 = .ok (.if_icmp .ge 20, 3) := by decide +kernel
theorem dX3_step_13 : decode cX3_step 13 = .ok (.aload_n 0, 1) := by decide +kernel
theorem dX3_step_14 : decode cX3_step 14 = .ok (.getfield 13, 3) := by decide +kernel
theorem dX3_step_17 : decode cX3_step 17 = .ok (.iload_n 1, 1) := by decide +kernel
theorem dX3_step_18 : decode cX3_step 18 = .ok (.baload, 1) := by decide +kernel
theorem dX3_step_19 : decode cX3_step 19 = .ok (.bipush 32, 2) := by decide +kernel
theorem dX3_step_21 : decode cX3_step 21 = .ok (.if_icmp .ne 9, 3) := by decide +kernel
theorem dX3_step_24 : decode cX3_step 24 = .ok (.iinc 1 1, 3) := by decide +kernel
theorem dX3_step_27 : decode cX3_step 27 = .ok (.goto (-22), 3) := by decide +kernel
theorem dX3_step_30 : decode cX3_step 30 = .ok (.aload_n 0, 1) := by decide +kernel
theorem dX3_step_31 : decode cX3_step 31 = .ok (.iload_n 1, 1) := by decide +kernel
theorem dX3_step_32 : decode cX3_step 32 = .ok (.putfield 38, 3) := by decide +kernel
theorem dX3_step_35 : decode cX3_step 35 = .ok (.aload_n 0, 1) := by decide +kernel
theorem dX3_step_36 : decode cX3_step 36 = .ok (.iconst 0, 1) := by decide +kernel
theorem dX3_step_37 : decode cX3_step 37 = .ok (.putfield 44, 3) := by decide +kernel
theorem dX3_step_40 : decode cX3_step 40 = .ok (.aload_n 0, 1) := by decide +kernel
theorem dX3_step_41 : decode cX3_step 41 = .ok (.iconst 0, 1) := by decide +kernel
theorem dX3_step_42 : decode cX3_step 42 = .ok (.putfield 35, 3) := by decide +kernel
theorem dX3_step_45 : decode cX3_step 45 = .ok (.iload_n 1, 1) := by decide +kernel
theorem dX3_step_46 : decode cX3_step 46 = .ok (.aload_n 0, 1) := by decide +kernel
theorem dX3_step_47 : decode cX3_step 47 = .ok (.getfield 24, 3) := by decide +kernel
theorem dX3_step_50 : decode cX3_step 50 = .ok (.if_icmp .ge 147, 3) := by decide +kernel
theorem dX3_step_53 : decode cX3_step 53 = .ok (.aload_n 0, 1) := by decide +kernel
theorem dX3_step_54 : decode cX3_step 54 = .ok (.iconst 1, 1) := by decide +kernel
theorem dX3_step_55 : decode cX3_step 55 = .ok (.putfield 35, 3) := by decide +kernel
theorem dX3_step_58 : decode cX3_step 58 = .ok (.iload_n 1, 1) := by decide +kernel
theorem dX3_step_59 : decode cX3_step 59 = .ok (.aload_n 0, 1) := by decide +kernel
theorem dX3_step_60 : decode cX3_step 60 = .ok (.getfield 24, 3) := by decide +kernel
theorem dX3_step_63 : decode cX3_step 63 = .ok (.if_icmp .ge 36, 3) := by decide +kernel
theorem dX3_step_66 : decode cX3_step 66 = .ok (.aload_n 0, 1) := by decide +kernel
theorem dX3_step_67 : decode cX3_step 67 = .ok (.getfield 13, 3) := by decide +kernel
theorem dX3_step_70 : decode cX3_step 70 = .ok (.iload_n 1, 1) := by decide +kernel
theorem dX3_step_71 : decode cX3_step 71 = .ok (.baload, 1) := by decide +kernel
theorem dX3_step_72 : decode cX3_step 72 = .ok (.bipush 97, 2) := by decide +kernel
theorem dX3_step_74 : decode cX3_step 74 = .ok (.if_icmp .lt 25, 3) := by decide +kernel
theorem dX3_step_77 : decode cX3_step 77 = .ok (.aload_n 0, 1) := by decide +kernel
theorem dX3_step_78 : decode cX3_step 78 = .ok (.getfield 13, 3) := by decide +kernel
theorem dX3_step_81 : decode cX3_step 81 = .ok (.iload_n 1, 1) := by decide +kernel
theorem dX3_step_82 : decode cX3_step 82 = .ok (.baload, 1) := by decide +kernel
theorem dX3_step_83 : decode cX3_step 83 = .ok (.bipush 122, 2) := by decide +kernel
theorem dX3_step_85 : decode cX3_step 85 = .ok (.if_icmp .gt 14, 3) := by decide +kernel
theorem dX3_step_88 : decode cX3_step 88 = .ok (.aload_n 0, 1) := by decide +kernel
theorem dX3_step_89 : decode cX3_step 89 = .ok (.iconst 2, 1) := by decide +kernel
theorem dX3_step_90 : decode cX3_step 90 = .ok (.putfield 35, 3) := by decide +kernel
theorem dX3_step_93 : decode cX3_step 93 = .ok (.iinc 1 1, 3) := by decide +kernel
theorem dX3_step_96 : decode cX3_step 96 = .ok (.goto (-38), 3) := by decide +kernel
theorem dX3_step_99 : decode cX3_step 99 = .ok (.aload_n 0, 1) := by decide +kernel
theorem dX3_step_100 : decode cX3_step 100 = .ok (.getfield 35, 3) := by decide +kernel
theorem dX3_step_103 : decode cX3_step 103 = .ok (.iconst 2, 1) := by decide +kernel
theorem dX3_step_104 : decode cX3_step 104 = .ok (.if_icmp .eq 82, 3) := by decide +kernel
theorem dX3_step_107 : decode cX3_step 107 = .ok (.iload_n 1, 1) := by decide +kernel
theorem dX3_step_108 : decode cX3_step 108 = .ok (.aload_n 0, 1) := by decide +kernel
theorem dX3_step_109 : decode cX3_step 109 = .ok (.getfield 24, 3) := by decide +kernel
theorem dX3_step_112 : decode cX3_step 112 = .ok (.if_icmp .ge 74, 3) := by decide +kernel
theorem dX3_step_115 : decode cX3_step 115 = .ok (.aload_n 0, 1) := by decide +kernel
theorem dX3_step_116 : decode cX3_step 116 = .ok (.getfield 13, 3) := by decide +kernel
theorem dX3_step_119 : decode cX3_step 119 = .ok (.iload_n 1, 1) := by decide +kernel
theorem dX3_step_120 : decode cX3_step 120 = .ok (.baload, 1) := by decide +kernel
theorem dX3_step_121 : decode cX3_step 121 = .ok (.bipush 48, 2) := by decide +kernel
theorem dX3_step_123 : decode cX3_step 123 = .ok (.if_icmp .lt 63, 3) := by decide +kernel
theorem dX3_step_126 : decode cX3_step 126 = .ok (.aload_n 0, 1) := by decide +kernel
theorem dX3_step_127 : decode cX3_step 127 = .ok (.getfield 13, 3) := by decide +kernel
theorem dX3_step_130 : decode cX3_step 130 = .ok (.iload_n 1, 1) := by decide +kernel
theorem dX3_step_131 : decode cX3_step 131 = .ok (.baload, 1) := by decide +kernel
theorem dX3_step_132 : decode cX3_step 132 = .ok (.bipush 57, 2) := by decide +kernel
theorem dX3_step_134 : decode cX3_step 134 = .ok (.if_icmp .gt 52, 3) := by decide +kernel
theorem dX3_step_137 : decode cX3_step 137 = .ok (.aload_n 0, 1) := by decide +kernel
theorem dX3_step_138 : decode cX3_step 138 = .ok (.iconst 3, 1) := by decide +kernel
theorem dX3_step_139 : decode cX3_step 139 = .ok (.putfield 35, 3) := by decide +kernel
theorem dX3_step_142 : decode cX3_step 142 = .ok (.aload_n 0, 1) := by decide +kernel
theorem dX3_step_143 : decode cX3_step 143 = .ok (.aload_n 0, 1) := by decide +kernel
theorem dX3_step_144 : decode cX3_step 144 = .ok (.getfield 44, 3) := by decide +kernel
theorem dX3_step_147 : decode cX3_step 147 = .ok (.sipush 1000, 3) := by decide +kernel
theorem dX3_step_150 : decode cX3_step 150 = .ok (.if_icmp .le 10, 3) := by decide +kernel
theorem dX3_step_153 : decode cX3_step 153 = .ok (.aload_n 0, 1) := by decide +kernel
theorem dX3_step_154 : decode cX3_step 154 = .ok (.getfield 44, 3) := by decide +kernel
theorem dX3_step_157 : decode cX3_step 157 = .ok (.goto 20, 3) := by decide +kernel
theorem dX3_step_160 : decode cX3_step 160 = .ok (.aload_n 0, 1) := by decide +kernel
theorem dX3_step_161 : decode cX3_step 161 = .ok (.getfield 44, 3) := by decide +kernel
theorem dX3_step_164 : decode cX3_step 164 = .ok (.bipush 10, 2) := by decide +kernel
theorem dX3_step_166 : decode cX3_step 166 = .ok (.imul, 1) := by decide +kernel
theorem dX3_step_167 : decode cX3_step 167 = .ok (.aload_n 0, 1) := by decide +kernel
theorem dX3_step_168 : decode cX3_step 168 = .ok (.getfield 13, 3) := by decide +kernel
theorem dX3_step_171 : decode cX3_step 171 = .ok (.iload_n 1, 1) := by decide +kernel
theorem dX3_step_172 : decode cX3_step 172 = .ok (.baload, 1) := by decide +kernel
theorem dX3_step_173 : decode cX3_step 173 = .ok (.iadd, 1) := by decide +kernel
theorem dX3_step_174 : decode cX3_step 174 = .ok (.bipush 48, 2) := by decide +kernel
theorem dX3_step_176 : decode cX3_step 176 = .ok (.isub, 1) := by decide +kernel
theorem dX3_step_177 : decode cX3_step 177 = .ok (.putfield 44, 3) := by decide +kernel
theorem dX3_step_180 : decode cX3_step 180 = .ok (.iinc 1 1, 3) := by decide +kernel
theorem dX3_step_183 : decode cX3_step 183 = .ok (.goto (-84), 3) := by decide +kernel
theorem dX3_step_186 : decode cX3_step 186 = .ok (.aload_n 0, 1) := by decide +kernel
theorem dX3_step_187 : decode cX3_step 187 = .ok (.getfield 35, 3) := by decide +kernel
theorem dX3_step_190 : decode cX3_step 190 = .ok (.iconst 1, 1) := by decide +kernel
theorem dX3_step_191 : decode cX3_step 191 = .ok (.if_icmp .ne 6, 3) := by decide +kernel
theorem dX3_step_194 : decode cX3_step 194 = .ok (.iinc 1 1, 3) := by decide +kernel
theorem dX3_step_197 : decode cX3_step 197 = .ok (.aload_n 0, 1) := by decide +kernel
theorem dX3_step_198 : decode cX3_step 198 = .ok (.iload_n 1, 1) := by decide +kernel
theorem dX3_step_199 : decode cX3_step 199 = .ok (.putfield 41, 3) := by decide +kernel
theorem dX3_step_202 : decode cX3_step 202 = .ok (.return_, 1) := by decide +kernel
theorem dX3_isSign_0 : decode cX3_isSign 0 = .ok (.aload_n 0, 1) := by decide +kernel
theorem dX3_isSign_1 : decode cX3_isSign 1 = .ok (.getfield 35, 3) := by decide +kernel
theorem dX3_isSign_4 : decode cX3_isSign 4 = .ok (.iconst 1, 1) := by decide +kernel
theorem dX3_isSign_5 : decode cX3_isSign 5 = .ok (.if_icmp .ne 20, 3) := by decide +kernel
theorem dX3_isSign_8 : decode cX3_isSign 8 = .ok (.aload_n 0, 1) := by decide +kernel
theorem dX3_isSign_9 : decode cX3_isSign 9 = .ok (.getfield 13, 3) := by decide +kernel
theorem dX3_isSign_12 : decode cX3_isSign 12 = .ok (.aload_n 0, 1) := by decide +kernel
theorem dX3_isSign_13 : decode cX3_isSign 13 = .ok (.getfield 38, 3) := by decide +kernel
theorem dX3_isSign_16 : decode cX3_isSign 16 = .ok (.baload, 1) := by decide +kernel
theorem dX3_isSign_17 : decode cX3_isSign 17 = .ok (.iload_n 1, 1) := by decide +kernel
theorem dX3_isSign_18 : decode cX3_isSign 18 = .ok (.if_icmp .ne 7, 3) := by decide +kernel
theorem dX3_isSign_21 : decode cX3_isSign 21 = .ok (.iconst 1, 1) := by decide +kernel
theorem dX3_isSign_22 : decode cX3_isSign 22 = .ok (.goto 4, 3) := by decide +kernel
theorem dX3_isSign_25 : decode cX3_isSign 25 = .ok (.iconst 0, 1) := by decide +kernel
theorem dX3_isSign_26 : decode cX3_isSign 26 = .ok (.ireturn, 1) := by decide +kernel
theorem dX3_which_0 : decode cX3_which 0 = .ok (.aload_n 0, 1) := by decide +kernel
theorem dX3_which_1 : decode cX3_which 1 = .ok (.getfield 35, 3) := by decide +kernel
theorem dX3_which_4 : decode cX3_which 4 = .ok (.iconst 2, 1) := by decide +kernel
theorem dX3_which_5 : decode cX3_which 5 = .ok (.if_icmp .eq 5, 3) := by decide +kernel
theorem dX3_which_8 : decode cX3_which 8 = .ok (.iconst (-1), 1) := by decide +kernel
theorem dX3_which_9 : decode cX3_which 9 = .ok (.ireturn, 1) := by decide +kernel
theorem dX3_which_10 : decode cX3_which 10 = .ok (.iconst 0, 1) := by decide +kernel
theorem dX3_which_11 : decode cX3_which 11 = .ok (.istore_n 2, 1) := by decide +kernel
theorem dX3_which_12 : decode cX3_which 12 = .ok (.iconst 0, 1) := by decide +kernel
theorem dX3_which_13 : decode cX3_which 13 = .ok (.istore_n 3, 1) := by decide +kernel
theorem dX3_which_14 : decode cX3_which 14 = .ok (.iconst 0, 1) := by decide +kernel
theorem dX3_which_15 : decode cX3_which 15 = .ok (.istore 4, 2) := by decide +kernel
theorem dX3_which_17 : decode cX3_which 17 = .ok (.iload 4, 2) := by decide +kernel
theorem dX3_which_19 : decode cX3_which 19 = .ok (.aload_n 1, 1) := by decide +kernel
theorem dX3_which_20 : decode cX3_which 20 = .ok (.invokevirtual 125, 3) := by decide +kernel
theorem dX3_which_23 : decode cX3_which 23 = .ok (.if_icmp .gt 110, 3) := by decide +kernel
theorem dX3_which_26 : decode cX3_which 26 = .ok (.iload 4, 2) := by decide +kernel
theorem dX3_which_28 : decode cX3_which 28 = .ok (.aload_n 1, 1) := by decide +kernel
theorem dX3_which_29 : decode cX3_which 29 = .ok (.invokevirtual 125, 3) := by decide +kernel
theorem dX3_which_32 : decode cX3_which 32 = .ok (.if_icmp .eq 14, 3) := by decide +kernel
theorem dX3_which_35 : decode cX3_which 35 = .ok (.aload_n 1, 1) := by decide +kernel
theorem dX3_which_36 : decode cX3_which 36 = .ok (.iload 4, 2) := by decide +kernel
theorem dX3_which_38 : decode cX3_which 38 = .ok (.invokevirtual 130, 3) := by decide +kernel
theorem dX3_which_41 : decode cX3_which 41 = .ok (.bipush 32, 2) := by decide +kernel
theorem dX3_which_43 : decode cX3_which 43 = .ok (.if_icmp .ne 26, 3) := by decide +kernel
theorem dX3_which_46 : decode cX3_which 46 = .ok (.iload_n 3, 1) := by decide +kernel
theorem dX3_which_47 : decode cX3_which 47 = .ok (.aload_n 0, 1) := by decide +kernel
theorem dX3_which_48 : decode cX3_which 48 = .ok (.getfield 41, 3) := by decide +kernel
theorem dX3_which_51 : decode cX3_which 51 = .ok (.aload_n 0, 1) := by decide +kernel
theorem dX3_which_52 : decode cX3_which 52 = .ok (.getfield 38, 3) := by decide +kernel
theorem dX3_which_55 : decode cX3_which 55 = .ok (.isub, 1) := by decide +kernel
theorem dX3_which_56 : decode cX3_which 56 = .ok (.if_icmp .ne 5, 3) := by decide +kernel
theorem dX3_which_59 : decode cX3_which 59 = .ok (.iload_n 2, 1) := by decide +kernel
theorem dX3_which_60 : decode cX3_which 60 = .ok (.ireturn, 1) := by decide +kernel
theorem dX3_which_61 : decode cX3_which 61 = .ok (.iinc 2 1, 3) := by decide +kernel
theorem dX3_which_64 : decode cX3_which 64 = .ok (.iconst 0, 1) := by decide +kernel
theorem dX3_which_65 : decode cX3_which 65 = .ok (.istore_n 3, 1) := by decide +kernel
theorem dX3_which_66 : decode cX3_which 66 = .ok (.goto 61, 3) := by decide +kernel
theorem dX3_which_69 : decode cX3_which 69 = .ok (.iload_n 3, 1) := by decide +kernel
theorem dX3_which_70 : decode cX3_which 70 = .ok (.iconst (-1), 1) := by decide +kernel
theorem dX3_which_71 : decode cX3_which 71 = .ok (.if_icmp .eq 56, 3) := by decide +kernel
theorem dX3_which_74 : decode cX3_which 74 = .ok (.aload_n 0, 1) := by decide +kernel
theorem dX3_which_75 : decode cX3_which 75 = .ok (.getfield 38, 3) := by decide +kernel
theorem dX3_which_78 : decode cX3_which 78 = .ok (.iload_n 3, 1) := by decide +kernel
theorem dX3_which_79 : decode cX3_which 79 = .ok (.iadd, 1) := by decide +kernel
theorem dX3_which_80 : decode cX3_which 80 = .ok (.aload_n 0, 1) := by decide +kernel
theorem dX3_which_81 : decode cX3_which 81 = .ok (.getfield 41, 3) := by decide +kernel
theorem dX3_which_84 : decode cX3_which 84 = .ok (.if_icmp .ge 27, 3) := by decide +kernel
theorem dX3_which_87 : decode cX3_which 87 = .ok (.aload_n 0, 1) := by decide +kernel
theorem dX3_which_88 : decode cX3_which 88 = .ok (.getfield 13, 3) := by decide +kernel
theorem dX3_which_91 : decode cX3_which 91 = .ok (.aload_n 0, 1) := by decide +kernel
theorem dX3_which_92 : decode cX3_which 92 = .ok (.getfield 38, 3) := by decide +kernel
theorem dX3_which_95 : decode cX3_which 95 = .ok (.iload_n 3, 1) := by decide +kernel
theorem dX3_which_96 : decode cX3_which 96 = .ok (.iadd, 1) := by decide +kernel
theorem dX3_which_97 : decode cX3_which 97 = .ok (.baload, 1) := by decide +kernel
theorem dX3_which_98 : decode cX3_which 98 = .ok (.aload_n 1, 1) := by decide +kernel
theorem dX3_which_99 : decode cX3_which 99 = .ok (.iload 4, 2) := by decide +kernel
theorem dX3_which_101 : decode cX3_which 101 = .ok (.invokevirtual 130, 3) := by decide +kernel
theorem dX3_which_104 : decode cX3_which 104 = .ok (.if_icmp .ne 7, 3) := by decide +kernel
theorem dX3_which_107 : decode cX3_which 107 = .ok (.iconst 1, 1) := by decide +kernel
theorem dX3_which_108 : decode cX3_which 108 = .ok (.goto 4, 3) := by decide +kernel
theorem dX3_which_111 : decode cX3_which 111 = .ok (.iconst 0, 1) := by decide +kernel
theorem dX3_which_112 : decode cX3_which 112 = .ok (.istore 5, 2) := by decide +kernel
theorem dX3_which_114 : decode cX3_which 114 = .ok (.iload 5, 2) := by decide +kernel
theorem dX3_which_116 : decode cX3_which 116 = .ok (.ifCond .eq 9, 3) := by decide +kernel
theorem dX3_which_119 : decode cX3_which 119 = .ok (.iload_n 3, 1) := by decide +kernel
theorem dX3_which_120 : decode cX3_which 120 = .ok (.iconst 1, 1) := by decide +kernel
theorem dX3_which_121 : decode cX3_which 121 = .ok (.iadd, 1) := by decide +kernel
theorem dX3_which_122 : decode cX3_which 122 = .ok (.goto 4, 3) := by decide +kernel
theorem dX3_which_125 : decode cX3_which 125 = .ok (.iconst (-1), 1) := by decide +kernel
theorem dX3_which_126 : decode cX3_which 126 = .ok (.istore_n 3, 1) := by decide +kernel
theorem dX3_which_127 : decode cX3_which 127 = .ok (.iinc 4 1, 3) := by decide +kernel
theorem dX3_which_130 : decode cX3_which 130 = .ok (.goto (-113), 3) := by decide +kernel
theorem dX3_which_133 : decode cX3_which 133 = .ok (.iconst (-1), 1) := by decide +kernel
theorem dX3_which_134 : decode cX3_which 134 = .ok (.ireturn, 1) := by decide +kernel
