theorem dX8_lies_0 : decode cX8_lies 0 = .ok (.iload_n 0, 1) := by decide +kernel
theorem dX8_lies_1 : decode cX8_lies 1 = .ok (.iload_n 1, 1) := by decide +kernel
theorem dX8_lies_2 : decode cX8_lies 2 = .ok (.if_icmp .lt 12, 3) := by decide +kernel
theorem dX8_lies_5 : decode cX8_lies 5 = .ok (.iload_n 0, 1) := by decide +kernel
theorem dX8_lies_6 : decode cX8_lies 6 = .ok (.iload_n 2, 1) := by decide +kernel
theorem dX8_lies_7 : decode cX8_lies 7 = .ok (.if_icmp .gt 7, 3) := by decide +kernel
theorem dX8_lies_10 : decode cX8_lies 10 = .ok (.iconst 1, 1) := by decide +kernel
theorem dX8_lies_11 : decode cX8_lies 11 = .ok (.goto 4, 3) := by decide +kernel
theorem dX8_lies_14 : decode cX8_lies 14 = .ok (.iconst 0, 1) := by decide +kernel
theorem dX8_lies_15 : decode cX8_lies 15 = .ok (.ireturn, 1) := by decide +kernel
theorem dX8_greater_0 : decode cX8_greater 0 = .ok (.iload_n 0, 1) := by decide +kernel
theorem dX8_greater_1 : decode cX8_greater 1 = .ok (.iload_n 1, 1) := by decide +kernel
theorem dX8_greater_2 : decode cX8_greater 2 = .ok (.if_icmp .le 7, 3) := by decide +kernel
theorem dX8_greater_5 : decode cX8_greater 5 = .ok (.iload_n 0, 1) := by decide +kernel
theorem dX8_greater_6 : decode cX8_greater 6 = .ok (.goto 4, 3) := by decide +kernel
theorem dX8_greater_9 : decode cX8_greater 9 = .ok (.iload_n 1, 1) := by decide +kernel
theorem dX8_greater_10 : decode cX8_greater 10 = .ok (.ireturn, 1) := by decide +kernel
theorem dX8_refuses_0 : decode cX8_refuses 0 = .ok (.aload_n 0, 1) := by decide +kernel
theorem dX8_refuses_1 : decode cX8_refuses 1 = .ok (.iload_n 1, 1) := by decide +kernel
theorem dX8_refuses_2 : decode cX8_refuses 2 = .ok (.putfield 3, 3) := by decide +kernel
theorem dX8_refuses_5 : decode cX8_refuses 5 = .ok (.aload_n 0, 1) := by decide +kernel
theorem dX8_refuses_6 : decode cX8_refuses 6 = .ok (.getfield 7, 3) := by decide +kernel
theorem dX8_refuses_9 : decode cX8_refuses 9 = .ok (.iload_n 1, 1) := by decide +kernel
theorem dX8_refuses_10 : decode cX8_refuses 10 = .ok (.ineg, 1) := by decide +kernel
theorem dX8_refuses_11 : decode cX8_refuses 11 = .ok (.dup2, 1) := by decide +kernel
theorem dX8_refuses_12 : decode cX8_refuses 12 = .ok (.iaload, 1) := by decide +kernel
theorem dX8_refuses_13 : decode cX8_refuses 13 = .ok (.iconst 1, 1) := by decide +kernel
theorem dX8_refuses_14 : decode cX8_refuses 14 = .ok (.iadd, 1) := by decide +kernel
theorem dX8_refuses_15 : decode cX8_refuses 15 = .ok (.iastore, 1) := by decide +kernel
theorem dX8_refuses_16 : decode cX8_refuses 16 = .ok (.iload_n 1, 1) := by decide +kernel
theorem dX8_refuses_17 : decode cX8_refuses 17 = .ok (.ireturn, 1) := by decide +kernel
theorem dX8_good_0 : decode cX8_good 0 = .ok (.aload_n 0, 1) := by decide +kernel
theorem dX8_good_1 : decode cX8_good 1 = .ok (.iconst 0, 1) := by decide +kernel
theorem dX8_good_2 : decode cX8_good 2 = .ok (.putfield 3, 3) := by decide +kernel
theorem dX8_good_5 : decode cX8_good 5 = .ok (.iload_n 1, 1) := by decide +kernel
theorem dX8_good_6 : decode cX8_good 6 = .ok (.ireturn, 1) := by decide +kernel
theorem dX8_settled_0 : decode cX8_settled 0 = .ok (.aload_n 0, 1) := by decide +kernel
theorem dX8_settled_1 : decode cX8_settled 1 = .ok (.iconst 0, 1) := by decide +kernel
theorem dX8_settled_2 : decode cX8_settled 2 = .ok (.putfield 11, 3) := by decide +kernel
theorem dX8_settled_5 : decode cX8_settled 5 = .ok (.aload_n 0, 1) := by decide +kernel
theorem dX8_settled_6 : decode cX8_settled 6 = .ok (.iload_n 1, 1) := by decide +kernel
theorem dX8_settled_7 : decode cX8_settled 7 = .ok (.invokevirtual 14, 3) := by decide +kernel
theorem dX8_settled_10 : decode cX8_settled 10 = .ok (.ireturn, 1) := by decide +kernel
theorem dX8_isIn_0 : decode cX8_isIn 0 = .ok (.iload_n 0, 1) := by decide +kernel
theorem dX8_isIn_1 : decode cX8_isIn 1 = .ok (.iload_n 1, 1) := by decide +kernel
theorem dX8_isIn_2 : decode cX8_isIn 2 = .ok (.ishr, 1) := by decide +kernel
theorem dX8_isIn_3 : decode cX8_isIn 3 = .ok (.iconst 1, 1) := by decide +kernel
theorem dX8_isIn_4 : decode cX8_isIn 4 = .ok (.iand, 1) := by decide +kernel
theorem dX8_isIn_5 : decode cX8_isIn 5 = .ok (.iconst 1, 1) := by decide +kernel
theorem dX8_isIn_6 : decode cX8_isIn 6 = .ok (.if_icmp .ne 7, 3) := by decide +kernel
theorem dX8_isIn_9 : decode cX8_isIn 9 = .ok (.iconst 1, 1) := by decide +kernel
theorem dX8_isIn_10 : decode cX8_isIn 10 = .ok (.goto 4, 3) := by decide +kernel
theorem dX8_isIn_13 : decode cX8_isIn 13 = .ok (.iconst 0, 1) := by decide +kernel
theorem dX8_isIn_14 : decode cX8_isIn 14 = .ok (.ireturn, 1) := by decide +kernel
theorem dX8_ones_0 : decode cX8_ones 0 = .ok (.iconst 0, 1) := by decide +kernel
theorem dX8_ones_1 : decode cX8_ones 1 = .ok (.istore_n 1, 1) := by decide +kernel
theorem dX8_ones_2 : decode cX8_ones 2 = .ok (.iconst 0, 1) := by decide +kernel
theorem dX8_ones_3 : decode cX8_ones 3 = .ok (.istore_n 2, 1) := by decide +kernel
theorem dX8_ones_4 : decode cX8_ones 4 = .ok (.iload_n 2, 1) := by decide +kernel
theorem dX8_ones_5 : decode cX8_ones 5 = .ok (.bipush 6, 2) := by decide +kernel
theorem dX8_ones_7 : decode cX8_ones 7 = .ok (.if_icmp .ge 17, 3) := by decide +kernel
theorem dX8_ones_10 : decode cX8_ones 10 = .ok (.iload_n 1, 1) := by decide +kernel
theorem dX8_ones_11 : decode cX8_ones 11 = .ok (.iload_n 0, 1) := by decide +kernel
theorem dX8_ones_12 : decode cX8_ones 12 = .ok (.iload_n 2, 1) := by decide +kernel
theorem dX8_ones_13 : decode cX8_ones 13 = .ok (.ishr, 1) := by decide +kernel
theorem dX8_ones_14 : decode cX8_ones 14 = .ok (.iconst 1, 1) := by decide +kernel
theorem dX8_ones_15 : decode cX8_ones 15 = .ok (.iand, 1) := by decide +kernel
theorem dX8_ones_16 : decode cX8_ones 16 = .ok (.iadd, 1) := by decide +kernel
theorem dX8_ones_17 : decode cX8_ones 17 = .ok (.istore_n 1, 1) := by decide +kernel
theorem dX8_ones_18 : decode cX8_ones 18 = .ok (.iinc 2 1, 3) := by decide +kernel
theorem dX8_ones_21 : decode cX8_ones 21 = .ok (.goto (-17), 3) := by decide +kernel
theorem dX8_ones_24 : decode cX8_ones 24 = .ok (.iload_n 1, 1) := by decide +kernel
theorem dX8_ones_25 : decode cX8_ones 25 = .ok (.ireturn, 1) := by decide +kernel
theorem dX8_firstOf_0 : decode cX8_firstOf 0 = .ok (.iconst 0, 1) := by decide +kernel
theorem dX8_firstOf_1 : decode cX8_firstOf 1 = .ok (.istore_n 1, 1) := by decide +kernel
theorem dX8_firstOf_2 : decode cX8_firstOf 2 = .ok (.iload_n 0, 1) := by decide +kernel
theorem dX8_firstOf_3 : decode cX8_firstOf 3 = .ok (.iload_n 1, 1) := by decide +kernel
theorem dX8_firstOf_4 : decode cX8_firstOf 4 = .ok (.invokestatic 18, 3) := by decide +kernel
theorem dX8_firstOf_7 : decode cX8_firstOf 7 = .ok (.ifCond .ne 9, 3) := by decide +kernel
theorem dX8_firstOf_10 : decode cX8_firstOf 10 = .ok (.iinc 1 1, 3) := by decide +kernel
theorem dX8_firstOf_13 : decode cX8_firstOf 13 = .ok (.goto (-11), 3) := by decide +kernel
theorem dX8_firstOf_16 : decode cX8_firstOf 16 = .ok (.iload_n 1, 1) := by decide +kernel
theorem dX8_firstOf_17 : decode cX8_firstOf 17 = .ok (.ireturn, 1) := by decide +kernel
theorem dX8_init_0 : decode cX8_init 0 = .ok (.aload_n 0, 1) := by decide +kernel
theorem dX8_init_1 : decode cX8_init 1 = .ok (.invokespecial 22, 3) := by decide +kernel
theorem dX8_init_4 : decode cX8_init 4 = .ok (.aload_n 0, 1) := by decide +kernel
theorem dX8_init_5 : decode cX8_init 5 = .ok (.bipush 7, 2) := by decide +kernel
theorem dX8_init_7 : decode cX8_init 7 = .ok (.newarray .int, 2) := by decide +kernel
theorem dX8_init_9 : decode cX8_init 9 = .ok (.putfield 7, 3) := by decide +kernel
theorem dX8_init_12 : decode cX8_init 12 = .ok (.aload_n 0, 1) := by decide +kernel
theorem dX8_init_13 : decode cX8_init 13 = .ok (.sipush 5627, 3) := by decide +kernel
theorem dX8_init_16 : decode cX8_init 16 = .ok (.newarray .int, 2) := by decide +kernel
theorem dX8_init_18 : decode cX8_init 18 = .ok (.putfield 28, 3) := by decide +kernel
theorem dX8_init_21 : decode cX8_init 21 = .ok (.aload_n 0, 1) := by decide +kernel
theorem dX8_init_22 : decode cX8_init 22 = .ok (.sipush 11254, 3) := by decide +kernel
theorem dX8_init_25 : decode cX8_init 25 = .ok (.newarray .int, 2) := by decide +kernel
theorem dX8_init_27 : decode cX8_init 27 = .ok (.putfield 31, 3) := by decide +kernel
theorem dX8_init_30 : decode cX8_init 30 = .ok (.aload_n 0, 1) := by decide +kernel
theorem dX8_init_31 : decode cX8_init 31 = .ok (.iconst 2, 1) := by decide +kernel
theorem dX8_init_32 : decode cX8_init 32 = .ok (.newarray .boolean, 2) := by decide +kernel
theorem dX8_init_34 : decode cX8_init 34 = .ok (.putfield 34, 3) := by decide +kernel
theorem dX8_init_37 : decode cX8_init 37 = .ok (.aload_n 0, 1) := by decide +kernel
theorem dX8_init_38 : decode cX8_init 38 = .ok (.bipush 6, 2) := by decide +kernel
theorem dX8_init_40 : decode cX8_init 40 = .ok (.newarray .int, 2) := by decide +kernel
theorem dX8_init_42 : decode cX8_init 42 = .ok (.putfield 38, 3) := by decide +kernel
theorem dX8_init_45 : decode cX8_init 45 = .ok (.aload_n 0, 1) := by decide +kernel
theorem dX8_init_46 : decode cX8_init 46 = .ok (.bipush 121, 2) := by decide +kernel
theorem dX8_init_48 : decode cX8_init 48 = .ok (.newarray .byte, 2) := by decide +kernel
theorem dX8_init_50 : decode cX8_init 50 = .ok (.dup, 1) := by decide +kernel
theorem dX8_init_51 : decode cX8_init 51 = .ok (.iconst 0, 1) := by decide +kernel
theorem dX8_init_52 : decode cX8_init 52 = .ok (.bipush 98, 2) := by decide +kernel
theorem dX8_init_54 : decode cX8_init 54 = .ok (.bastore, 1) := by decide +kernel
theorem dX8_init_55 : decode cX8_init 55 = .ok (.dup, 1) := by decide +kernel
theorem dX8_init_56 : decode cX8_init 56 = .ok (.iconst 1, 1) := by decide +kernel
theorem dX8_init_57 : decode cX8_init 57 = .ok (.bipush 101, 2) := by decide +kernel
theorem dX8_init_59 : decode cX8_init 59 = .ok (.bastore, 1) := by decide +kernel
theorem dX8_init_60 : decode cX8_init 60 = .ok (.dup, 1) := by decide +kernel
theorem dX8_init_61 : decode cX8_init 61 = .ok (.iconst 2, 1) := by decide +kernel
theorem dX8_init_62 : decode cX8_init 62 = .ok (.bipush 97, 2) := by decide +kernel
theorem dX8_init_64 : decode cX8_init 64 = .ok (.bastore, 1) := by decide +kernel
theorem dX8_init_65 : decode cX8_init 65 = .ok (.dup, 1) := by decide +kernel
theorem dX8_init_66 : decode cX8_init 66 = .ok (.iconst 3, 1) := by decide +kernel
theorem dX8_init_67 : decode cX8_init 67 = .ok (.bipush 116, 2) := by decide +kernel
theorem dX8_init_69 : decode cX8_init 69 = .ok (.bastore, 1) := by decide +kernel
theorem dX8_init_70 : decode cX8_init 70 = .ok (.dup, 1) := by decide +kernel
theorem dX8_init_71 : decode cX8_init 71 = .ok (.iconst 4, 1) := by decide +kernel
theorem dX8_init_72 : decode cX8_init 72 = .ok (.bipush 115, 2) := by decide +kernel
theorem dX8_init_74 : decode cX8_init 74 = .ok (.bastore, 1) := by decide +kernel
theorem dX8_init_75 : decode cX8_init 75 = .ok (.dup, 1) := by decide +kernel
theorem dX8_init_76 : decode cX8_init 76 = .ok (.iconst 5, 1) := by decide +kernel
theorem dX8_init_77 : decode cX8_init 77 = .ok (.bipush 32, 2) := by decide +kernel
theorem dX8_init_79 : decode cX8_init 79 = .ok (.bastore, 1) := by decide +kernel
theorem dX8_init_80 : decode cX8_init 80 = .ok (.dup, 1) := by decide +kernel
theorem dX8_init_81 : decode cX8_init 81 = .ok (.bipush 6, 2) := by decide +kernel
theorem dX8_init_83 : decode cX8_init 83 = .ok (.bipush 115, 2) := by decide +kernel
theorem dX8_init_85 : decode cX8_init 85 = .ok (.bastore, 1) := by decide +kernel
theorem dX8_init_86 : decode cX8_init 86 = .ok (.dup, 1) := by decide +kernel
theorem dX8_init_87 : decode cX8_init 87 = .ok (.bipush 7, 2) := by decide +kernel
theorem dX8_init_89 : decode cX8_init 89 = .ok (.bipush 107, 2) := by decide +kernel
theorem dX8_init_91 : decode cX8_init 91 = .ok (.bastore, 1) := by decide +kernel
theorem dX8_init_92 : decode cX8_init 92 = .ok (.dup, 1) := by decide +kernel
theorem dX8_init_93 : decode cX8_init 93 = .ok (.bipush 8, 2) := by decide +kernel
theorem dX8_init_95 : decode cX8_init 95 = .ok (.bipush 105, 2) := by decide +kernel
theorem dX8_init_97 : decode cX8_init 97 = .ok (.bastore, 1) := by decide +kernel
theorem dX8_init_98 : decode cX8_init 98 = .ok (.dup, 1) := by decide +kernel
theorem dX8_init_99 : decode cX8_init 99 = .ok (.bipush 9, 2) := by decide +kernel
theorem dX8_init_101 : decode cX8_init 101 = .ok (.bipush 112, 2) := by decide +kernel
theorem dX8_init_103 : decode cX8_init 103 = .ok (.bastore, 1) := by decide +kernel
theorem dX8_init_104 : decode cX8_init 104 = .ok (.dup, 1) := by decide +kernel
theorem dX8_init_105 : decode cX8_init 105 = .ok (.bipush 10, 2) := by decide +kernel
theorem dX8_init_107 : decode cX8_init 107 = .ok (.bipush 115, 2) := by decide +kernel
theorem dX8_init_109 : decode cX8_init 109 = .ok (.bastore, 1) := by decide +kernel
theorem dX8_init_110 : decode cX8_init 110 = .ok (.dup, 1) := by decide +kernel
theorem dX8_init_111 : decode cX8_init 111 = .ok (.bipush 11, 2) := by decide +kernel
theorem dX8_init_113 : decode cX8_init 113 = .ok (.bipush 32, 2) := by decide +kernel
theorem dX8_init_115 : decode cX8_init 115 = .ok (.bastore, 1) := by decide +kernel
theorem dX8_init_116 : decode cX8_init 116 = .ok (.dup, 1) := by decide +kernel
theorem dX8_init_117 : decode cX8_init 117 = .ok (.bipush 12, 2) := by decide +kernel
theorem dX8_init_119 : decode cX8_init 119 = .ok (.bipush 116, 2) := by decide +kernel
theorem dX8_init_121 : decode cX8_init 121 = .ok (.bastore, 1) := by decide +kernel
theorem dX8_init_122 : decode cX8_init 122 = .ok (.dup, 1) := by decide +kernel
theorem dX8_init_123 : decode cX8_init 123 = .ok (.bipush 13, 2) := by decide +kernel
theorem dX8_init_125 : decode cX8_init 125 = .ok (.bipush 117, 2) := by decide +kernel
theorem dX8_init_127 : decode cX8_init 127 = .ok (.bastore, 1) := by decide +kernel
theorem dX8_init_128 : decode cX8_init 128 = .ok (.dup, 1) := by decide +kernel
theorem dX8_init_129 : decode cX8_init 129 = .ok (.bipush 14, 2) := by decide +kernel
theorem dX8_init_131 : decode cX8_init 131 = .ok (.bipush 114, 2) := by decide +kernel
theorem dX8_init_133 : decode cX8_init 133 = .ok (.bastore, 1) := by decide +kernel
theorem dX8_init_134 : decode cX8_init 134 = .ok (.dup, 1) := by decide +kernel
theorem dX8_init_135 : decode cX8_init 135 = .ok (.bipush 15, 2) := by decide +kernel
theorem dX8_init_137 : decode cX8_init 137 = .ok (.bipush 110, 2) := by decide +kernel
theorem dX8_init_139 : decode cX8_init 139 = .ok (.bastore, 1) := by decide +kernel
theorem dX8_init_140 : decode cX8_init 140 = .ok (.dup, 1) := by decide +kernel
theorem dX8_init_141 : decode cX8_init 141 = .ok (.bipush 16, 2) := by decide +kernel
theorem dX8_init_143 : decode cX8_init 143 = .ok (.bipush 115, 2) := by decide +kernel
theorem dX8_init_145 : decode cX8_init 145 = .ok (.bastore, 1) := by decide +kernel
theorem dX8_init_146 : decode cX8_init 146 = .ok (.dup, 1) := by decide +kernel
theorem dX8_init_147 : decode cX8_init 147 = .ok (.bipush 17, 2) := by decide +kernel
theorem dX8_init_149 : decode cX8_init 149 = .ok (.bipush 32, 2) := by decide +kernel
theorem dX8_init_151 : decode cX8_init 151 = .ok (.bastore, 1) := by decide +kernel
theorem dX8_init_152 : decode cX8_init 152 = .ok (.dup, 1) := by decide +kernel
theorem dX8_init_153 : decode cX8_init 153 = .ok (.bipush 18, 2) := by decide +kernel
theorem dX8_init_155 : decode cX8_init 155 = .ok (.bipush 107, 2) := by decide +kernel
theorem dX8_init_157 : decode cX8_init 157 = .ok (.bastore, 1) := by decide +kernel
theorem dX8_init_158 : decode cX8_init 158 = .ok (.dup, 1) := by decide +kernel
theorem dX8_init_159 : decode cX8_init 159 = .ok (.bipush 19, 2) := by decide +kernel
theorem dX8_init_161 : decode cX8_init 161 = .ok (.bipush 101, 2) := by decide +kernel
theorem dX8_init_163 : decode cX8_init 163 = .ok (.bastore, 1) := by decide +kernel
theorem dX8_init_164 : decode cX8_init 164 = .ok (.dup, 1) := by decide +kernel
theorem dX8_init_165 : decode cX8_init 165 = .ok (.bipush 20, 2) := by decide +kernel
theorem dX8_init_167 : decode cX8_init 167 = .ok (.bipush 101, 2) := by decide +kernel
theorem dX8_init_169 : decode cX8_init 169 = .ok (.bastore, 1) := by decide +kernel
theorem dX8_init_170 : decode cX8_init 170 = .ok (.dup, 1) := by decide +kernel
theorem dX8_init_171 : decode cX8_init 171 = .ok (.bipush 21, 2) := by decide +kernel
theorem dX8_init_173 : decode cX8_init 173 = .ok (.bipush 112, 2) := by decide +kernel
theorem dX8_init_175 : decode cX8_init 175 = .ok (.bastore, 1) := by decide +kernel
theorem dX8_init_176 : decode cX8_init 176 = .ok (.dup, 1) := by decide +kernel
theorem dX8_init_177 : decode cX8_init 177 = .ok (.bipush 22, 2) := by decide +kernel
theorem dX8_init_179 : decode cX8_init 179 = .ok (.bipush 115, 2) := by decide +kernel
theorem dX8_init_181 : decode cX8_init 181 = .ok (.bastore, 1) := by decide +kernel
theorem dX8_init_182 : decode cX8_init 182 = .ok (.dup, 1) := by decide +kernel
theorem dX8_init_183 : decode cX8_init 183 = .ok (.bipush 23, 2) := by decide +kernel
theorem dX8_init_185 : decode cX8_init 185 = .ok (.bipush 32, 2) := by decide +kernel
theorem dX8_init_187 : decode cX8_init 187 = .ok (.bastore, 1) := by decide +kernel
theorem dX8_init_188 : decode cX8_init 188 = .ok (.dup, 1) := by decide +kernel
theorem dX8_init_189 : decode cX8_init 189 = .ok (.bipush 24, 2) := by decide +kernel
theorem dX8_init_191 : decode cX8_init 191 = .ok (.bipush 105, 2) := by decide +kernel
theorem dX8_init_193 : decode cX8_init 193 = .ok (.bastore, 1) := by decide +kernel
theorem dX8_init_194 : decode cX8_init 194 = .ok (.dup, 1) := by decide +kernel
theorem dX8_init_195 : decode cX8_init 195 = .ok (.bipush 25, 2) := by decide +kernel
theorem dX8_init_197 : decode cX8_init 197 = .ok (.bipush 102, 2) := by decide +kernel
theorem dX8_init_199 : decode cX8_init 199 = .ok (.bastore, 1) := by decide +kernel
theorem dX8_init_200 : decode cX8_init 200 = .ok (.dup, 1) := by decide +kernel
theorem dX8_init_201 : decode cX8_init 201 = .ok (.bipush 26, 2) := by decide +kernel
theorem dX8_init_203 : decode cX8_init 203 = .ok (.bipush 32, 2) := by decide +kernel
theorem dX8_init_205 : decode cX8_init 205 = .ok (.bastore, 1) := by decide +kernel
theorem dX8_init_206 : decode cX8_init 206 = .ok (.dup, 1) := by decide +kernel
theorem dX8_init_207 : decode cX8_init 207 = .ok (.bipush 27, 2) := by decide +kernel
theorem dX8_init_209 : decode cX8_init 209 = .ok (.bipush 111, 2) := by decide +kernel
theorem dX8_init_211 : decode cX8_init 211 = .ok (.bastore, 1) := by decide +kernel
theorem dX8_init_212 : decode cX8_init 212 = .ok (.dup, 1) := by decide +kernel
theorem dX8_init_213 : decode cX8_init 213 = .ok (.bipush 28, 2) := by decide +kernel
theorem dX8_init_215 : decode cX8_init 215 = .ok (.bipush 114, 2) := by decide +kernel
theorem dX8_init_217 : decode cX8_init 217 = .ok (.bastore, 1) := by decide +kernel
theorem dX8_init_218 : decode cX8_init 218 = .ok (.dup, 1) := by decide +kernel
theorem dX8_init_219 : decode cX8_init 219 = .ok (.bipush 29, 2) := by decide +kernel
theorem dX8_init_221 : decode cX8_init 221 = .ok (.bipush 32, 2) := by decide +kernel
theorem dX8_init_223 : decode cX8_init 223 = .ok (.bastore, 1) := by decide +kernel
theorem dX8_init_224 : decode cX8_init 224 = .ok (.dup, 1) := by decide +kernel
theorem dX8_init_225 : decode cX8_init 225 = .ok (.bipush 30, 2) := by decide +kernel
theorem dX8_init_227 : decode cX8_init 227 = .ok (.bipush 97, 2) := by decide +kernel
theorem dX8_init_229 : decode cX8_init 229 = .ok (.bastore, 1) := by decide +kernel
theorem dX8_init_230 : decode cX8_init 230 = .ok (.dup, 1) := by decide +kernel
theorem dX8_init_231 : decode cX8_init 231 = .ok (.bipush 31, 2) := by decide +kernel
theorem dX8_init_233 : decode cX8_init 233 = .ok (.bipush 110, 2) := by decide +kernel
theorem dX8_init_235 : decode cX8_init 235 = .ok (.bastore, 1) := by decide +kernel
theorem dX8_init_236 : decode cX8_init 236 = .ok (.dup, 1) := by decide +kernel
theorem dX8_init_237 : decode cX8_init 237 = .ok (.bipush 32, 2) := by decide +kernel
theorem dX8_init_239 : decode cX8_init 239 = .ok (.bipush 100, 2) := by decide +kernel
theorem dX8_init_241 : decode cX8_init 241 = .ok (.bastore, 1) := by decide +kernel
theorem dX8_init_242 : decode cX8_init 242 = .ok (.dup, 1) := by decide +kernel
theorem dX8_init_243 : decode cX8_init 243 = .ok (.bipush 33, 2) := by decide +kernel
theorem dX8_init_245 : decode cX8_init 245 = .ok (.bipush 32, 2) := by decide +kernel
theorem dX8_init_247 : decode cX8_init 247 = .ok (.bastore, 1) := by decide +kernel
theorem dX8_init_248 : decode cX8_init 248 = .ok (.dup, 1) := by decide +kernel
theorem dX8_init_249 : decode cX8_init 249 = .ok (.bipush 34, 2) := by decide +kernel
theorem dX8_init_251 : decode cX8_init 251 = .ok (.bipush 110, 2) := by decide +kernel
theorem dX8_init_253 : decode cX8_init 253 = .ok (.bastore, 1) := by decide +kernel
theorem dX8_init_254 : decode cX8_init 254 = .ok (.dup, 1) := by decide +kernel
theorem dX8_init_255 : decode cX8_init 255 = .ok (.bipush 35, 2) := by decide +kernel
theorem dX8_init_257 : decode cX8_init 257 = .ok (.bipush 111, 2) := by decide +kernel
theorem dX8_init_259 : decode cX8_init 259 = .ok (.bastore, 1) := by decide +kernel
theorem dX8_init_260 : decode cX8_init 260 = .ok (.dup, 1) := by decide +kernel
theorem dX8_init_261 : decode cX8_init 261 = .ok (.bipush 36, 2) := by decide +kernel
theorem dX8_init_263 : decode cX8_init 263 = .ok (.bipush 116, 2) := by decide +kernel
theorem dX8_init_265 : decode cX8_init 265 = .ok (.bastore, 1) := by decide +kernel
theorem dX8_init_266 : decode cX8_init 266 = .ok (.dup, 1) := by decide +kernel
theorem dX8_init_267 : decode cX8_init 267 = .ok (.bipush 37, 2) := by decide +kernel
theorem dX8_init_269 : decode cX8_init 269 = .ok (.bipush 32, 2) := by decide +kernel
theorem dX8_init_271 : decode cX8_init 271 = .ok (.bastore, 1) := by decide +kernel
theorem dX8_init_272 : decode cX8_init 272 = .ok (.dup, 1) := by decide +kernel
theorem dX8_init_273 : decode cX8_init 273 = .ok (.bipush 38, 2) := by decide +kernel
theorem dX8_init_275 : decode cX8_init 275 = .ok (.bipush 99, 2) := by decide +kernel
theorem dX8_init_277 : decode cX8_init 277 = .ok (.bastore, 1) := by decide +kernel
theorem dX8_init_278 : decode cX8_init 278 = .ok (.dup, 1) := by decide +kernel
theorem dX8_init_279 : decode cX8_init 279 = .ok (.bipush 39, 2) := by decide +kernel
theorem dX8_init_281 : decode cX8_init 281 = .ok (.bipush 104, 2) := by decide +kernel
theorem dX8_init_283 : decode cX8_init 283 = .ok (.bastore, 1) := by decide +kernel
theorem dX8_init_284 : decode cX8_init 284 = .ok (.dup, 1) := by decide +kernel
theorem dX8_init_285 : decode cX8_init 285 = .ok (.bipush 40, 2) := by decide +kernel
theorem dX8_init_287 : decode cX8_init 287 = .ok (.bipush 105, 2) := by decide +kernel
theorem dX8_init_289 : decode cX8_init 289 = .ok (.bastore, 1) := by decide +kernel
theorem dX8_init_290 : decode cX8_init 290 = .ok (.dup, 1) := by decide +kernel
theorem dX8_init_291 : decode cX8_init 291 = .ok (.bipush 41, 2) := by decide +kernel
theorem dX8_init_293 : decode cX8_init 293 = .ok (.bipush 108, 2) := by decide +kernel
theorem dX8_init_295 : decode cX8_init 295 = .ok (.bastore, 1) := by decide +kernel
theorem dX8_init_296 : decode cX8_init 296 = .ok (.dup, 1) := by decide +kernel
theorem dX8_init_297 : decode cX8_init 297 = .ok (.bipush 42, 2) := by decide +kernel
theorem dX8_init_299 : decode cX8_init 299 = .ok (.bipush 100, 2) := by decide +kernel
theorem dX8_init_301 : decode cX8_init 301 = .ok (.bastore, 1) := by decide +kernel
theorem dX8_init_302 : decode cX8_init 302 = .ok (.dup, 1) := by decide +kernel
theorem dX8_init_303 : decode cX8_init 303 = .ok (.bipush 43, 2) := by decide +kernel
theorem dX8_init_305 : decode cX8_init 305 = .ok (.bipush 32, 2) := by decide +kernel
theorem dX8_init_307 : decode cX8_init 307 = .ok (.bastore, 1) := by decide +kernel
theorem dX8_init_308 : decode cX8_init 308 = .ok (.dup, 1) := by decide +kernel
theorem dX8_init_309 : decode cX8_init 309 = .ok (.bipush 44, 2) := by decide +kernel
theorem dX8_init_311 : decode cX8_init 311 = .ok (.bipush 114, 2) := by decide +kernel
theorem dX8_init_313 : decode cX8_init 313 = .ok (.bastore, 1) := by decide +kernel
theorem dX8_init_314 : decode cX8_init 314 = .ok (.dup, 1) := by decide +kernel
theorem dX8_init_315 : decode cX8_init 315 = .ok (.bipush 45, 2) := by decide +kernel
theorem dX8_init_317 : decode cX8_init 317 = .ok (.bipush 104, 2) := by decide +kernel
theorem dX8_init_319 : decode cX8_init 319 = .ok (.bastore, 1) := by decide +kernel
theorem dX8_init_320 : decode cX8_init 320 = .ok (.dup, 1) := by decide +kernel
theorem dX8_init_321 : decode cX8_init 321 = .ok (.bipush 46, 2) := by decide +kernel
theorem dX8_init_323 : decode cX8_init 323 = .ok (.bipush 121, 2) := by decide +kernel
theorem dX8_init_325 : decode cX8_init 325 = .ok (.bastore, 1) := by decide +kernel
theorem dX8_init_326 : decode cX8_init 326 = .ok (.dup, 1) := by decide +kernel
theorem dX8_init_327 : decode cX8_init 327 = .ok (.bipush 47, 2) := by decide +kernel
theorem dX8_init_329 : decode cX8_init 329 = .ok (.bipush 109, 2) := by decide +kernel
theorem dX8_init_331 : decode cX8_init 331 = .ok (.bastore, 1) := by decide +kernel
theorem dX8_init_332 : decode cX8_init 332 = .ok (.dup, 1) := by decide +kernel
theorem dX8_init_333 : decode cX8_init 333 = .ok (.bipush 48, 2) := by decide +kernel
theorem dX8_init_335 : decode cX8_init 335 = .ok (.bipush 101, 2) := by decide +kernel
theorem dX8_init_337 : decode cX8_init 337 = .ok (.bastore, 1) := by decide +kernel
theorem dX8_init_338 : decode cX8_init 338 = .ok (.dup, 1) := by decide +kernel
theorem dX8_init_339 : decode cX8_init 339 = .ok (.bipush 49, 2) := by decide +kernel
theorem dX8_init_341 : decode cX8_init 341 = .ok (.bipush 32, 2) := by decide +kernel
theorem dX8_init_343 : decode cX8_init 343 = .ok (.bastore, 1) := by decide +kernel
theorem dX8_init_344 : decode cX8_init 344 = .ok (.dup, 1) := by decide +kernel
theorem dX8_init_345 : decode cX8_init 345 = .ok (.bipush 50, 2) := by decide +kernel
theorem dX8_init_347 : decode cX8_init 347 = .ok (.bipush 98, 2) := by decide +kernel
theorem dX8_init_349 : decode cX8_init 349 = .ok (.bastore, 1) := by decide +kernel
theorem dX8_init_350 : decode cX8_init 350 = .ok (.dup, 1) := by decide +kernel
theorem dX8_init_351 : decode cX8_init 351 = .ok (.bipush 51, 2) := by decide +kernel
theorem dX8_init_353 : decode cX8_init 353 = .ok (.bipush 101, 2) := by decide +kernel
theorem dX8_init_355 : decode cX8_init 355 = .ok (.bastore, 1) := by decide +kernel
theorem dX8_init_356 : decode cX8_init 356 = .ok (.dup, 1) := by decide +kernel
theorem dX8_init_357 : decode cX8_init 357 = .ok (.bipush 52, 2) := by decide +kernel
theorem dX8_init_359 : decode cX8_init 359 = .ok (.bipush 97, 2) := by decide +kernel
theorem dX8_init_361 : decode cX8_init 361 = .ok (.bastore, 1) := by decide +kernel
theorem dX8_init_362 : decode cX8_init 362 = .ok (.dup, 1) := by decide +kernel
theorem dX8_init_363 : decode cX8_init 363 = .ok (.bipush 53, 2) := by decide +kernel
theorem dX8_init_365 : decode cX8_init 365 = .ok (.bipush 116, 2) := by decide +kernel
theorem dX8_init_367 : decode cX8_init 367 = .ok (.bastore, 1) := by decide +kernel
theorem dX8_init_368 : decode cX8_init 368 = .ok (.dup, 1) := by decide +kernel
theorem dX8_init_369 : decode cX8_init 369 = .ok (.bipush 54, 2) := by decide +kernel
theorem dX8_init_371 : decode cX8_init 371 = .ok (.bipush 32, 2) := by decide +kernel
theorem dX8_init_373 : decode cX8_init 373 = .ok (.bastore, 1) := by decide +kernel
theorem dX8_init_374 : decode cX8_init 374 = .ok (.dup, 1) := by decide +kernel
theorem dX8_init_375 : decode cX8_init 375 = .ok (.bipush 55, 2) := by decide +kernel
theorem dX8_init_377 : decode cX8_init 377 = .ok (.bipush 109, 2) := by decide +kernel
theorem dX8_init_379 : decode cX8_init 379 = .ok (.bastore, 1) := by decide +kernel
theorem dX8_init_380 : decode cX8_init 380 = .ok (.dup, 1) := by decide +kernel
theorem dX8_init_381 : decode cX8_init 381 = .ok (.bipush 56, 2) := by decide +kernel
theorem dX8_init_383 : decode cX8_init 383 = .ok (.bipush 111, 2) := by decide +kernel
theorem dX8_init_385 : decode cX8_init 385 = .ok (.bastore, 1) := by decide +kernel
theorem dX8_init_386 : decode cX8_init 386 = .ok (.dup, 1) := by decide +kernel
theorem dX8_init_387 : decode cX8_init 387 = .ok (.bipush 57, 2) := by decide +kernel
theorem dX8_init_389 : decode cX8_init 389 = .ok (.bipush 111, 2) := by decide +kernel
theorem dX8_init_391 : decode cX8_init 391 = .ok (.bastore, 1) := by decide +kernel
theorem dX8_init_392 : decode cX8_init 392 = .ok (.dup, 1) := by decide +kernel
theorem dX8_init_393 : decode cX8_init 393 = .ok (.bipush 58, 2) := by decide +kernel
theorem dX8_init_395 : decode cX8_init 395 = .ok (.bipush 100, 2) := by decide +kernel
theorem dX8_init_397 : decode cX8_init 397 = .ok (.bastore, 1) := by decide +kernel
theorem dX8_init_398 : decode cX8_init 398 = .ok (.dup, 1) := by decide +kernel
theorem dX8_init_399 : decode cX8_init 399 = .ok (.bipush 59, 2) := by decide +kernel
theorem dX8_init_401 : decode cX8_init 401 = .ok (.bipush 32, 2) := by decide +kernel
theorem dX8_init_403 : decode cX8_init 403 = .ok (.bastore, 1) := by decide +kernel
theorem dX8_init_404 : decode cX8_init 404 = .ok (.dup, 1) := by decide +kernel
theorem dX8_init_405 : decode cX8_init 405 = .ok (.bipush 60, 2) := by decide +kernel
theorem dX8_init_407 : decode cX8_init 407 = .ok (.bipush 113, 2) := by decide +kernel
theorem dX8_init_409 : decode cX8_init 409 = .ok (.bastore, 1) := by decide +kernel
theorem dX8_init_410 : decode cX8_init 410 = .ok (.dup, 1) := by decide +kernel
theorem dX8_init_411 : decode cX8_init 411 = .ok (.bipush 61, 2) := by decide +kernel
theorem dX8_init_413 : decode cX8_init 413 = .ok (.bipush 117, 2) := by decide +kernel
theorem dX8_init_415 : decode cX8_init 415 = .ok (.bastore, 1) := by decide +kernel
theorem dX8_init_416 : decode cX8_init 416 = .ok (.dup, 1) := by decide +kernel
theorem dX8_init_417 : decode cX8_init 417 = .ok (.bipush 62, 2) := by decide +kernel
theorem dX8_init_419 : decode cX8_init 419 = .ok (.bipush 105, 2) := by decide +kernel
theorem dX8_init_421 : decode cX8_init 421 = .ok (.bastore, 1) := by decide +kernel
theorem dX8_init_422 : decode cX8_init 422 = .ok (.dup, 1) := by decide +kernel
theorem dX8_init_423 : decode cX8_init 423 = .ok (.bipush 63, 2) := by decide +kernel
theorem dX8_init_425 : decode cX8_init 425 = .ok (.bipush 99, 2) := by decide +kernel
theorem dX8_init_427 : decode cX8_init 427 = .ok (.bastore, 1) := by decide +kernel
theorem dX8_init_428 : decode cX8_init 428 = .ok (.dup, 1) := by decide +kernel
theorem dX8_init_429 : decode cX8_init 429 = .ok (.bipush 64, 2) := by decide +kernel
theorem dX8_init_431 : decode cX8_init 431 = .ok (.bipush 107, 2) := by decide +kernel
theorem dX8_init_433 : decode cX8_init 433 = .ok (.bastore, 1) := by decide +kernel
theorem dX8_init_434 : decode cX8_init 434 = .ok (.dup, 1) := by decide +kernel
theorem dX8_init_435 : decode cX8_init 435 = .ok (.bipush 65, 2) := by decide +kernel
theorem dX8_init_437 : decode cX8_init 437 = .ok (.bipush 32, 2) := by decide +kernel
theorem dX8_init_439 : decode cX8_init 439 = .ok (.bastore, 1) := by decide +kernel
theorem dX8_init_440 : decode cX8_init 440 = .ok (.dup, 1) := by decide +kernel
theorem dX8_init_441 : decode cX8_init 441 = .ok (.bipush 66, 2) := by decide +kernel
theorem dX8_init_443 : decode cX8_init 443 = .ok (.bipush 109, 2) := by decide +kernel
theorem dX8_init_445 : decode cX8_init 445 = .ok (.bastore, 1) := by decide +kernel
theorem dX8_init_446 : decode cX8_init 446 = .ok (.dup, 1) := by decide +kernel
theorem dX8_init_447 : decode cX8_init 447 = .ok (.bipush 67, 2) := by decide +kernel
theorem dX8_init_449 : decode cX8_init 449 = .ok (.bipush 97, 2) := by decide +kernel
theorem dX8_init_451 : decode cX8_init 451 = .ok (.bastore, 1) := by decide +kernel
theorem dX8_init_452 : decode cX8_init 452 = .ok (.dup, 1) := by decide +kernel
theorem dX8_init_453 : decode cX8_init 453 = .ok (.bipush 68, 2) := by decide +kernel
theorem dX8_init_455 : decode cX8_init 455 = .ok (.bipush 110, 2) := by decide +kernel
theorem dX8_init_457 : decode cX8_init 457 = .ok (.bastore, 1) := by decide +kernel
theorem dX8_init_458 : decode cX8_init 458 = .ok (.dup, 1) := by decide +kernel
theorem dX8_init_459 : decode cX8_init 459 = .ok (.bipush 69, 2) := by decide +kernel
theorem dX8_init_461 : decode cX8_init 461 = .ok (.bipush 121, 2) := by decide +kernel
theorem dX8_init_463 : decode cX8_init 463 = .ok (.bastore, 1) := by decide +kernel
theorem dX8_init_464 : decode cX8_init 464 = .ok (.dup, 1) := by decide +kernel
theorem dX8_init_465 : decode cX8_init 465 = .ok (.bipush 70, 2) := by decide +kernel
theorem dX8_init_467 : decode cX8_init 467 = .ok (.bipush 32, 2) := by decide +kernel
theorem dX8_init_469 : decode cX8_init 469 = .ok (.bastore, 1) := by decide +kernel
theorem dX8_init_470 : decode cX8_init 470 = .ok (.dup, 1) := by decide +kernel
theorem dX8_init_471 : decode cX8_init 471 = .ok (.bipush 71, 2) := by decide +kernel
theorem dX8_init_473 : decode cX8_init 473 = .ok (.bipush 114, 2) := by decide +kernel
theorem dX8_init_475 : decode cX8_init 475 = .ok (.bastore, 1) := by decide +kernel
theorem dX8_init_476 : decode cX8_init 476 = .ok (.dup, 1) := by decide +kernel
theorem dX8_init_477 : decode cX8_init 477 = .ok (.bipush 72, 2) := by decide +kernel
theorem dX8_init_479 : decode cX8_init 479 = .ok (.bipush 111, 2) := by decide +kernel
theorem dX8_init_481 : decode cX8_init 481 = .ok (.bastore, 1) := by decide +kernel
theorem dX8_init_482 : decode cX8_init 482 = .ok (.dup, 1) := by decide +kernel
theorem dX8_init_483 : decode cX8_init 483 = .ok (.bipush 73, 2) := by decide +kernel
theorem dX8_init_485 : decode cX8_init 485 = .ok (.bipush 117, 2) := by decide +kernel
theorem dX8_init_487 : decode cX8_init 487 = .ok (.bastore, 1) := by decide +kernel
theorem dX8_init_488 : decode cX8_init 488 = .ok (.dup, 1) := by decide +kernel
theorem dX8_init_489 : decode cX8_init 489 = .ok (.bipush 74, 2) := by decide +kernel
theorem dX8_init_491 : decode cX8_init 491 = .ok (.bipush 110, 2) := by decide +kernel
theorem dX8_init_493 : decode cX8_init 493 = .ok (.bastore, 1) := by decide +kernel
theorem dX8_init_494 : decode cX8_init 494 = .ok (.dup, 1) := by decide +kernel
theorem dX8_init_495 : decode cX8_init 495 = .ok (.bipush 75, 2) := by decide +kernel
theorem dX8_init_497 : decode cX8_init 497 = .ok (.bipush 100, 2) := by decide +kernel
theorem dX8_init_499 : decode cX8_init 499 = .ok (.bastore, 1) := by decide +kernel
theorem dX8_init_500 : decode cX8_init 500 = .ok (.dup, 1) := by decide +kernel
theorem dX8_init_501 : decode cX8_init 501 = .ok (.bipush 76, 2) := by decide +kernel
theorem dX8_init_503 : decode cX8_init 503 = .ok (.bipush 32, 2) := by decide +kernel
theorem dX8_init_505 : decode cX8_init 505 = .ok (.bastore, 1) := by decide +kernel
theorem dX8_init_506 : decode cX8_init 506 = .ok (.dup, 1) := by decide +kernel
theorem dX8_init_507 : decode cX8_init 507 = .ok (.bipush 77, 2) := by decide +kernel
theorem dX8_init_509 : decode cX8_init 509 = .ok (.bipush 100, 2) := by decide +kernel
theorem dX8_init_511 : decode cX8_init 511 = .ok (.bastore, 1) := by decide +kernel
theorem dX8_init_512 : decode cX8_init 512 = .ok (.dup, 1) := by decide +kernel
theorem dX8_init_513 : decode cX8_init 513 = .ok (.bipush 78, 2) := by decide +kernel
theorem dX8_init_515 : decode cX8_init 515 = .ok (.bipush 111, 2) := by decide +kernel
theorem dX8_init_517 : decode cX8_init 517 = .ok (.bastore, 1) := by decide +kernel
theorem dX8_init_518 : decode cX8_init 518 = .ok (.dup, 1) := by decide +kernel
theorem dX8_init_519 : decode cX8_init 519 = .ok (.bipush 79, 2) := by decide +kernel
theorem dX8_init_521 : decode cX8_init 521 = .ok (.bipush 110, 2) := by decide +kernel
theorem dX8_init_523 : decode cX8_init 523 = .ok (.bastore, 1) := by decide +kernel
theorem dX8_init_524 : decode cX8_init 524 = .ok (.dup, 1) := by decide +kernel
theorem dX8_init_525 : decode cX8_init 525 = .ok (.bipush 80, 2) := by decide +kernel
theorem dX8_init_527 : decode cX8_init 527 = .ok (.bipush 101, 2) := by decide +kernel
theorem dX8_init_529 : decode cX8_init 529 = .ok (.bastore, 1) := by decide +kernel
theorem dX8_init_530 : decode cX8_init 530 = .ok (.dup, 1) := by decide +kernel
theorem dX8_init_531 : decode cX8_init 531 = .ok (.bipush 81, 2) := by decide +kernel
theorem dX8_init_533 : decode cX8_init 533 = .ok (.bipush 32, 2) := by decide +kernel
theorem dX8_init_535 : decode cX8_init 535 = .ok (.bastore, 1) := by decide +kernel
theorem dX8_init_536 : decode cX8_init 536 = .ok (.dup, 1) := by decide +kernel
theorem dX8_init_537 : decode cX8_init 537 = .ok (.bipush 82, 2) := by decide +kernel
theorem dX8_init_539 : decode cX8_init 539 = .ok (.bipush 108, 2) := by decide +kernel
theorem dX8_init_541 : decode cX8_init 541 = .ok (.bastore, 1) := by decide +kernel
theorem dX8_init_542 : decode cX8_init 542 = .ok (.dup, 1) := by decide +kernel
theorem dX8_init_543 : decode cX8_init 543 = .ok (.bipush 83, 2) := by decide +kernel
theorem dX8_init_545 : decode cX8_init 545 = .ok (.bipush 97, 2) := by decide +kernel
theorem dX8_init_547 : decode cX8_init 547 = .ok (.bastore, 1) := by decide +kernel
theorem dX8_init_548 : decode cX8_init 548 = .ok (.dup, 1) := by decide +kernel
theorem dX8_init_549 : decode cX8_init 549 = .ok (.bipush 84, 2) := by decide +kernel
theorem dX8_init_551 : decode cX8_init 551 = .ok (.bipush 116, 2) := by decide +kernel
theorem dX8_init_553 : decode cX8_init 553 = .ok (.bastore, 1) := by decide +kernel
theorem dX8_init_554 : decode cX8_init 554 = .ok (.dup, 1) := by decide +kernel
theorem dX8_init_555 : decode cX8_init 555 = .ok (.bipush 85, 2) := by decide +kernel
theorem dX8_init_557 : decode cX8_init 557 = .ok (.bipush 101, 2) := by decide +kernel
theorem dX8_init_559 : decode cX8_init 559 = .ok (.bastore, 1) := by decide +kernel
theorem dX8_init_560 : decode cX8_init 560 = .ok (.dup, 1) := by decide +kernel
theorem dX8_init_561 : decode cX8_init 561 = .ok (.bipush 86, 2) := by decide +kernel
theorem dX8_init_563 : decode cX8_init 563 = .ok (.bipush 115, 2) := by decide +kernel
theorem dX8_init_565 : decode cX8_init 565 = .ok (.bastore, 1) := by decide +kernel
theorem dX8_init_566 : decode cX8_init 566 = .ok (.dup, 1) := by decide +kernel
theorem dX8_init_567 : decode cX8_init 567 = .ok (.bipush 87, 2) := by decide +kernel
theorem dX8_init_569 : decode cX8_init 569 = .ok (.bipush 116, 2) := by decide +kernel
theorem dX8_init_571 : decode cX8_init 571 = .ok (.bastore, 1) := by decide +kernel
theorem dX8_init_572 : decode cX8_init 572 = .ok (.dup, 1) := by decide +kernel
theorem dX8_init_573 : decode cX8_init 573 = .ok (.bipush 88, 2) := by decide +kernel
theorem dX8_init_575 : decode cX8_init 575 = .ok (.bipush 32, 2) := by decide +kernel
theorem dX8_init_577 : decode cX8_init 577 = .ok (.bastore, 1) := by decide +kernel
theorem dX8_init_578 : decode cX8_init 578 = .ok (.dup, 1) := by decide +kernel
theorem dX8_init_579 : decode cX8_init 579 = .ok (.bipush 89, 2) := by decide +kernel
theorem dX8_init_581 : decode cX8_init 581 = .ok (.bipush 97, 2) := by decide +kernel
theorem dX8_init_583 : decode cX8_init 583 = .ok (.bastore, 1) := by decide +kernel
theorem dX8_init_584 : decode cX8_init 584 = .ok (.dup, 1) := by decide +kernel
theorem dX8_init_585 : decode cX8_init 585 = .ok (.bipush 90, 2) := by decide +kernel
theorem dX8_init_587 : decode cX8_init 587 = .ok (.bipush 116, 2) := by decide +kernel
theorem dX8_init_589 : decode cX8_init 589 = .ok (.bastore, 1) := by decide +kernel
theorem dX8_init_590 : decode cX8_init 590 = .ok (.dup, 1) := by decide +kernel
theorem dX8_init_591 : decode cX8_init 591 = .ok (.bipush 91, 2) := by decide +kernel
theorem dX8_init_593 : decode cX8_init 593 = .ok (.bipush 32, 2) := by decide +kernel
theorem dX8_init_595 : decode cX8_init 595 = .ok (.bastore, 1) := by decide +kernel
theorem dX8_init_596 : decode cX8_init 596 = .ok (.dup, 1) := by decide +kernel
theorem dX8_init_597 : decode cX8_init 597 = .ok (.bipush 92, 2) := by decide +kernel
theorem dX8_init_599 : decode cX8_init 599 = .ok (.bipush 105, 2) := by decide +kernel
theorem dX8_init_601 : decode cX8_init 601 = .ok (.bastore, 1) := by decide +kernel
theorem dX8_init_602 : decode cX8_init 602 = .ok (.dup, 1) := by decide +kernel
theorem dX8_init_603 : decode cX8_init 603 = .ok (.bipush 93, 2) := by decide +kernel
theorem dX8_init_605 : decode cX8_init 605 = .ok (.bipush 110, 2) := by decide +kernel
theorem dX8_init_607 : decode cX8_init 607 = .ok (.bastore, 1) := by decide +kernel
theorem dX8_init_608 : decode cX8_init 608 = .ok (.dup, 1) := by decide +kernel
theorem dX8_init_609 : decode cX8_init 609 = .ok (.bipush 94, 2) := by decide +kernel
theorem dX8_init_611 : decode cX8_init 611 = .ok (.bipush 32, 2) := by decide +kernel
theorem dX8_init_613 : decode cX8_init 613 = .ok (.bastore, 1) := by decide +kernel
theorem dX8_init_614 : decode cX8_init 614 = .ok (.dup, 1) := by decide +kernel
theorem dX8_init_615 : decode cX8_init 615 = .ok (.bipush 95, 2) := by decide +kernel
theorem dX8_init_617 : decode cX8_init 617 = .ok (.bipush 115, 2) := by decide +kernel
theorem dX8_init_619 : decode cX8_init 619 = .ok (.bastore, 1) := by decide +kernel
theorem dX8_init_620 : decode cX8_init 620 = .ok (.dup, 1) := by decide +kernel
theorem dX8_init_621 : decode cX8_init 621 = .ok (.bipush 96, 2) := by decide +kernel
theorem dX8_init_623 : decode cX8_init 623 = .ok (.bipush 97, 2) := by decide +kernel
theorem dX8_init_625 : decode cX8_init 625 = .ok (.bastore, 1) := by decide +kernel
theorem dX8_init_626 : decode cX8_init 626 = .ok (.dup, 1) := by decide +kernel
theorem dX8_init_627 : decode cX8_init 627 = .ok (.bipush 97, 2) := by decide +kernel
theorem dX8_init_629 : decode cX8_init 629 = .ok (.bipush 121, 2) := by decide +kernel
theorem dX8_init_631 : decode cX8_init 631 = .ok (.bastore, 1) := by decide +kernel
theorem dX8_init_632 : decode cX8_init 632 = .ok (.dup, 1) := by decide +kernel
theorem dX8_init_633 : decode cX8_init 633 = .ok (.bipush 98, 2) := by decide +kernel
theorem dX8_init_635 : decode cX8_init 635 = .ok (.bipush 32, 2) := by decide +kernel
theorem dX8_init_637 : decode cX8_init 637 = .ok (.bastore, 1) := by decide +kernel
theorem dX8_init_638 : decode cX8_init 638 = .ok (.dup, 1) := by decide +kernel
theorem dX8_init_639 : decode cX8_init 639 = .ok (.bipush 99, 2) := by decide +kernel
theorem dX8_init_641 : decode cX8_init 641 = .ok (.bipush 106, 2) := by decide +kernel
theorem dX8_init_643 : decode cX8_init 643 = .ok (.bastore, 1) := by decide +kernel
theorem dX8_init_644 : decode cX8_init 644 = .ok (.dup, 1) := by decide +kernel
theorem dX8_init_645 : decode cX8_init 645 = .ok (.bipush 100, 2) := by decide +kernel
theorem dX8_init_647 : decode cX8_init 647 = .ok (.bipush 111, 2) := by decide +kernel
theorem dX8_init_649 : decode cX8_init 649 = .ok (.bastore, 1) := by decide +kernel
theorem dX8_init_650 : decode cX8_init 650 = .ok (.dup, 1) := by decide +kernel
theorem dX8_init_651 : decode cX8_init 651 = .ok (.bipush 101, 2) := by decide +kernel
theorem dX8_init_653 : decode cX8_init 653 = .ok (.bipush 105, 2) := by decide +kernel
theorem dX8_init_655 : decode cX8_init 655 = .ok (.bastore, 1) := by decide +kernel
theorem dX8_init_656 : decode cX8_init 656 = .ok (.dup, 1) := by decide +kernel
theorem dX8_init_657 : decode cX8_init 657 = .ok (.bipush 102, 2) := by decide +kernel
theorem dX8_init_659 : decode cX8_init 659 = .ok (.bipush 110, 2) := by decide +kernel
theorem dX8_init_661 : decode cX8_init 661 = .ok (.bastore, 1) := by decide +kernel
theorem dX8_init_662 : decode cX8_init 662 = .ok (.dup, 1) := by decide +kernel
theorem dX8_init_663 : decode cX8_init 663 = .ok (.bipush 103, 2) := by decide +kernel
theorem dX8_init_665 : decode cX8_init 665 = .ok (.bipush 32, 2) := by decide +kernel
theorem dX8_init_667 : decode cX8_init 667 = .ok (.bastore, 1) := by decide +kernel
theorem dX8_init_668 : decode cX8_init 668 = .ok (.dup, 1) := by decide +kernel
theorem dX8_init_669 : decode cX8_init 669 = .ok (.bipush 104, 2) := by decide +kernel
theorem dX8_init_671 : decode cX8_init 671 = .ok (.bipush 108, 2) := by decide +kernel
theorem dX8_init_673 : decode cX8_init 673 = .ok (.bastore, 1) := by decide +kernel
theorem dX8_init_674 : decode cX8_init 674 = .ok (.dup, 1) := by decide +kernel
theorem dX8_init_675 : decode cX8_init 675 = .ok (.bipush 105, 2) := by decide +kernel
theorem dX8_init_677 : decode cX8_init 677 = .ok (.bipush 101, 2) := by decide +kernel
theorem dX8_init_679 : decode cX8_init 679 = .ok (.bastore, 1) := by decide +kernel
theorem dX8_init_680 : decode cX8_init 680 = .ok (.dup, 1) := by decide +kernel
theorem dX8_init_681 : decode cX8_init 681 = .ok (.bipush 106, 2) := by decide +kernel
theorem dX8_init_683 : decode cX8_init 683 = .ok (.bipush 97, 2) := by decide +kernel
theorem dX8_init_685 : decode cX8_init 685 = .ok (.bastore, 1) := by decide +kernel
theorem dX8_init_686 : decode cX8_init 686 = .ok (.dup, 1) := by decide +kernel
theorem dX8_init_687 : decode cX8_init 687 = .ok (.bipush 107, 2) := by decide +kernel
theorem dX8_init_689 : decode cX8_init 689 = .ok (.bipush 118, 2) := by decide +kernel
theorem dX8_init_691 : decode cX8_init 691 = .ok (.bastore, 1) := by decide +kernel
theorem dX8_init_692 : decode cX8_init 692 = .ok (.dup, 1) := by decide +kernel
theorem dX8_init_693 : decode cX8_init 693 = .ok (.bipush 108, 2) := by decide +kernel
theorem dX8_init_695 : decode cX8_init 695 = .ok (.bipush 101, 2) := by decide +kernel
theorem dX8_init_697 : decode cX8_init 697 = .ok (.bastore, 1) := by decide +kernel
theorem dX8_init_698 : decode cX8_init 698 = .ok (.dup, 1) := by decide +kernel
theorem dX8_init_699 : decode cX8_init 699 = .ok (.bipush 109, 2) := by decide +kernel
theorem dX8_init_701 : decode cX8_init 701 = .ok (.bipush 32, 2) := by decide +kernel
theorem dX8_init_703 : decode cX8_init 703 = .ok (.bastore, 1) := by decide +kernel
theorem dX8_init_704 : decode cX8_init 704 = .ok (.dup, 1) := by decide +kernel
theorem dX8_init_705 : decode cX8_init 705 = .ok (.bipush 110, 2) := by decide +kernel
theorem dX8_init_707 : decode cX8_init 707 = .ok (.bipush 112, 2) := by decide +kernel
theorem dX8_init_709 : decode cX8_init 709 = .ok (.bastore, 1) := by decide +kernel
theorem dX8_init_710 : decode cX8_init 710 = .ok (.dup, 1) := by decide +kernel
theorem dX8_init_711 : decode cX8_init 711 = .ok (.bipush 111, 2) := by decide +kernel
theorem dX8_init_713 : decode cX8_init 713 = .ok (.bipush 97, 2) := by decide +kernel
theorem dX8_init_715 : decode cX8_init 715 = .ok (.bastore, 1) := by decide +kernel
theorem dX8_init_716 : decode cX8_init 716 = .ok (.dup, 1) := by decide +kernel
theorem dX8_init_717 : decode cX8_init 717 = .ok (.bipush 112, 2) := by decide +kernel
theorem dX8_init_719 : decode cX8_init 719 = .ok (.bipush 115, 2) := by decide +kernel
theorem dX8_init_721 : decode cX8_init 721 = .ok (.bastore, 1) := by decide +kernel
theorem dX8_init_722 : decode cX8_init 722 = .ok (.dup, 1) := by decide +kernel
theorem dX8_init_723 : decode cX8_init 723 = .ok (.bipush 113, 2) := by decide +kernel
theorem dX8_init_725 : decode cX8_init 725 = .ok (.bipush 115, 2) := by decide +kernel
theorem dX8_init_727 : decode cX8_init 727 = .ok (.bastore, 1) := by decide +kernel
theorem dX8_init_728 : decode cX8_init 728 = .ok (.dup, 1) := by decide +kernel
theorem dX8_init_729 : decode cX8_init 729 = .ok (.bipush 114, 2) := by decide +kernel
theorem dX8_init_731 : decode cX8_init 731 = .ok (.bipush 32, 2) := by decide +kernel
theorem dX8_init_733 : decode cX8_init 733 = .ok (.bastore, 1) := by decide +kernel
theorem dX8_init_734 : decode cX8_init 734 = .ok (.dup, 1) := by decide +kernel
theorem dX8_init_735 : decode cX8_init 735 = .ok (.bipush 115, 2) := by decide +kernel
theorem dX8_init_737 : decode cX8_init 737 = .ok (.bipush 116, 2) := by decide +kernel
theorem dX8_init_739 : decode cX8_init 739 = .ok (.bastore, 1) := by decide +kernel
theorem dX8_init_740 : decode cX8_init 740 = .ok (.dup, 1) := by decide +kernel
theorem dX8_init_741 : decode cX8_init 741 = .ok (.bipush 116, 2) := by decide +kernel
theorem dX8_init_743 : decode cX8_init 743 = .ok (.bipush 105, 2) := by decide +kernel
theorem dX8_init_745 : decode cX8_init 745 = .ok (.bastore, 1) := by decide +kernel
theorem dX8_init_746 : decode cX8_init 746 = .ok (.dup, 1) := by decide +kernel
theorem dX8_init_747 : decode cX8_init 747 = .ok (.bipush 117, 2) := by decide +kernel
theorem dX8_init_749 : decode cX8_init 749 = .ok (.bipush 109, 2) := by decide +kernel
theorem dX8_init_751 : decode cX8_init 751 = .ok (.bastore, 1) := by decide +kernel
theorem dX8_init_752 : decode cX8_init 752 = .ok (.dup, 1) := by decide +kernel
theorem dX8_init_753 : decode cX8_init 753 = .ok (.bipush 118, 2) := by decide +kernel
theorem dX8_init_755 : decode cX8_init 755 = .ok (.bipush 101, 2) := by decide +kernel
theorem dX8_init_757 : decode cX8_init 757 = .ok (.bastore, 1) := by decide +kernel
theorem dX8_init_758 : decode cX8_init 758 = .ok (.dup, 1) := by decide +kernel
theorem dX8_init_759 : decode cX8_init 759 = .ok (.bipush 119, 2) := by decide +kernel
theorem dX8_init_761 : decode cX8_init 761 = .ok (.bipush 115, 2) := by decide +kernel
theorem dX8_init_763 : decode cX8_init 763 = .ok (.bastore, 1) := by decide +kernel
theorem dX8_init_764 : decode cX8_init 764 = .ok (.dup, 1) := by decide +kernel
theorem dX8_init_765 : decode cX8_init 765 = .ok (.bipush 120, 2) := by decide +kernel
theorem dX8_init_767 : decode cX8_init 767 = .ok (.bipush 32, 2) := by decide +kernel
theorem dX8_init_769 : decode cX8_init 769 = .ok (.bastore, 1) := by decide +kernel
theorem dX8_init_770 : decode cX8_init 770 = .ok (.putfield 41, 3) := by decide +kernel
theorem dX8_init_773 : decode cX8_init 773 = .ok (.aload_n 0, 1) := by decide +kernel
theorem dX8_init_774 : decode cX8_init 774 = .ok (.sipush 400, 3) := by decide +kernel
theorem dX8_init_777 : decode cX8_init 777 = .ok (.newarray .byte, 2) := by decide +kernel
theorem dX8_init_779 : decode cX8_init 779 = .ok (.putfield 45, 3) := by decide +kernel
theorem dX8_init_782 : decode cX8_init 782 = .ok (.aload_n 0, 1) := by decide +kernel
theorem dX8_init_783 : decode cX8_init 783 = .ok (.iconst 5, 1) := by decide +kernel
theorem dX8_init_784 : decode cX8_init 784 = .ok (.newarray .int, 2) := by decide +kernel
theorem dX8_init_786 : decode cX8_init 786 = .ok (.putfield 48, 3) := by decide +kernel
theorem dX8_init_789 : decode cX8_init 789 = .ok (.aload_n 0, 1) := by decide +kernel
theorem dX8_init_790 : decode cX8_init 790 = .ok (.iconst (-1), 1) := by decide +kernel
theorem dX8_init_791 : decode cX8_init 791 = .ok (.putfield 51, 3) := by decide +kernel
theorem dX8_init_794 : decode cX8_init 794 = .ok (.aload_n 0, 1) := by decide +kernel
theorem dX8_init_795 : decode cX8_init 795 = .ok (.sipush 401, 3) := by decide +kernel
theorem dX8_init_798 : decode cX8_init 798 = .ok (.newarray .int, 2) := by decide +kernel
theorem dX8_init_800 : decode cX8_init 800 = .ok (.putfield 54, 3) := by decide +kernel
theorem dX8_init_803 : decode cX8_init 803 = .ok (.aload_n 0, 1) := by decide +kernel
theorem dX8_init_804 : decode cX8_init 804 = .ok (.sipush 401, 3) := by decide +kernel
theorem dX8_init_807 : decode cX8_init 807 = .ok (.newarray .int, 2) := by decide +kernel
theorem dX8_init_809 : decode cX8_init 809 = .ok (.putfield 57, 3) := by decide +kernel
theorem dX8_init_812 : decode cX8_init 812 = .ok (.aload_n 0, 1) := by decide +kernel
theorem dX8_init_813 : decode cX8_init 813 = .ok (.sipush 401, 3) := by decide +kernel
theorem dX8_init_816 : decode cX8_init 816 = .ok (.newarray .int, 2) := by decide +kernel
theorem dX8_init_818 : decode cX8_init 818 = .ok (.putfield 60, 3) := by decide +kernel
theorem dX8_init_821 : decode cX8_init 821 = .ok (.aload_n 0, 1) := by decide +kernel
theorem dX8_init_822 : decode cX8_init 822 = .ok (.bipush 7, 2) := by decide +kernel
theorem dX8_init_824 : decode cX8_init 824 = .ok (.newarray .int, 2) := by decide +kernel
theorem dX8_init_826 : decode cX8_init 826 = .ok (.putfield 63, 3) := by decide +kernel
theorem dX8_init_829 : decode cX8_init 829 = .ok (.aload_n 0, 1) := by decide +kernel
theorem dX8_init_830 : decode cX8_init 830 = .ok (.bipush 16, 2) := by decide +kernel
theorem dX8_init_832 : decode cX8_init 832 = .ok (.newarray .int, 2) := by decide +kernel
theorem dX8_init_834 : decode cX8_init 834 = .ok (.putfield 66, 3) := by decide +kernel
theorem dX8_init_837 : decode cX8_init 837 = .ok (.aload_n 0, 1) := by decide +kernel
theorem dX8_init_838 : decode cX8_init 838 = .ok (.bipush 64, 2) := by decide +kernel
theorem dX8_init_840 : decode cX8_init 840 = .ok (.newarray .int, 2) := by decide +kernel
theorem dX8_init_842 : decode cX8_init 842 = .ok (.putfield 69, 3) := by decide +kernel
theorem dX8_init_845 : decode cX8_init 845 = .ok (.aload_n 0, 1) := by decide +kernel
theorem dX8_init_846 : decode cX8_init 846 = .ok (.bipush 64, 2) := by decide +kernel
theorem dX8_init_848 : decode cX8_init 848 = .ok (.newarray .int, 2) := by decide +kernel
theorem dX8_init_850 : decode cX8_init 850 = .ok (.putfield 72, 3) := by decide +kernel
theorem dX8_init_853 : decode cX8_init 853 = .ok (.aload_n 0, 1) := by decide +kernel
theorem dX8_init_854 : decode cX8_init 854 = .ok (.bipush 60, 2) := by decide +kernel
theorem dX8_init_856 : decode cX8_init 856 = .ok (.newarray .int, 2) := by decide +kernel
theorem dX8_init_858 : decode cX8_init 858 = .ok (.putfield 75, 3) := by decide +kernel
theorem dX8_init_861 : decode cX8_init 861 = .ok (.aload_n 0, 1) := by decide +kernel
theorem dX8_init_862 : decode cX8_init 862 = .ok (.sipush 1920, 3) := by decide +kernel
theorem dX8_init_865 : decode cX8_init 865 = .ok (.newarray .int, 2) := by decide +kernel
theorem dX8_init_867 : decode cX8_init 867 = .ok (.putfield 78, 3) := by decide +kernel
theorem dX8_init_870 : decode cX8_init 870 = .ok (.aload_n 0, 1) := by decide +kernel
theorem dX8_init_871 : decode cX8_init 871 = .ok (.sipush 384, 3) := by decide +kernel
theorem dX8_init_874 : decode cX8_init 874 = .ok (.newarray .int, 2) := by decide +kernel
theorem dX8_init_876 : decode cX8_init 876 = .ok (.putfield 81, 3) := by decide +kernel
theorem dX8_init_879 : decode cX8_init 879 = .ok (.aload_n 0, 1) := by decide +kernel
theorem dX8_init_880 : decode cX8_init 880 = .ok (.sipush 384, 3) := by decide +kernel
theorem dX8_init_883 : decode cX8_init 883 = .ok (.newarray .int, 2) := by decide +kernel
theorem dX8_init_885 : decode cX8_init 885 = .ok (.putfield 84, 3) := by decide +kernel
theorem dX8_init_888 : decode cX8_init 888 = .ok (.aload_n 0, 1) := by decide +kernel
theorem dX8_init_889 : decode cX8_init 889 = .ok (.sipush 384, 3) := by decide +kernel
theorem dX8_init_892 : decode cX8_init 892 = .ok (.newarray .int, 2) := by decide +kernel
theorem dX8_init_894 : decode cX8_init 894 = .ok (.putfield 87, 3) := by decide +kernel
theorem dX8_init_897 : decode cX8_init 897 = .ok (.aload_n 0, 1) := by decide +kernel
theorem dX8_init_898 : decode cX8_init 898 = .ok (.sipush 384, 3) := by decide +kernel
theorem dX8_init_901 : decode cX8_init 901 = .ok (.newarray .boolean, 2) := by decide +kernel
theorem dX8_init_903 : decode cX8_init 903 = .ok (.putfield 90, 3) := by decide +kernel
theorem dX8_init_906 : decode cX8_init 906 = .ok (.aload_n 0, 1) := by decide +kernel
theorem dX8_init_907 : decode cX8_init 907 = .ok (.sipush 384, 3) := by decide +kernel
theorem dX8_init_910 : decode cX8_init 910 = .ok (.newarray .int, 2) := by decide +kernel
theorem dX8_init_912 : decode cX8_init 912 = .ok (.putfield 93, 3) := by decide +kernel
theorem dX8_init_915 : decode cX8_init 915 = .ok (.aload_n 0, 1) := by decide +kernel
theorem dX8_init_916 : decode cX8_init 916 = .ok (.sipush 768, 3) := by decide +kernel
theorem dX8_init_919 : decode cX8_init 919 = .ok (.newarray .int, 2) := by decide +kernel
theorem dX8_init_921 : decode cX8_init 921 = .ok (.putfield 96, 3) := by decide +kernel
theorem dX8_init_924 : decode cX8_init 924 = .ok (.aload_n 0, 1) := by decide +kernel
theorem dX8_init_925 : decode cX8_init 925 = .ok (.sipush 768, 3) := by decide +kernel
theorem dX8_init_928 : decode cX8_init 928 = .ok (.newarray .long, 2) := by decide +kernel
theorem dX8_init_930 : decode cX8_init 930 = .ok (.putfield 99, 3) := by decide +kernel
theorem dX8_init_933 : decode cX8_init 933 = .ok (.aload_n 0, 1) := by decide +kernel
theorem dX8_init_934 : decode cX8_init 934 = .ok (.iconst 4, 1) := by decide +kernel
theorem dX8_init_935 : decode cX8_init 935 = .ok (.newarray .int, 2) := by decide +kernel
theorem dX8_init_937 : decode cX8_init 937 = .ok (.putfield 103, 3) := by decide +kernel
theorem dX8_init_940 : decode cX8_init 940 = .ok (.aload_n 0, 1) := by decide +kernel
theorem dX8_init_941 : decode cX8_init 941 = .ok (.iconst (-1), 1) := by decide +kernel
theorem dX8_init_942 : decode cX8_init 942 = .ok (.putfield 106, 3) := by decide +kernel
theorem dX8_init_945 : decode cX8_init 945 = .ok (.aload_n 0, 1) := by decide +kernel
theorem dX8_init_946 : decode cX8_init 946 = .ok (.bipush 6, 2) := by decide +kernel
theorem dX8_init_948 : decode cX8_init 948 = .ok (.newarray .int, 2) := by decide +kernel
theorem dX8_init_950 : decode cX8_init 950 = .ok (.putfield 109, 3) := by decide +kernel
theorem dX8_init_953 : decode cX8_init 953 = .ok (.aload_n 0, 1) := by decide +kernel
theorem dX8_init_954 : decode cX8_init 954 = .ok (.iconst (-1), 1) := by decide +kernel
theorem dX8_init_955 : decode cX8_init 955 = .ok (.putfield 112, 3) := by decide +kernel
theorem dX8_init_958 : decode cX8_init 958 = .ok (.aload_n 0, 1) := by decide +kernel
theorem dX8_init_959 : decode cX8_init 959 = .ok (.getfield 28, 3) := by decide +kernel
theorem dX8_init_962 : decode cX8_init 962 = .ok (.bipush 14, 2) := by decide +kernel
theorem dX8_init_964 : decode cX8_init 964 = .ok (.iconst 1, 1) := by decide +kernel
theorem dX8_init_965 : decode cX8_init 965 = .ok (.iastore, 1) := by decide +kernel
theorem dX8_init_966 : decode cX8_init 966 = .ok (.aload_n 0, 1) := by decide +kernel
theorem dX8_init_967 : decode cX8_init 967 = .ok (.getfield 28, 3) := by decide +kernel
theorem dX8_init_970 : decode cX8_init 970 = .ok (.bipush 19, 2) := by decide +kernel
theorem dX8_init_972 : decode cX8_init 972 = .ok (.iconst (-1), 1) := by decide +kernel
theorem dX8_init_973 : decode cX8_init 973 = .ok (.iastore, 1) := by decide +kernel
theorem dX8_init_974 : decode cX8_init 974 = .ok (.return_, 1) := by decide +kernel
theorem dX8_laysAside_0 : decode cX8_laysAside 0 = .ok (.iconst 0, 1) := by decide +kernel
theorem dX8_laysAside_1 : decode cX8_laysAside 1 = .ok (.istore_n 2, 1) := by decide +kernel
theorem dX8_laysAside_2 : decode cX8_laysAside 2 = .ok (.iload_n 2, 1) := by decide +kernel
theorem dX8_laysAside_3 : decode cX8_laysAside 3 = .ok (.iconst 3, 1) := by decide +kernel
theorem dX8_laysAside_4 : decode cX8_laysAside 4 = .ok (.if_icmp .ge 25, 3) := by decide +kernel
theorem dX8_laysAside_7 : decode cX8_laysAside 7 = .ok (.aload_n 0, 1) := by decide +kernel
theorem dX8_laysAside_8 : decode cX8_laysAside 8 = .ok (.getfield 38, 3) := by decide +kernel
theorem dX8_laysAside_11 : decode cX8_laysAside 11 = .ok (.iconst 3, 1) := by decide +kernel
theorem dX8_laysAside_12 : decode cX8_laysAside 12 = .ok (.iload_n 1, 1) := by decide +kernel
theorem dX8_laysAside_13 : decode cX8_laysAside 13 = .ok (.imul, 1) := by decide +kernel
theorem dX8_laysAside_14 : decode cX8_laysAside 14 = .ok (.iload_n 2, 1) := by decide +kernel
theorem dX8_laysAside_15 : decode cX8_laysAside 15 = .ok (.iadd, 1) := by decide +kernel
theorem dX8_laysAside_16 : decode cX8_laysAside 16 = .ok (.aload_n 0, 1) := by decide +kernel
theorem dX8_laysAside_17 : decode cX8_laysAside 17 = .ok (.getfield 28, 3) := by decide +kernel
theorem dX8_laysAside_20 : decode cX8_laysAside 20 = .ok (.iload_n 2, 1) := by decide +kernel
theorem dX8_laysAside_21 : decode cX8_laysAside 21 = .ok (.iaload, 1) := by decide +kernel
theorem dX8_laysAside_22 : decode cX8_laysAside 22 = .ok (.iastore, 1) := by decide +kernel
theorem dX8_laysAside_23 : decode cX8_laysAside 23 = .ok (.iinc 2 1, 3) := by decide +kernel
theorem dX8_laysAside_26 : decode cX8_laysAside 26 = .ok (.goto (-24), 3) := by decide +kernel
theorem dX8_laysAside_29 : decode cX8_laysAside 29 = .ok (.return_, 1) := by decide +kernel
theorem dX8_takesBack_0 : decode cX8_takesBack 0 = .ok (.iconst 0, 1) := by decide +kernel
theorem dX8_takesBack_1 : decode cX8_takesBack 1 = .ok (.istore_n 2, 1) := by decide +kernel
theorem dX8_takesBack_2 : decode cX8_takesBack 2 = .ok (.iload_n 2, 1) := by decide +kernel
theorem dX8_takesBack_3 : decode cX8_takesBack 3 = .ok (.iconst 3, 1) := by decide +kernel
theorem dX8_takesBack_4 : decode cX8_takesBack 4 = .ok (.if_icmp .ge 25, 3) := by decide +kernel
theorem dX8_takesBack_7 : decode cX8_takesBack 7 = .ok (.aload_n 0, 1) := by decide +kernel
theorem dX8_takesBack_8 : decode cX8_takesBack 8 = .ok (.getfield 28, 3) := by decide +kernel
theorem dX8_takesBack_11 : decode cX8_takesBack 11 = .ok (.iload_n 2, 1) := by decide +kernel
theorem dX8_takesBack_12 : decode cX8_takesBack 12 = .ok (.aload_n 0, 1) := by decide +kernel
theorem dX8_takesBack_13 : decode cX8_takesBack 13 = .ok (.getfield 38, 3) := by decide +kernel
theorem dX8_takesBack_16 : decode cX8_takesBack 16 = .ok (.iconst 3, 1) := by decide +kernel
theorem dX8_takesBack_17 : decode cX8_takesBack 17 = .ok (.iload_n 1, 1) := by decide +kernel
theorem dX8_takesBack_18 : decode cX8_takesBack 18 = .ok (.imul, 1) := by decide +kernel
theorem dX8_takesBack_19 : decode cX8_takesBack 19 = .ok (.iload_n 2, 1) := by decide +kernel
theorem dX8_takesBack_20 : decode cX8_takesBack 20 = .ok (.iadd, 1) := by decide +kernel
theorem dX8_takesBack_21 : decode cX8_takesBack 21 = .ok (.iaload, 1) := by decide +kernel
theorem dX8_takesBack_22 : decode cX8_takesBack 22 = .ok (.iastore, 1) := by decide +kernel
theorem dX8_takesBack_23 : decode cX8_takesBack 23 = .ok (.iinc 2 1, 3) := by decide +kernel
theorem dX8_takesBack_26 : decode cX8_takesBack 26 = .ok (.goto (-24), 3) := by decide +kernel
theorem dX8_takesBack_29 : decode cX8_takesBack 29 = .ok (.return_, 1) := by decide +kernel
theorem dX8_image_0 : decode cX8_image 0 = .ok (.iload_n 1, 1) := by decide +kernel
theorem dX8_image_1 : decode cX8_image 1 = .ok (.iconst 0, 1) := by decide +kernel
theorem dX8_image_2 : decode cX8_image 2 = .ok (.iconst 1, 1) := by decide +kernel
theorem dX8_image_3 : decode cX8_image 3 = .ok (.invokestatic 115, 3) := by decide +kernel
theorem dX8_image_6 : decode cX8_image 6 = .ok (.ifCond .ne 9, 3) := by decide +kernel
theorem dX8_image_9 : decode cX8_image 9 = .ok (.aload_n 0, 1) := by decide +kernel
theorem dX8_image_10 : decode cX8_image 10 = .ok (.iconst (-1), 1) := by decide +kernel
theorem dX8_image_11 : decode cX8_image 11 = .ok (.invokevirtual 119, 3) := by decide +kernel
theorem dX8_image_14 : decode cX8_image 14 = .ok (.ireturn, 1) := by decide +kernel
theorem dX8_image_15 : decode cX8_image 15 = .ok (.iconst 0, 1) := by decide +kernel
theorem dX8_image_16 : decode cX8_image 16 = .ok (.istore_n 2, 1) := by decide +kernel
theorem dX8_image_17 : decode cX8_image 17 = .ok (.iload_n 2, 1) := by decide +kernel
theorem dX8_image_18 : decode cX8_image 18 = .ok (.sipush 5627, 3) := by decide +kernel
theorem dX8_image_21 : decode cX8_image 21 = .ok (.if_icmp .ge 27, 3) := by decide +kernel
theorem dX8_image_24 : decode cX8_image 24 = .ok (.aload_n 0, 1) := by decide +kernel
theorem dX8_image_25 : decode cX8_image 25 = .ok (.getfield 31, 3) := by decide +kernel
theorem dX8_image_28 : decode cX8_image 28 = .ok (.sipush 5627, 3) := by decide +kernel
theorem dX8_image_31 : decode cX8_image 31 = .ok (.iload_n 1, 1) := by decide +kernel
theorem dX8_image_32 : decode cX8_image 32 = .ok (.imul, 1) := by decide +kernel
theorem dX8_image_33 : decode cX8_image 33 = .ok (.iload_n 2, 1) := by decide +kernel
theorem dX8_image_34 : decode cX8_image 34 = .ok (.iadd, 1) := by decide +kernel
theorem dX8_image_35 : decode cX8_image 35 = .ok (.aload_n 0, 1) := by decide +kernel
theorem dX8_image_36 : decode cX8_image 36 = .ok (.getfield 28, 3) := by decide +kernel
theorem dX8_image_39 : decode cX8_image 39 = .ok (.iload_n 2, 1) := by decide +kernel
theorem dX8_image_40 : decode cX8_image 40 = .ok (.iaload, 1) := by decide +kernel
theorem dX8_image_41 : decode cX8_image 41 = .ok (.iastore, 1) := by decide +kernel
theorem dX8_image_42 : decode cX8_image 42 = .ok (.iinc 2 1, 3) := by decide +kernel
theorem dX8_image_45 : decode cX8_image 45 = .ok (.goto (-28), 3) := by decide +kernel
theorem dX8_image_48 : decode cX8_image 48 = .ok (.aload_n 0, 1) := by decide +kernel
theorem dX8_image_49 : decode cX8_image 49 = .ok (.getfield 34, 3) := by decide +kernel
theorem dX8_image_52 : decode cX8_image 52 = .ok (.iload_n 1, 1) := by decide +kernel
theorem dX8_image_53 : decode cX8_image 53 = .ok (.iconst 1, 1) := by decide +kernel
theorem dX8_image_54 : decode cX8_image 54 = .ok (.bastore, 1) := by decide +kernel
theorem dX8_image_55 : decode cX8_image 55 = .ok (.aload_n 0, 1) := by decide +kernel
theorem dX8_image_56 : decode cX8_image 56 = .ok (.iconst 0, 1) := by decide +kernel
theorem dX8_image_57 : decode cX8_image 57 = .ok (.invokevirtual 14, 3) := by decide +kernel
theorem dX8_image_60 : decode cX8_image 60 = .ok (.ireturn, 1) := by decide +kernel
theorem dX8_back_0 : decode cX8_back 0 = .ok (.iload_n 1, 1) := by decide +kernel
theorem dX8_back_1 : decode cX8_back 1 = .ok (.iconst 0, 1) := by decide +kernel
theorem dX8_back_2 : decode cX8_back 2 = .ok (.iconst 1, 1) := by decide +kernel
theorem dX8_back_3 : decode cX8_back 3 = .ok (.invokestatic 115, 3) := by decide +kernel
theorem dX8_back_6 : decode cX8_back 6 = .ok (.ifCond .ne 9, 3) := by decide +kernel
theorem dX8_back_9 : decode cX8_back 9 = .ok (.aload_n 0, 1) := by decide +kernel
theorem dX8_back_10 : decode cX8_back 10 = .ok (.iconst (-1), 1) := by decide +kernel
theorem dX8_back_11 : decode cX8_back 11 = .ok (.invokevirtual 119, 3) := by decide +kernel
theorem dX8_back_14 : decode cX8_back 14 = .ok (.ireturn, 1) := by decide +kernel
theorem dX8_back_15 : decode cX8_back 15 = .ok (.aload_n 0, 1) := by decide +kernel
theorem dX8_back_16 : decode cX8_back 16 = .ok (.getfield 34, 3) := by decide +kernel
theorem dX8_back_19 : decode cX8_back 19 = .ok (.iload_n 1, 1) := by decide +kernel
theorem dX8_back_20 : decode cX8_back 20 = .ok (.baload, 1) := by decide +kernel
theorem dX8_back_21 : decode cX8_back 21 = .ok (.ifCond .ne 10, 3) := by decide +kernel
theorem dX8_back_24 : decode cX8_back 24 = .ok (.aload_n 0, 1) := by decide +kernel
theorem dX8_back_25 : decode cX8_back 25 = .ok (.bipush (-2), 2) := by decide +kernel
theorem dX8_back_27 : decode cX8_back 27 = .ok (.invokevirtual 119, 3) := by decide +kernel
theorem dX8_back_30 : decode cX8_back 30 = .ok (.ireturn, 1) := by decide +kernel
theorem dX8_back_31 : decode cX8_back 31 = .ok (.iconst 0, 1) := by decide +kernel
theorem dX8_back_32 : decode cX8_back 32 = .ok (.istore_n 2, 1) := by decide +kernel
theorem dX8_back_33 : decode cX8_back 33 = .ok (.iload_n 2, 1) := by decide +kernel
theorem dX8_back_34 : decode cX8_back 34 = .ok (.sipush 5627, 3) := by decide +kernel
theorem dX8_back_37 : decode cX8_back 37 = .ok (.if_icmp .ge 27, 3) := by decide +kernel
theorem dX8_back_40 : decode cX8_back 40 = .ok (.aload_n 0, 1) := by decide +kernel
theorem dX8_back_41 : decode cX8_back 41 = .ok (.getfield 28, 3) := by decide +kernel
theorem dX8_back_44 : decode cX8_back 44 = .ok (.iload_n 2, 1) := by decide +kernel
theorem dX8_back_45 : decode cX8_back 45 = .ok (.aload_n 0, 1) := by decide +kernel
theorem dX8_back_46 : decode cX8_back 46 = .ok (.getfield 31, 3) := by decide +kernel
theorem dX8_back_49 : decode cX8_back 49 = .ok (.sipush 5627, 3) := by decide +kernel
theorem dX8_back_52 : decode cX8_back 52 = .ok (.iload_n 1, 1) := by decide +kernel
theorem dX8_back_53 : decode cX8_back 53 = .ok (.imul, 1) := by decide +kernel
theorem dX8_back_54 : decode cX8_back 54 = .ok (.iload_n 2, 1) := by decide +kernel
theorem dX8_back_55 : decode cX8_back 55 = .ok (.iadd, 1) := by decide +kernel
theorem dX8_back_56 : decode cX8_back 56 = .ok (.iaload, 1) := by decide +kernel
theorem dX8_back_57 : decode cX8_back 57 = .ok (.iastore, 1) := by decide +kernel
theorem dX8_back_58 : decode cX8_back 58 = .ok (.iinc 2 1, 3) := by decide +kernel
theorem dX8_back_61 : decode cX8_back 61 = .ok (.goto (-28), 3) := by decide +kernel
theorem dX8_back_64 : decode cX8_back 64 = .ok (.aload_n 0, 1) := by decide +kernel
theorem dX8_back_65 : decode cX8_back 65 = .ok (.iconst 0, 1) := by decide +kernel
theorem dX8_back_66 : decode cX8_back 66 = .ok (.invokevirtual 122, 3) := by decide +kernel
theorem dX8_back_69 : decode cX8_back 69 = .ok (.ireturn, 1) := by decide +kernel
theorem dX8_isChild_0 : decode cX8_isChild 0 = .ok (.iload_n 1, 1) := by decide +kernel
theorem dX8_isChild_1 : decode cX8_isChild 1 = .ok (.iconst 0, 1) := by decide +kernel
theorem dX8_isChild_2 : decode cX8_isChild 2 = .ok (.aload_n 0, 1) := by decide +kernel
theorem dX8_isChild_3 : decode cX8_isChild 3 = .ok (.getfield 28, 3) := by decide +kernel
theorem dX8_isChild_6 : decode cX8_isChild 6 = .ok (.bipush 16, 2) := by decide +kernel
theorem dX8_isChild_8 : decode cX8_isChild 8 = .ok (.iaload, 1) := by decide +kernel
theorem dX8_isChild_9 : decode cX8_isChild 9 = .ok (.iconst 1, 1) := by decide +kernel
theorem dX8_isChild_10 : decode cX8_isChild 10 = .ok (.isub, 1) := by decide +kernel
theorem dX8_isChild_11 : decode cX8_isChild 11 = .ok (.invokestatic 115, 3) := by decide +kernel
theorem dX8_isChild_14 : decode cX8_isChild 14 = .ok (.ireturn, 1) := by decide +kernel
theorem dX8_isRhyme_0 : decode cX8_isRhyme 0 = .ok (.iload_n 1, 1) := by decide +kernel
theorem dX8_isRhyme_1 : decode cX8_isRhyme 1 = .ok (.iconst 0, 1) := by decide +kernel
theorem dX8_isRhyme_2 : decode cX8_isRhyme 2 = .ok (.aload_n 0, 1) := by decide +kernel
theorem dX8_isRhyme_3 : decode cX8_isRhyme 3 = .ok (.getfield 28, 3) := by decide +kernel
theorem dX8_isRhyme_6 : decode cX8_isRhyme 6 = .ok (.bipush 17, 2) := by decide +kernel
theorem dX8_isRhyme_8 : decode cX8_isRhyme 8 = .ok (.iaload, 1) := by decide +kernel
theorem dX8_isRhyme_9 : decode cX8_isRhyme 9 = .ok (.iconst 1, 1) := by decide +kernel
theorem dX8_isRhyme_10 : decode cX8_isRhyme 10 = .ok (.isub, 1) := by decide +kernel
theorem dX8_isRhyme_11 : decode cX8_isRhyme 11 = .ok (.invokestatic 115, 3) := by decide +kernel
theorem dX8_isRhyme_14 : decode cX8_isRhyme 14 = .ok (.ireturn, 1) := by decide +kernel
theorem dX8_allChildren_0 : decode cX8_allChildren 0 = .ok (.iconst 1, 1) := by decide +kernel
theorem dX8_allChildren_1 : decode cX8_allChildren 1 = .ok (.aload_n 0, 1) := by decide +kernel
theorem dX8_allChildren_2 : decode cX8_allChildren 2 = .ok (.getfield 28, 3) := by decide +kernel
theorem dX8_allChildren_5 : decode cX8_allChildren 5 = .ok (.bipush 16, 2) := by decide +kernel
theorem dX8_allChildren_7 : decode cX8_allChildren 7 = .ok (.iaload, 1) := by decide +kernel
theorem dX8_allChildren_8 : decode cX8_allChildren 8 = .ok (.ishl, 1) := by decide +kernel
theorem dX8_allChildren_9 : decode cX8_allChildren 9 = .ok (.iconst 1, 1) := by decide +kernel
theorem dX8_allChildren_10 : decode cX8_allChildren 10 = .ok (.isub, 1) := by decide +kernel
theorem dX8_allChildren_11 : decode cX8_allChildren 11 = .ok (.ireturn, 1) := by decide +kernel
theorem dX8_inside_0 : decode cX8_inside 0 = .ok (.aload_n 0, 1) := by decide +kernel
theorem dX8_inside_1 : decode cX8_inside 1 = .ok (.getfield 28, 3) := by decide +kernel
theorem dX8_inside_4 : decode cX8_inside 4 = .ok (.iconst 0, 1) := by decide +kernel
theorem dX8_inside_5 : decode cX8_inside 5 = .ok (.iaload, 1) := by decide +kernel
theorem dX8_inside_6 : decode cX8_inside 6 = .ok (.invokestatic 125, 3) := by decide +kernel
theorem dX8_inside_9 : decode cX8_inside 9 = .ok (.ireturn, 1) := by decide +kernel
theorem dX8_addsChild_0 : decode cX8_addsChild 0 = .ok (.aload_n 0, 1) := by decide +kernel
theorem dX8_addsChild_1 : decode cX8_addsChild 1 = .ok (.getfield 28, 3) := by decide +kernel
theorem dX8_addsChild_4 : decode cX8_addsChild 4 = .ok (.bipush 16, 2) := by decide +kernel
theorem dX8_addsChild_6 : decode cX8_addsChild 6 = .ok (.iaload, 1) := by decide +kernel
theorem dX8_addsChild_7 : decode cX8_addsChild 7 = .ok (.istore_n 2, 1) := by decide +kernel
theorem dX8_addsChild_8 : decode cX8_addsChild 8 = .ok (.aload_n 0, 1) := by decide +kernel
theorem dX8_addsChild_9 : decode cX8_addsChild 9 = .ok (.getfield 28, 3) := by decide +kernel
theorem dX8_addsChild_12 : decode cX8_addsChild 12 = .ok (.iconst 3, 1) := by decide +kernel
theorem dX8_addsChild_13 : decode cX8_addsChild 13 = .ok (.iload_n 2, 1) := by decide +kernel
theorem dX8_addsChild_14 : decode cX8_addsChild 14 = .ok (.iadd, 1) := by decide +kernel
theorem dX8_addsChild_15 : decode cX8_addsChild 15 = .ok (.iload_n 1, 1) := by decide +kernel
theorem dX8_addsChild_16 : decode cX8_addsChild 16 = .ok (.iastore, 1) := by decide +kernel
theorem dX8_addsChild_17 : decode cX8_addsChild 17 = .ok (.aload_n 0, 1) := by decide +kernel
theorem dX8_addsChild_18 : decode cX8_addsChild 18 = .ok (.getfield 28, 3) := by decide +kernel
theorem dX8_addsChild_21 : decode cX8_addsChild 21 = .ok (.iconst 0, 1) := by decide +kernel
theorem dX8_addsChild_22 : decode cX8_addsChild 22 = .ok (.dup2, 1) := by decide +kernel
theorem dX8_addsChild_23 : decode cX8_addsChild 23 = .ok (.iaload, 1) := by decide +kernel
theorem dX8_addsChild_24 : decode cX8_addsChild 24 = .ok (.iconst 1, 1) := by decide +kernel
theorem dX8_addsChild_25 : decode cX8_addsChild 25 = .ok (.iload_n 2, 1) := by decide +kernel
theorem dX8_addsChild_26 : decode cX8_addsChild 26 = .ok (.ishl, 1) := by decide +kernel
theorem dX8_addsChild_27 : decode cX8_addsChild 27 = .ok (.ior, 1) := by decide +kernel
theorem dX8_addsChild_28 : decode cX8_addsChild 28 = .ok (.iastore, 1) := by decide +kernel
theorem dX8_addsChild_29 : decode cX8_addsChild 29 = .ok (.aload_n 0, 1) := by decide +kernel
theorem dX8_addsChild_30 : decode cX8_addsChild 30 = .ok (.getfield 28, 3) := by decide +kernel
theorem dX8_addsChild_33 : decode cX8_addsChild 33 = .ok (.bipush 16, 2) := by decide +kernel
theorem dX8_addsChild_35 : decode cX8_addsChild 35 = .ok (.dup2, 1) := by decide +kernel
theorem dX8_addsChild_36 : decode cX8_addsChild 36 = .ok (.iaload, 1) := by decide +kernel
theorem dX8_addsChild_37 : decode cX8_addsChild 37 = .ok (.iconst 1, 1) := by decide +kernel
theorem dX8_addsChild_38 : decode cX8_addsChild 38 = .ok (.iadd, 1) := by decide +kernel
theorem dX8_addsChild_39 : decode cX8_addsChild 39 = .ok (.iastore, 1) := by decide +kernel
theorem dX8_addsChild_40 : decode cX8_addsChild 40 = .ok (.return_, 1) := by decide +kernel
theorem dX8_child_0 : decode cX8_child 0 = .ok (.iload_n 1, 1) := by decide +kernel
theorem dX8_child_1 : decode cX8_child 1 = .ok (.iconst 0, 1) := by decide +kernel
theorem dX8_child_2 : decode cX8_child 2 = .ok (.bipush 9, 2) := by decide +kernel
theorem dX8_child_4 : decode cX8_child 4 = .ok (.invokestatic 115, 3) := by decide +kernel
theorem dX8_child_7 : decode cX8_child 7 = .ok (.ifCond .ne 9, 3) := by decide +kernel
theorem dX8_child_10 : decode cX8_child 10 = .ok (.aload_n 0, 1) := by decide +kernel
theorem dX8_child_11 : decode cX8_child 11 = .ok (.iconst (-1), 1) := by decide +kernel
theorem dX8_child_12 : decode cX8_child 12 = .ok (.invokevirtual 119, 3) := by decide +kernel
theorem dX8_child_15 : decode cX8_child 15 = .ok (.ireturn, 1) := by decide +kernel
theorem dX8_child_16 : decode cX8_child 16 = .ok (.aload_n 0, 1) := by decide +kernel
theorem dX8_child_17 : decode cX8_child 17 = .ok (.getfield 28, 3) := by decide +kernel
theorem dX8_child_20 : decode cX8_child 20 = .ok (.bipush 16, 2) := by decide +kernel
theorem dX8_child_22 : decode cX8_child 22 = .ok (.iaload, 1) := by decide +kernel
theorem dX8_child_23 : decode cX8_child 23 = .ok (.bipush 6, 2) := by decide +kernel
theorem dX8_child_25 : decode cX8_child 25 = .ok (.if_icmp .ne 10, 3) := by decide +kernel
theorem dX8_child_28 : decode cX8_child 28 = .ok (.aload_n 0, 1) := by decide +kernel
theorem dX8_child_29 : decode cX8_child 29 = .ok (.bipush (-5), 2) := by decide +kernel
theorem dX8_child_31 : decode cX8_child 31 = .ok (.invokevirtual 119, 3) := by decide +kernel
theorem dX8_child_34 : decode cX8_child 34 = .ok (.ireturn, 1) := by decide +kernel
theorem dX8_child_35 : decode cX8_child 35 = .ok (.aload_n 0, 1) := by decide +kernel
theorem dX8_child_36 : decode cX8_child 36 = .ok (.iload_n 1, 1) := by decide +kernel
theorem dX8_child_37 : decode cX8_child 37 = .ok (.invokevirtual 128, 3) := by decide +kernel
theorem dX8_child_40 : decode cX8_child 40 = .ok (.aload_n 0, 1) := by decide +kernel
theorem dX8_child_41 : decode cX8_child 41 = .ok (.aload_n 0, 1) := by decide +kernel
theorem dX8_child_42 : decode cX8_child 42 = .ok (.getfield 28, 3) := by decide +kernel
theorem dX8_child_45 : decode cX8_child 45 = .ok (.bipush 16, 2) := by decide +kernel
theorem dX8_child_47 : decode cX8_child 47 = .ok (.iaload, 1) := by decide +kernel
theorem dX8_child_48 : decode cX8_child 48 = .ok (.iconst 1, 1) := by decide +kernel
theorem dX8_child_49 : decode cX8_child 49 = .ok (.isub, 1) := by decide +kernel
theorem dX8_child_50 : decode cX8_child 50 = .ok (.invokevirtual 122, 3) := by decide +kernel
theorem dX8_child_53 : decode cX8_child 53 = .ok (.ireturn, 1) := by decide +kernel
theorem dX8_of_0 : decode cX8_of 0 = .ok (.aload_n 0, 1) := by decide +kernel
theorem dX8_of_1 : decode cX8_of 1 = .ok (.iload_n 1, 1) := by decide +kernel
theorem dX8_of_2 : decode cX8_of 2 = .ok (.invokevirtual 132, 3) := by decide +kernel
theorem dX8_of_5 : decode cX8_of 5 = .ok (.ifCond .ne 5, 3) := by decide +kernel
theorem dX8_of_8 : decode cX8_of 8 = .ok (.iconst (-1), 1) := by decide +kernel
theorem dX8_of_9 : decode cX8_of 9 = .ok (.ireturn, 1) := by decide +kernel
theorem dX8_of_10 : decode cX8_of 10 = .ok (.iload_n 2, 1) := by decide +kernel
theorem dX8_of_11 : decode cX8_of 11 = .ok (.lookupswitch 45 #[(0, 25), (1, 34)], 25) := by decide +kernel
theorem dX8_of_36 : decode cX8_of 36 = .ok (.aload_n 0, 1) := by decide +kernel
theorem dX8_of_37 : decode cX8_of 37 = .ok (.getfield 28, 3) := by decide +kernel
theorem dX8_of_40 : decode cX8_of 40 = .ok (.iconst 3, 1) := by decide +kernel
theorem dX8_of_41 : decode cX8_of 41 = .ok (.iload_n 1, 1) := by decide +kernel
theorem dX8_of_42 : decode cX8_of 42 = .ok (.iadd, 1) := by decide +kernel
theorem dX8_of_43 : decode cX8_of 43 = .ok (.iaload, 1) := by decide +kernel
theorem dX8_of_44 : decode cX8_of 44 = .ok (.ireturn, 1) := by decide +kernel
theorem dX8_of_45 : decode cX8_of 45 = .ok (.aload_n 0, 1) := by decide +kernel
theorem dX8_of_46 : decode cX8_of 46 = .ok (.getfield 28, 3) := by decide +kernel
theorem dX8_of_49 : decode cX8_of 49 = .ok (.iconst 0, 1) := by decide +kernel
theorem dX8_of_50 : decode cX8_of 50 = .ok (.iaload, 1) := by decide +kernel
theorem dX8_of_51 : decode cX8_of 51 = .ok (.iload_n 1, 1) := by decide +kernel
theorem dX8_of_52 : decode cX8_of 52 = .ok (.ishr, 1) := by decide +kernel
theorem dX8_of_53 : decode cX8_of 53 = .ok (.iconst 1, 1) := by decide +kernel
theorem dX8_of_54 : decode cX8_of 54 = .ok (.iand, 1) := by decide +kernel
theorem dX8_of_55 : decode cX8_of 55 = .ok (.ireturn, 1) := by decide +kernel
theorem dX8_of_56 : decode cX8_of 56 = .ok (.iconst (-1), 1) := by decide +kernel
theorem dX8_of_57 : decode cX8_of 57 = .ok (.ireturn, 1) := by decide +kernel
theorem dX8_rhyme_0 : decode cX8_rhyme 0 = .ok (.iload_n 1, 1) := by decide +kernel
theorem dX8_rhyme_1 : decode cX8_rhyme 1 = .ok (.iconst 1, 1) := by decide +kernel
theorem dX8_rhyme_2 : decode cX8_rhyme 2 = .ok (.bipush 15, 2) := by decide +kernel
theorem dX8_rhyme_4 : decode cX8_rhyme 4 = .ok (.invokestatic 115, 3) := by decide +kernel
theorem dX8_rhyme_7 : decode cX8_rhyme 7 = .ok (.ifCond .ne 9, 3) := by decide +kernel
theorem dX8_rhyme_10 : decode cX8_rhyme 10 = .ok (.aload_n 0, 1) := by decide +kernel
theorem dX8_rhyme_11 : decode cX8_rhyme 11 = .ok (.iconst (-1), 1) := by decide +kernel
theorem dX8_rhyme_12 : decode cX8_rhyme 12 = .ok (.invokevirtual 119, 3) := by decide +kernel
theorem dX8_rhyme_15 : decode cX8_rhyme 15 = .ok (.ireturn, 1) := by decide +kernel
theorem dX8_rhyme_16 : decode cX8_rhyme 16 = .ok (.aload_n 0, 1) := by decide +kernel
theorem dX8_rhyme_17 : decode cX8_rhyme 17 = .ok (.getfield 28, 3) := by decide +kernel
theorem dX8_rhyme_20 : decode cX8_rhyme 20 = .ok (.bipush 17, 2) := by decide +kernel
theorem dX8_rhyme_22 : decode cX8_rhyme 22 = .ok (.iaload, 1) := by decide +kernel
theorem dX8_rhyme_23 : decode cX8_rhyme 23 = .ok (.istore_n 2, 1) := by decide +kernel
theorem dX8_rhyme_24 : decode cX8_rhyme 24 = .ok (.iload_n 2, 1) := by decide +kernel
theorem dX8_rhyme_25 : decode cX8_rhyme 25 = .ok (.iconst 5, 1) := by decide +kernel
theorem dX8_rhyme_26 : decode cX8_rhyme 26 = .ok (.if_icmp .ne 10, 3) := by decide +kernel
theorem dX8_rhyme_29 : decode cX8_rhyme 29 = .ok (.aload_n 0, 1) := by decide +kernel
theorem dX8_rhyme_30 : decode cX8_rhyme 30 = .ok (.bipush (-5), 2) := by decide +kernel
theorem dX8_rhyme_32 : decode cX8_rhyme 32 = .ok (.invokevirtual 119, 3) := by decide +kernel
theorem dX8_rhyme_35 : decode cX8_rhyme 35 = .ok (.ireturn, 1) := by decide +kernel
theorem dX8_rhyme_36 : decode cX8_rhyme 36 = .ok (.aload_n 0, 1) := by decide +kernel
theorem dX8_rhyme_37 : decode cX8_rhyme 37 = .ok (.getfield 28, 3) := by decide +kernel
theorem dX8_rhyme_40 : decode cX8_rhyme 40 = .ok (.bipush 9, 2) := by decide +kernel
theorem dX8_rhyme_42 : decode cX8_rhyme 42 = .ok (.iload_n 2, 1) := by decide +kernel
theorem dX8_rhyme_43 : decode cX8_rhyme 43 = .ok (.iadd, 1) := by decide +kernel
theorem dX8_rhyme_44 : decode cX8_rhyme 44 = .ok (.iload_n 1, 1) := by decide +kernel
theorem dX8_rhyme_45 : decode cX8_rhyme 45 = .ok (.iastore, 1) := by decide +kernel
theorem dX8_rhyme_46 : decode cX8_rhyme 46 = .ok (.aload_n 0, 1) := by decide +kernel
theorem dX8_rhyme_47 : decode cX8_rhyme 47 = .ok (.getfield 28, 3) := by decide +kernel
theorem dX8_rhyme_50 : decode cX8_rhyme 50 = .ok (.bipush 17, 2) := by decide +kernel
theorem dX8_rhyme_52 : decode cX8_rhyme 52 = .ok (.dup2, 1) := by decide +kernel
theorem dX8_rhyme_53 : decode cX8_rhyme 53 = .ok (.iaload, 1) := by decide +kernel
theorem dX8_rhyme_54 : decode cX8_rhyme 54 = .ok (.iconst 1, 1) := by decide +kernel
theorem dX8_rhyme_55 : decode cX8_rhyme 55 = .ok (.iadd, 1) := by decide +kernel
theorem dX8_rhyme_56 : decode cX8_rhyme 56 = .ok (.iastore, 1) := by decide +kernel
theorem dX8_rhyme_57 : decode cX8_rhyme 57 = .ok (.aload_n 0, 1) := by decide +kernel
theorem dX8_rhyme_58 : decode cX8_rhyme 58 = .ok (.iload_n 2, 1) := by decide +kernel
theorem dX8_rhyme_59 : decode cX8_rhyme 59 = .ok (.invokevirtual 122, 3) := by decide +kernel
theorem dX8_rhyme_62 : decode cX8_rhyme 62 = .ok (.ireturn, 1) := by decide +kernel
theorem dX8_beats_0 : decode cX8_beats 0 = .ok (.aload_n 0, 1) := by decide +kernel
theorem dX8_beats_1 : decode cX8_beats 1 = .ok (.iload_n 1, 1) := by decide +kernel
theorem dX8_beats_2 : decode cX8_beats 2 = .ok (.invokevirtual 136, 3) := by decide +kernel
theorem dX8_beats_5 : decode cX8_beats 5 = .ok (.ifCond .eq 15, 3) := by decide +kernel
theorem dX8_beats_8 : decode cX8_beats 8 = .ok (.aload_n 0, 1) := by decide +kernel
theorem dX8_beats_9 : decode cX8_beats 9 = .ok (.getfield 28, 3) := by decide +kernel
theorem dX8_beats_12 : decode cX8_beats 12 = .ok (.bipush 9, 2) := by decide +kernel
theorem dX8_beats_14 : decode cX8_beats 14 = .ok (.iload_n 1, 1) := by decide +kernel
theorem dX8_beats_15 : decode cX8_beats 15 = .ok (.iadd, 1) := by decide +kernel
theorem dX8_beats_16 : decode cX8_beats 16 = .ok (.iaload, 1) := by decide +kernel
theorem dX8_beats_17 : decode cX8_beats 17 = .ok (.goto 4, 3) := by decide +kernel
theorem dX8_beats_20 : decode cX8_beats 20 = .ok (.iconst (-1), 1) := by decide +kernel
theorem dX8_beats_21 : decode cX8_beats 21 = .ok (.ireturn, 1) := by decide +kernel
theorem dX8_isTerm_0 : decode cX8_isTerm 0 = .ok (.iload_n 0, 1) := by decide +kernel
theorem dX8_isTerm_1 : decode cX8_isTerm 1 = .ok (.tableswitch 63 0 3 #[31, 40, 47, 55], 31) := by decide +kernel
theorem dX8_isTerm_32 : decode cX8_isTerm 32 = .ok (.iload_n 1, 1) := by decide +kernel
theorem dX8_isTerm_33 : decode cX8_isTerm 33 = .ok (.iconst 0, 1) := by decide +kernel
theorem dX8_isTerm_34 : decode cX8_isTerm 34 = .ok (.sipush 999, 3) := by decide +kernel
theorem dX8_isTerm_37 : decode cX8_isTerm 37 = .ok (.invokestatic 115, 3) := by decide +kernel
theorem dX8_isTerm_40 : decode cX8_isTerm 40 = .ok (.ireturn, 1) := by decide +kernel
theorem dX8_isTerm_41 : decode cX8_isTerm 41 = .ok (.iload_n 1, 1) := by decide +kernel
theorem dX8_isTerm_42 : decode cX8_isTerm 42 = .ok (.iconst 0, 1) := by decide +kernel
theorem dX8_isTerm_43 : decode cX8_isTerm 43 = .ok (.iconst 5, 1) := by decide +kernel
theorem dX8_isTerm_44 : decode cX8_isTerm 44 = .ok (.invokestatic 115, 3) := by decide +kernel
theorem dX8_isTerm_47 : decode cX8_isTerm 47 = .ok (.ireturn, 1) := by decide +kernel
theorem dX8_isTerm_48 : decode cX8_isTerm 48 = .ok (.iload_n 1, 1) := by decide +kernel
theorem dX8_isTerm_49 : decode cX8_isTerm 49 = .ok (.iconst 0, 1) := by decide +kernel
theorem dX8_isTerm_50 : decode cX8_isTerm 50 = .ok (.bipush 10, 2) := by decide +kernel
theorem dX8_isTerm_52 : decode cX8_isTerm 52 = .ok (.invokestatic 115, 3) := by decide +kernel
theorem dX8_isTerm_55 : decode cX8_isTerm 55 = .ok (.ireturn, 1) := by decide +kernel
theorem dX8_isTerm_56 : decode cX8_isTerm 56 = .ok (.iload_n 1, 1) := by decide +kernel
theorem dX8_isTerm_57 : decode cX8_isTerm 57 = .ok (.iconst 0, 1) := by decide +kernel
theorem dX8_isTerm_58 : decode cX8_isTerm 58 = .ok (.bipush 9, 2) := by decide +kernel
theorem dX8_isTerm_60 : decode cX8_isTerm 60 = .ok (.invokestatic 115, 3) := by decide +kernel
theorem dX8_isTerm_63 : decode cX8_isTerm 63 = .ok (.ireturn, 1) := by decide +kernel
theorem dX8_isTerm_64 : decode cX8_isTerm 64 = .ok (.iconst 0, 1) := by decide +kernel
theorem dX8_isTerm_65 : decode cX8_isTerm 65 = .ok (.ireturn, 1) := by decide +kernel
theorem dX8_termAt_0 : decode cX8_termAt 0 = .ok (.iload_n 0, 1) := by decide +kernel
theorem dX8_termAt_1 : decode cX8_termAt 1 = .ok (.tableswitch 34 0 2 #[27, 29, 31], 27) := by decide +kernel
theorem dX8_termAt_28 : decode cX8_termAt 28 = .ok (.iconst 2, 1) := by decide +kernel
theorem dX8_termAt_29 : decode cX8_termAt 29 = .ok (.ireturn, 1) := by decide +kernel
theorem dX8_termAt_30 : decode cX8_termAt 30 = .ok (.iconst 1, 1) := by decide +kernel
theorem dX8_termAt_31 : decode cX8_termAt 31 = .ok (.ireturn, 1) := by decide +kernel
theorem dX8_termAt_32 : decode cX8_termAt 32 = .ok (.bipush 14, 2) := by decide +kernel
theorem dX8_termAt_34 : decode cX8_termAt 34 = .ok (.ireturn, 1) := by decide +kernel
theorem dX8_termAt_35 : decode cX8_termAt 35 = .ok (.bipush 15, 2) := by decide +kernel
theorem dX8_termAt_37 : decode cX8_termAt 37 = .ok (.ireturn, 1) := by decide +kernel
theorem dX8_terms_0 : decode cX8_terms 0 = .ok (.iload_n 1, 1) := by decide +kernel
theorem dX8_terms_1 : decode cX8_terms 1 = .ok (.iload_n 2, 1) := by decide +kernel
theorem dX8_terms_2 : decode cX8_terms 2 = .ok (.invokestatic 139, 3) := by decide +kernel
theorem dX8_terms_5 : decode cX8_terms 5 = .ok (.ifCond .ne 9, 3) := by decide +kernel
theorem dX8_terms_8 : decode cX8_terms 8 = .ok (.aload_n 0, 1) := by decide +kernel
theorem dX8_terms_9 : decode cX8_terms 9 = .ok (.iconst (-1), 1) := by decide +kernel
theorem dX8_terms_10 : decode cX8_terms 10 = .ok (.invokevirtual 119, 3) := by decide +kernel
theorem dX8_terms_13 : decode cX8_terms 13 = .ok (.ireturn, 1) := by decide +kernel
theorem dX8_terms_14 : decode cX8_terms 14 = .ok (.aload_n 0, 1) := by decide +kernel
theorem dX8_terms_15 : decode cX8_terms 15 = .ok (.getfield 28, 3) := by decide +kernel
theorem dX8_terms_18 : decode cX8_terms 18 = .ok (.iload_n 1, 1) := by decide +kernel
theorem dX8_terms_19 : decode cX8_terms 19 = .ok (.invokestatic 142, 3) := by decide +kernel
theorem dX8_terms_22 : decode cX8_terms 22 = .ok (.iaload, 1) := by decide +kernel
theorem dX8_terms_23 : decode cX8_terms 23 = .ok (.istore_n 3, 1) := by decide +kernel
theorem dX8_terms_24 : decode cX8_terms 24 = .ok (.aload_n 0, 1) := by decide +kernel
theorem dX8_terms_25 : decode cX8_terms 25 = .ok (.getfield 28, 3) := by decide +kernel
theorem dX8_terms_28 : decode cX8_terms 28 = .ok (.iload_n 1, 1) := by decide +kernel
theorem dX8_terms_29 : decode cX8_terms 29 = .ok (.invokestatic 142, 3) := by decide +kernel
theorem dX8_terms_32 : decode cX8_terms 32 = .ok (.iload_n 2, 1) := by decide +kernel
theorem dX8_terms_33 : decode cX8_terms 33 = .ok (.iastore, 1) := by decide +kernel
theorem dX8_terms_34 : decode cX8_terms 34 = .ok (.aload_n 0, 1) := by decide +kernel
theorem dX8_terms_35 : decode cX8_terms 35 = .ok (.iload_n 3, 1) := by decide +kernel
theorem dX8_terms_36 : decode cX8_terms 36 = .ok (.invokevirtual 122, 3) := by decide +kernel
theorem dX8_terms_39 : decode cX8_terms 39 = .ok (.ireturn, 1) := by decide +kernel
theorem dX8_row_0 : decode cX8_row 0 = .ok (.aload_n 0, 1) := by decide +kernel
theorem dX8_row_1 : decode cX8_row 1 = .ok (.getfield 145, 3) := by decide +kernel
theorem dX8_row_4 : decode cX8_row 4 = .ok (.istore_n 1, 1) := by decide +kernel
theorem dX8_row_5 : decode cX8_row 5 = .ok (.aload_n 0, 1) := by decide +kernel
theorem dX8_row_6 : decode cX8_row 6 = .ok (.iconst 0, 1) := by decide +kernel
theorem dX8_row_7 : decode cX8_row 7 = .ok (.putfield 145, 3) := by decide +kernel
theorem dX8_row_10 : decode cX8_row 10 = .ok (.iload_n 1, 1) := by decide +kernel
theorem dX8_row_11 : decode cX8_row 11 = .ok (.ifCond .ne 10, 3) := by decide +kernel
theorem dX8_row_14 : decode cX8_row 14 = .ok (.aload_n 0, 1) := by decide +kernel
theorem dX8_row_15 : decode cX8_row 15 = .ok (.bipush (-6), 2) := by decide +kernel
theorem dX8_row_17 : decode cX8_row 17 = .ok (.invokevirtual 119, 3) := by decide +kernel
theorem dX8_row_20 : decode cX8_row 20 = .ok (.ireturn, 1) := by decide +kernel
theorem dX8_row_21 : decode cX8_row 21 = .ok (.iconst 0, 1) := by decide +kernel
theorem dX8_row_22 : decode cX8_row 22 = .ok (.istore_n 2, 1) := by decide +kernel
theorem dX8_row_23 : decode cX8_row 23 = .ok (.aload_n 0, 1) := by decide +kernel
theorem dX8_row_24 : decode cX8_row 24 = .ok (.iconst 0, 1) := by decide +kernel
theorem dX8_row_25 : decode cX8_row 25 = .ok (.putfield 148, 3) := by decide +kernel
theorem dX8_row_28 : decode cX8_row 28 = .ok (.iconst 0, 1) := by decide +kernel
theorem dX8_row_29 : decode cX8_row 29 = .ok (.istore_n 3, 1) := by decide +kernel
theorem dX8_row_30 : decode cX8_row 30 = .ok (.iload_n 3, 1) := by decide +kernel
theorem dX8_row_31 : decode cX8_row 31 = .ok (.iload_n 1, 1) := by decide +kernel
theorem dX8_row_32 : decode cX8_row 32 = .ok (.if_icmp .ge 90, 3) := by decide +kernel
theorem dX8_row_35 : decode cX8_row 35 = .ok (.aload_n 0, 1) := by decide +kernel
theorem dX8_row_36 : decode cX8_row 36 = .ok (.getfield 28, 3) := by decide +kernel
theorem dX8_row_39 : decode cX8_row 39 = .ok (.bipush 16, 2) := by decide +kernel
theorem dX8_row_41 : decode cX8_row 41 = .ok (.iaload, 1) := by decide +kernel
theorem dX8_row_42 : decode cX8_row 42 = .ok (.bipush 6, 2) := by decide +kernel
theorem dX8_row_44 : decode cX8_row 44 = .ok (.if_icmp .ge 22, 3) := by decide +kernel
theorem dX8_row_47 : decode cX8_row 47 = .ok (.aload_n 0, 1) := by decide +kernel
theorem dX8_row_48 : decode cX8_row 48 = .ok (.getfield 45, 3) := by decide +kernel
theorem dX8_row_51 : decode cX8_row 51 = .ok (.iload_n 3, 1) := by decide +kernel
theorem dX8_row_52 : decode cX8_row 52 = .ok (.baload, 1) := by decide +kernel
theorem dX8_row_53 : decode cX8_row 53 = .ok (.iconst 0, 1) := by decide +kernel
theorem dX8_row_54 : decode cX8_row 54 = .ok (.bipush 9, 2) := by decide +kernel
theorem dX8_row_56 : decode cX8_row 56 = .ok (.invokestatic 115, 3) := by decide +kernel
theorem dX8_row_59 : decode cX8_row 59 = .ok (.ifCond .eq 7, 3) := by decide +kernel
theorem dX8_row_62 : decode cX8_row 62 = .ok (.iconst 1, 1) := by decide +kernel
theorem dX8_row_63 : decode cX8_row 63 = .ok (.goto 4, 3) := by decide +kernel
theorem dX8_row_66 : decode cX8_row 66 = .ok (.iconst 0, 1) := by decide +kernel
theorem dX8_row_67 : decode cX8_row 67 = .ok (.istore 4, 2) := by decide +kernel
theorem dX8_row_69 : decode cX8_row 69 = .ok (.iload 4, 2) := by decide +kernel
theorem dX8_row_71 : decode cX8_row 71 = .ok (.ifCond .eq 13, 3) := by decide +kernel
theorem dX8_row_74 : decode cX8_row 74 = .ok (.aload_n 0, 1) := by decide +kernel
theorem dX8_row_75 : decode cX8_row 75 = .ok (.aload_n 0, 1) := by decide +kernel
theorem dX8_row_76 : decode cX8_row 76 = .ok (.getfield 45, 3) := by decide +kernel
theorem dX8_row_79 : decode cX8_row 79 = .ok (.iload_n 3, 1) := by decide +kernel
theorem dX8_row_80 : decode cX8_row 80 = .ok (.baload, 1) := by decide +kernel
theorem dX8_row_81 : decode cX8_row 81 = .ok (.invokevirtual 128, 3) := by decide +kernel
theorem dX8_row_84 : decode cX8_row 84 = .ok (.iload_n 2, 1) := by decide +kernel
theorem dX8_row_85 : decode cX8_row 85 = .ok (.iload 4, 2) := by decide +kernel
theorem dX8_row_87 : decode cX8_row 87 = .ok (.ifCond .eq 7, 3) := by decide +kernel
theorem dX8_row_90 : decode cX8_row 90 = .ok (.iconst 1, 1) := by decide +kernel
theorem dX8_row_91 : decode cX8_row 91 = .ok (.goto 4, 3) := by decide +kernel
theorem dX8_row_94 : decode cX8_row 94 = .ok (.iconst 0, 1) := by decide +kernel
theorem dX8_row_95 : decode cX8_row 95 = .ok (.iadd, 1) := by decide +kernel
theorem dX8_row_96 : decode cX8_row 96 = .ok (.istore_n 2, 1) := by decide +kernel
theorem dX8_row_97 : decode cX8_row 97 = .ok (.aload_n 0, 1) := by decide +kernel
theorem dX8_row_98 : decode cX8_row 98 = .ok (.dup, 1) := by decide +kernel
theorem dX8_row_99 : decode cX8_row 99 = .ok (.getfield 148, 3) := by decide +kernel
theorem dX8_row_102 : decode cX8_row 102 = .ok (.iload 4, 2) := by decide +kernel
theorem dX8_row_104 : decode cX8_row 104 = .ok (.ifCond .eq 7, 3) := by decide +kernel
theorem dX8_row_107 : decode cX8_row 107 = .ok (.iconst 0, 1) := by decide +kernel
theorem dX8_row_108 : decode cX8_row 108 = .ok (.goto 4, 3) := by decide +kernel
theorem dX8_row_111 : decode cX8_row 111 = .ok (.iconst 1, 1) := by decide +kernel
theorem dX8_row_112 : decode cX8_row 112 = .ok (.iadd, 1) := by decide +kernel
theorem dX8_row_113 : decode cX8_row 113 = .ok (.putfield 148, 3) := by decide +kernel
theorem dX8_row_116 : decode cX8_row 116 = .ok (.iinc 3 1, 3) := by decide +kernel
theorem dX8_row_119 : decode cX8_row 119 = .ok (.goto (-89), 3) := by decide +kernel
theorem dX8_row_122 : decode cX8_row 122 = .ok (.aload_n 0, 1) := by decide +kernel
theorem dX8_row_123 : decode cX8_row 123 = .ok (.iload_n 2, 1) := by decide +kernel
theorem dX8_row_124 : decode cX8_row 124 = .ok (.invokevirtual 122, 3) := by decide +kernel
theorem dX8_row_127 : decode cX8_row 127 = .ok (.ireturn, 1) := by decide +kernel
theorem dX8_lisps_0 : decode cX8_lisps 0 = .ok (.aload_n 0, 1) := by decide +kernel
theorem dX8_lisps_1 : decode cX8_lisps 1 = .ok (.getfield 148, 3) := by decide +kernel
theorem dX8_lisps_4 : decode cX8_lisps 4 = .ok (.ireturn, 1) := by decide +kernel
theorem dX8_feed_0 : decode cX8_feed 0 = .ok (.aload_n 0, 1) := by decide +kernel
theorem dX8_feed_1 : decode cX8_feed 1 = .ok (.getfield 145, 3) := by decide +kernel
theorem dX8_feed_4 : decode cX8_feed 4 = .ok (.bipush 20, 2) := by decide +kernel
theorem dX8_feed_6 : decode cX8_feed 6 = .ok (.iadd, 1) := by decide +kernel
theorem dX8_feed_7 : decode cX8_feed 7 = .ok (.sipush 400, 3) := by decide +kernel
theorem dX8_feed_10 : decode cX8_feed 10 = .ok (.if_icmp .le 5, 3) := by decide +kernel
theorem dX8_feed_13 : decode cX8_feed 13 = .ok (.iconst (-1), 1) := by decide +kernel
theorem dX8_feed_14 : decode cX8_feed 14 = .ok (.ireturn, 1) := by decide +kernel
theorem dX8_feed_15 : decode cX8_feed 15 = .ok (.aload_n 0, 1) := by decide +kernel
theorem dX8_feed_16 : decode cX8_feed 16 = .ok (.getfield 48, 3) := by decide +kernel
theorem dX8_feed_19 : decode cX8_feed 19 = .ok (.iconst 0, 1) := by decide +kernel
theorem dX8_feed_20 : decode cX8_feed 20 = .ok (.iload_n 1, 1) := by decide +kernel
theorem dX8_feed_21 : decode cX8_feed 21 = .ok (.iastore, 1) := by decide +kernel
theorem dX8_feed_22 : decode cX8_feed 22 = .ok (.aload_n 0, 1) := by decide +kernel
theorem dX8_feed_23 : decode cX8_feed 23 = .ok (.getfield 48, 3) := by decide +kernel
theorem dX8_feed_26 : decode cX8_feed 26 = .ok (.iconst 1, 1) := by decide +kernel
theorem dX8_feed_27 : decode cX8_feed 27 = .ok (.iload_n 2, 1) := by decide +kernel
theorem dX8_feed_28 : decode cX8_feed 28 = .ok (.iastore, 1) := by decide +kernel
theorem dX8_feed_29 : decode cX8_feed 29 = .ok (.aload_n 0, 1) := by decide +kernel
theorem dX8_feed_30 : decode cX8_feed 30 = .ok (.getfield 48, 3) := by decide +kernel
theorem dX8_feed_33 : decode cX8_feed 33 = .ok (.iconst 2, 1) := by decide +kernel
theorem dX8_feed_34 : decode cX8_feed 34 = .ok (.iload_n 3, 1) := by decide +kernel
theorem dX8_feed_35 : decode cX8_feed 35 = .ok (.iastore, 1) := by decide +kernel
theorem dX8_feed_36 : decode cX8_feed 36 = .ok (.aload_n 0, 1) := by decide +kernel
theorem dX8_feed_37 : decode cX8_feed 37 = .ok (.getfield 48, 3) := by decide +kernel
theorem dX8_feed_40 : decode cX8_feed 40 = .ok (.iconst 3, 1) := by decide +kernel
theorem dX8_feed_41 : decode cX8_feed 41 = .ok (.iload 4, 2) := by decide +kernel
theorem dX8_feed_43 : decode cX8_feed 43 = .ok (.iastore, 1) := by decide +kernel
theorem dX8_feed_44 : decode cX8_feed 44 = .ok (.aload_n 0, 1) := by decide +kernel
theorem dX8_feed_45 : decode cX8_feed 45 = .ok (.getfield 48, 3) := by decide +kernel
theorem dX8_feed_48 : decode cX8_feed 48 = .ok (.iconst 4, 1) := by decide +kernel
theorem dX8_feed_49 : decode cX8_feed 49 = .ok (.iload 5, 2) := by decide +kernel
theorem dX8_feed_51 : decode cX8_feed 51 = .ok (.iastore, 1) := by decide +kernel
theorem dX8_feed_52 : decode cX8_feed 52 = .ok (.iconst 0, 1) := by decide +kernel
theorem dX8_feed_53 : decode cX8_feed 53 = .ok (.istore 6, 2) := by decide +kernel
theorem dX8_feed_55 : decode cX8_feed 55 = .ok (.iload 6, 2) := by decide +kernel
theorem dX8_feed_57 : decode cX8_feed 57 = .ok (.bipush 20, 2) := by decide +kernel
theorem dX8_feed_59 : decode cX8_feed 59 = .ok (.if_icmp .ge 42, 3) := by decide +kernel
theorem dX8_feed_62 : decode cX8_feed 62 = .ok (.aload_n 0, 1) := by decide +kernel
theorem dX8_feed_63 : decode cX8_feed 63 = .ok (.getfield 45, 3) := by decide +kernel
theorem dX8_feed_66 : decode cX8_feed 66 = .ok (.aload_n 0, 1) := by decide +kernel
theorem dX8_feed_67 : decode cX8_feed 67 = .ok (.getfield 145, 3) := by decide +kernel
theorem dX8_feed_70 : decode cX8_feed 70 = .ok (.iload 6, 2) := by decide +kernel
theorem dX8_feed_72 : decode cX8_feed 72 = .ok (.iadd, 1) := by decide +kernel
theorem dX8_feed_73 : decode cX8_feed 73 = .ok (.aload_n 0, 1) := by decide +kernel
theorem dX8_feed_74 : decode cX8_feed 74 = .ok (.getfield 48, 3) := by decide +kernel
theorem dX8_feed_77 : decode cX8_feed 77 = .ok (.iload 6, 2) := by decide +kernel
theorem dX8_feed_79 : decode cX8_feed 79 = .ok (.iconst 4, 1) := by decide +kernel
theorem dX8_feed_80 : decode cX8_feed 80 = .ok (.idiv, 1) := by decide +kernel
theorem dX8_feed_81 : decode cX8_feed 81 = .ok (.iaload, 1) := by decide +kernel
theorem dX8_feed_82 : decode cX8_feed 82 = .ok (.bipush 24, 2) := by decide +kernel
theorem dX8_feed_84 : decode cX8_feed 84 = .ok (.bipush 8, 2) := by decide +kernel
theorem dX8_feed_86 : decode cX8_feed 86 = .ok (.iload 6, 2) := by decide +kernel
theorem dX8_feed_88 : decode cX8_feed 88 = .ok (.iconst 4, 1) := by decide +kernel
theorem dX8_feed_89 : decode cX8_feed 89 = .ok (.irem, 1) := by decide +kernel
theorem dX8_feed_90 : decode cX8_feed 90 = .ok (.imul, 1) := by decide +kernel
theorem dX8_feed_91 : decode cX8_feed 91 = .ok (.isub, 1) := by decide +kernel
theorem dX8_feed_92 : decode cX8_feed 92 = .ok (.ishr, 1) := by decide +kernel
theorem dX8_feed_93 : decode cX8_feed 93 = .ok (.i2b, 1) := by decide +kernel
theorem dX8_feed_94 : decode cX8_feed 94 = .ok (.bastore, 1) := by decide +kernel
theorem dX8_feed_95 : decode cX8_feed 95 = .ok (.iinc 6 1, 3) := by decide +kernel
theorem dX8_feed_98 : decode cX8_feed 98 = .ok (.goto (-43), 3) := by decide +kernel
theorem dX8_feed_101 : decode cX8_feed 101 = .ok (.aload_n 0, 1) := by decide +kernel
theorem dX8_feed_102 : decode cX8_feed 102 = .ok (.dup, 1) := by decide +kernel
theorem dX8_feed_103 : decode cX8_feed 103 = .ok (.getfield 145, 3) := by decide +kernel
theorem dX8_feed_106 : decode cX8_feed 106 = .ok (.bipush 20, 2) := by decide +kernel
theorem dX8_feed_108 : decode cX8_feed 108 = .ok (.iadd, 1) := by decide +kernel
theorem dX8_feed_109 : decode cX8_feed 109 = .ok (.putfield 145, 3) := by decide +kernel
theorem dX8_feed_112 : decode cX8_feed 112 = .ok (.aload_n 0, 1) := by decide +kernel
theorem dX8_feed_113 : decode cX8_feed 113 = .ok (.getfield 145, 3) := by decide +kernel
theorem dX8_feed_116 : decode cX8_feed 116 = .ok (.ireturn, 1) := by decide +kernel
theorem dX8_end_0 : decode cX8_end 0 = .ok (.iload_n 1, 1) := by decide +kernel
theorem dX8_end_1 : decode cX8_end 1 = .ok (.iconst 0, 1) := by decide +kernel
theorem dX8_end_2 : decode cX8_end 2 = .ok (.aload_n 0, 1) := by decide +kernel
theorem dX8_end_3 : decode cX8_end 3 = .ok (.getfield 145, 3) := by decide +kernel
theorem dX8_end_6 : decode cX8_end 6 = .ok (.invokestatic 115, 3) := by decide +kernel
theorem dX8_end_9 : decode cX8_end 9 = .ok (.ifCond .ne 5, 3) := by decide +kernel
theorem dX8_end_12 : decode cX8_end 12 = .ok (.iconst (-1), 1) := by decide +kernel
theorem dX8_end_13 : decode cX8_end 13 = .ok (.ireturn, 1) := by decide +kernel
theorem dX8_end_14 : decode cX8_end 14 = .ok (.aload_n 0, 1) := by decide +kernel
theorem dX8_end_15 : decode cX8_end 15 = .ok (.iload_n 1, 1) := by decide +kernel
theorem dX8_end_16 : decode cX8_end 16 = .ok (.putfield 145, 3) := by decide +kernel
theorem dX8_end_19 : decode cX8_end 19 = .ok (.iload_n 1, 1) := by decide +kernel
theorem dX8_end_20 : decode cX8_end 20 = .ok (.ireturn, 1) := by decide +kernel
theorem dX8_isSmall_0 : decode cX8_isSmall 0 = .ok (.iload_n 0, 1) := by decide +kernel
theorem dX8_isSmall_1 : decode cX8_isSmall 1 = .ok (.bipush 97, 2) := by decide +kernel
theorem dX8_isSmall_3 : decode cX8_isSmall 3 = .ok (.if_icmp .lt 13, 3) := by decide +kernel
theorem dX8_isSmall_6 : decode cX8_isSmall 6 = .ok (.iload_n 0, 1) := by decide +kernel
theorem dX8_isSmall_7 : decode cX8_isSmall 7 = .ok (.bipush 122, 2) := by decide +kernel
theorem dX8_isSmall_9 : decode cX8_isSmall 9 = .ok (.if_icmp .gt 7, 3) := by decide +kernel
theorem dX8_isSmall_12 : decode cX8_isSmall 12 = .ok (.iconst 1, 1) := by decide +kernel
theorem dX8_isSmall_13 : decode cX8_isSmall 13 = .ok (.goto 4, 3) := by decide +kernel
theorem dX8_isSmall_16 : decode cX8_isSmall 16 = .ok (.iconst 0, 1) := by decide +kernel
theorem dX8_isSmall_17 : decode cX8_isSmall 17 = .ok (.ireturn, 1) := by decide +kernel
theorem dX8_isDigit_0 : decode cX8_isDigit 0 = .ok (.iload_n 0, 1) := by decide +kernel
theorem dX8_isDigit_1 : decode cX8_isDigit 1 = .ok (.bipush 48, 2) := by decide +kernel
theorem dX8_isDigit_3 : decode cX8_isDigit 3 = .ok (.if_icmp .lt 13, 3) := by decide +kernel
theorem dX8_isDigit_6 : decode cX8_isDigit 6 = .ok (.iload_n 0, 1) := by decide +kernel
theorem dX8_isDigit_7 : decode cX8_isDigit 7 = .ok (.bipush 57, 2) := by decide +kernel
theorem dX8_isDigit_9 : decode cX8_isDigit 9 = .ok (.if_icmp .gt 7, 3) := by decide +kernel
theorem dX8_isDigit_12 : decode cX8_isDigit 12 = .ok (.iconst 1, 1) := by decide +kernel
theorem dX8_isDigit_13 : decode cX8_isDigit 13 = .ok (.goto 4, 3) := by decide +kernel
theorem dX8_isDigit_16 : decode cX8_isDigit 16 = .ok (.iconst 0, 1) := by decide +kernel
theorem dX8_isDigit_17 : decode cX8_isDigit 17 = .ok (.ireturn, 1) := by decide +kernel
theorem dX8_wordOf_0 : decode cX8_wordOf 0 = .ok (.iconst 1, 1) := by decide +kernel
theorem dX8_wordOf_1 : decode cX8_wordOf 1 = .ok (.istore_n 3, 1) := by decide +kernel
theorem dX8_wordOf_2 : decode cX8_wordOf 2 = .ok (.iconst 0, 1) := by decide +kernel
theorem dX8_wordOf_3 : decode cX8_wordOf 3 = .ok (.istore 4, 2) := by decide +kernel
theorem dX8_wordOf_5 : decode cX8_wordOf 5 = .ok (.iload 4, 2) := by decide +kernel
theorem dX8_wordOf_7 : decode cX8_wordOf 7 = .ok (.aload_n 0, 1) := by decide +kernel
theorem dX8_wordOf_8 : decode cX8_wordOf 8 = .ok (.getfield 41, 3) := by decide +kernel
theorem dX8_wordOf_11 : decode cX8_wordOf 11 = .ok (.arraylength, 1) := by decide +kernel
theorem dX8_wordOf_12 : decode cX8_wordOf 12 = .ok (.if_icmp .ge 114, 3) := by decide +kernel
theorem dX8_wordOf_15 : decode cX8_wordOf 15 = .ok (.iconst 0, 1) := by decide +kernel
theorem dX8_wordOf_16 : decode cX8_wordOf 16 = .ok (.istore 5, 2) := by decide +kernel
theorem dX8_wordOf_18 : decode cX8_wordOf 18 = .ok (.aload_n 0, 1) := by decide +kernel
theorem dX8_wordOf_19 : decode cX8_wordOf 19 = .ok (.getfield 41, 3) := by decide +kernel
theorem dX8_wordOf_22 : decode cX8_wordOf 22 = .ok (.iload 4, 2) := by decide +kernel
theorem dX8_wordOf_24 : decode cX8_wordOf 24 = .ok (.iload 5, 2) := by decide +kernel
theorem dX8_wordOf_26 : decode cX8_wordOf 26 = .ok (.iadd, 1) := by decide +kernel
theorem dX8_wordOf_27 : decode cX8_wordOf 27 = .ok (.baload, 1) := by decide +kernel
theorem dX8_wordOf_28 : decode cX8_wordOf 28 = .ok (.bipush 32, 2) := by decide +kernel
theorem dX8_wordOf_30 : decode cX8_wordOf 30 = .ok (.if_icmp .eq 9, 3) := by decide +kernel
theorem dX8_wordOf_33 : decode cX8_wordOf 33 = .ok (.iinc 5 1, 3) := by decide +kernel
theorem dX8_wordOf_36 : decode cX8_wordOf 36 = .ok (.goto (-18), 3) := by decide +kernel
theorem dX8_wordOf_39 : decode cX8_wordOf 39 = .ok (.iload 5, 2) := by decide +kernel
theorem dX8_wordOf_41 : decode cX8_wordOf 41 = .ok (.iload_n 2, 1) := by decide +kernel
theorem dX8_wordOf_42 : decode cX8_wordOf 42 = .ok (.iload_n 1, 1) := by decide +kernel
theorem dX8_wordOf_43 : decode cX8_wordOf 43 = .ok (.isub, 1) := by decide +kernel
theorem dX8_wordOf_44 : decode cX8_wordOf 44 = .ok (.if_icmp .ne 7, 3) := by decide +kernel
theorem dX8_wordOf_47 : decode cX8_wordOf 47 = .ok (.iconst 1, 1) := by decide +kernel
theorem dX8_wordOf_48 : decode cX8_wordOf 48 = .ok (.goto 4, 3) := by decide +kernel
theorem dX8_wordOf_51 : decode cX8_wordOf 51 = .ok (.iconst 0, 1) := by decide +kernel
theorem dX8_wordOf_52 : decode cX8_wordOf 52 = .ok (.istore 6, 2) := by decide +kernel
theorem dX8_wordOf_54 : decode cX8_wordOf 54 = .ok (.iconst 0, 1) := by decide +kernel
theorem dX8_wordOf_55 : decode cX8_wordOf 55 = .ok (.istore 7, 2) := by decide +kernel
theorem dX8_wordOf_57 : decode cX8_wordOf 57 = .ok (.iload 7, 2) := by decide +kernel
theorem dX8_wordOf_59 : decode cX8_wordOf 59 = .ok (.iload 5, 2) := by decide +kernel
theorem dX8_wordOf_61 : decode cX8_wordOf 61 = .ok (.if_icmp .ge 43, 3) := by decide +kernel
theorem dX8_wordOf_64 : decode cX8_wordOf 64 = .ok (.iload 6, 2) := by decide +kernel
theorem dX8_wordOf_66 : decode cX8_wordOf 66 = .ok (.ifCond .eq 38, 3) := by decide +kernel
theorem dX8_wordOf_69 : decode cX8_wordOf 69 = .ok (.aload_n 0, 1) := by decide +kernel
theorem dX8_wordOf_70 : decode cX8_wordOf 70 = .ok (.getfield 41, 3) := by decide +kernel
theorem dX8_wordOf_73 : decode cX8_wordOf 73 = .ok (.iload 4, 2) := by decide +kernel
theorem dX8_wordOf_75 : decode cX8_wordOf 75 = .ok (.iload 7, 2) := by decide +kernel
theorem dX8_wordOf_77 : decode cX8_wordOf 77 = .ok (.iadd, 1) := by decide +kernel
theorem dX8_wordOf_78 : decode cX8_wordOf 78 = .ok (.baload, 1) := by decide +kernel
theorem dX8_wordOf_79 : decode cX8_wordOf 79 = .ok (.aload_n 0, 1) := by decide +kernel
theorem dX8_wordOf_80 : decode cX8_wordOf 80 = .ok (.getfield 45, 3) := by decide +kernel
theorem dX8_wordOf_83 : decode cX8_wordOf 83 = .ok (.iload_n 1, 1) := by decide +kernel
theorem dX8_wordOf_84 : decode cX8_wordOf 84 = .ok (.iload 7, 2) := by decide +kernel
theorem dX8_wordOf_86 : decode cX8_wordOf 86 = .ok (.iadd, 1) := by decide +kernel
theorem dX8_wordOf_87 : decode cX8_wordOf 87 = .ok (.baload, 1) := by decide +kernel
theorem dX8_wordOf_88 : decode cX8_wordOf 88 = .ok (.if_icmp .ne 7, 3) := by decide +kernel
theorem dX8_wordOf_91 : decode cX8_wordOf 91 = .ok (.iconst 1, 1) := by decide +kernel
theorem dX8_wordOf_92 : decode cX8_wordOf 92 = .ok (.goto 4, 3) := by decide +kernel
theorem dX8_wordOf_95 : decode cX8_wordOf 95 = .ok (.iconst 0, 1) := by decide +kernel
theorem dX8_wordOf_96 : decode cX8_wordOf 96 = .ok (.istore 6, 2) := by decide +kernel
theorem dX8_wordOf_98 : decode cX8_wordOf 98 = .ok (.iinc 7 1, 3) := by decide +kernel
theorem dX8_wordOf_101 : decode cX8_wordOf 101 = .ok (.goto (-44), 3) := by decide +kernel
theorem dX8_wordOf_104 : decode cX8_wordOf 104 = .ok (.iload 6, 2) := by decide +kernel
theorem dX8_wordOf_106 : decode cX8_wordOf 106 = .ok (.ifCond .eq 5, 3) := by decide +kernel
theorem dX8_wordOf_109 : decode cX8_wordOf 109 = .ok (.iload_n 3, 1) := by decide +kernel
theorem dX8_wordOf_110 : decode cX8_wordOf 110 = .ok (.ireturn, 1) := by decide +kernel
theorem dX8_wordOf_111 : decode cX8_wordOf 111 = .ok (.iload 4, 2) := by decide +kernel
theorem dX8_wordOf_113 : decode cX8_wordOf 113 = .ok (.iload 5, 2) := by decide +kernel
theorem dX8_wordOf_115 : decode cX8_wordOf 115 = .ok (.iconst 1, 1) := by decide +kernel
theorem dX8_wordOf_116 : decode cX8_wordOf 116 = .ok (.iadd, 1) := by decide +kernel
theorem dX8_wordOf_117 : decode cX8_wordOf 117 = .ok (.iadd, 1) := by decide +kernel
theorem dX8_wordOf_118 : decode cX8_wordOf 118 = .ok (.istore 4, 2) := by decide +kernel
theorem dX8_wordOf_120 : decode cX8_wordOf 120 = .ok (.iinc 3 1, 3) := by decide +kernel
theorem dX8_wordOf_123 : decode cX8_wordOf 123 = .ok (.goto (-118), 3) := by decide +kernel
theorem dX8_wordOf_126 : decode cX8_wordOf 126 = .ok (.iconst 0, 1) := by decide +kernel
theorem dX8_wordOf_127 : decode cX8_wordOf 127 = .ok (.ireturn, 1) := by decide +kernel
theorem dX8_splits_0 : decode cX8_splits 0 = .ok (.aload_n 0, 1) := by decide +kernel
theorem dX8_splits_1 : decode cX8_splits 1 = .ok (.iconst 0, 1) := by decide +kernel
theorem dX8_splits_2 : decode cX8_splits 2 = .ok (.putfield 151, 3) := by decide +kernel
theorem dX8_splits_5 : decode cX8_splits 5 = .ok (.iconst 0, 1) := by decide +kernel
theorem dX8_splits_6 : decode cX8_splits 6 = .ok (.istore_n 2, 1) := by decide +kernel
theorem dX8_splits_7 : decode cX8_splits 7 = .ok (.iload_n 2, 1) := by decide +kernel
theorem dX8_splits_8 : decode cX8_splits 8 = .ok (.iload_n 1, 1) := by decide +kernel
theorem dX8_splits_9 : decode cX8_splits 9 = .ok (.if_icmp .ge 254, 3) := by decide +kernel
theorem dX8_splits_12 : decode cX8_splits 12 = .ok (.aload_n 0, 1) := by decide +kernel
theorem dX8_splits_13 : decode cX8_splits 13 = .ok (.getfield 45, 3) := by decide +kernel
theorem dX8_splits_16 : decode cX8_splits 16 = .ok (.iload_n 2, 1) := by decide +kernel
theorem dX8_splits_17 : decode cX8_splits 17 = .ok (.baload, 1) := by decide +kernel
theorem dX8_splits_18 : decode cX8_splits 18 = .ok (.istore_n 3, 1) := by decide +kernel
theorem dX8_splits_19 : decode cX8_splits 19 = .ok (.iload_n 3, 1) := by decide +kernel
theorem dX8_splits_20 : decode cX8_splits 20 = .ok (.bipush 32, 2) := by decide +kernel
theorem dX8_splits_22 : decode cX8_splits 22 = .ok (.if_icmp .ne 9, 3) := by decide +kernel
theorem dX8_splits_25 : decode cX8_splits 25 = .ok (.iinc 2 1, 3) := by decide +kernel
theorem dX8_splits_28 : decode cX8_splits 28 = .ok (.goto (-21), 3) := by decide +kernel
theorem dX8_splits_31 : decode cX8_splits 31 = .ok (.iload_n 2, 1) := by decide +kernel
theorem dX8_splits_32 : decode cX8_splits 32 = .ok (.iconst 1, 1) := by decide +kernel
theorem dX8_splits_33 : decode cX8_splits 33 = .ok (.iadd, 1) := by decide +kernel
theorem dX8_splits_34 : decode cX8_splits 34 = .ok (.istore 4, 2) := by decide +kernel
theorem dX8_splits_36 : decode cX8_splits 36 = .ok (.iload_n 3, 1) := by decide +kernel
theorem dX8_splits_37 : decode cX8_splits 37 = .ok (.invokestatic 154, 3) := by decide +kernel
theorem dX8_splits_40 : decode cX8_splits 40 = .ok (.ifCond .eq 28, 3) := by decide +kernel
theorem dX8_splits_43 : decode cX8_splits 43 = .ok (.iload 4, 2) := by decide +kernel
theorem dX8_splits_45 : decode cX8_splits 45 = .ok (.iload_n 1, 1) := by decide +kernel
theorem dX8_splits_46 : decode cX8_splits 46 = .ok (.if_icmp .ge 22, 3) := by decide +kernel
theorem dX8_splits_49 : decode cX8_splits 49 = .ok (.aload_n 0, 1) := by decide +kernel
theorem dX8_splits_50 : decode cX8_splits 50 = .ok (.getfield 45, 3) := by decide +kernel
theorem dX8_splits_53 : decode cX8_splits 53 = .ok (.iload 4, 2) := by decide +kernel
theorem dX8_splits_55 : decode cX8_splits 55 = .ok (.baload, 1) := by decide +kernel
theorem dX8_splits_56 : decode cX8_splits 56 = .ok (.invokestatic 154, 3) := by decide +kernel
theorem dX8_splits_59 : decode cX8_splits 59 = .ok (.ifCond .eq 9, 3) := by decide +kernel
theorem dX8_splits_62 : decode cX8_splits 62 = .ok (.iinc 4 1, 3) := by decide +kernel
theorem dX8_splits_65 : decode cX8_splits 65 = .ok (.goto (-22), 3) := by decide +kernel
theorem dX8_splits_68 : decode cX8_splits 68 = .ok (.iload_n 3, 1) := by decide +kernel
theorem dX8_splits_69 : decode cX8_splits 69 = .ok (.invokestatic 157, 3) := by decide +kernel
theorem dX8_splits_72 : decode cX8_splits 72 = .ok (.ifCond .eq 28, 3) := by decide +kernel
theorem dX8_splits_75 : decode cX8_splits 75 = .ok (.iload 4, 2) := by decide +kernel
theorem dX8_splits_77 : decode cX8_splits 77 = .ok (.iload_n 1, 1) := by decide +kernel
theorem dX8_splits_78 : decode cX8_splits 78 = .ok (.if_icmp .ge 22, 3) := by decide +kernel
theorem dX8_splits_81 : decode cX8_splits 81 = .ok (.aload_n 0, 1) := by decide +kernel
theorem dX8_splits_82 : decode cX8_splits 82 = .ok (.getfield 45, 3) := by decide +kernel
theorem dX8_splits_85 : decode cX8_splits 85 = .ok (.iload 4, 2) := by decide +kernel
theorem dX8_splits_87 : decode cX8_splits 87 = .ok (.baload, 1) := by decide +kernel
theorem dX8_splits_88 : decode cX8_splits 88 = .ok (.invokestatic 157, 3) := by decide +kernel
theorem dX8_splits_91 : decode cX8_splits 91 = .ok (.ifCond .eq 9, 3) := by decide +kernel
theorem dX8_splits_94 : decode cX8_splits 94 = .ok (.iinc 4 1, 3) := by decide +kernel
theorem dX8_splits_97 : decode cX8_splits 97 = .ok (.goto (-22), 3) := by decide +kernel
theorem dX8_splits_100 : decode cX8_splits 100 = .ok (.aload_n 0, 1) := by decide +kernel
theorem dX8_splits_101 : decode cX8_splits 101 = .ok (.getfield 60, 3) := by decide +kernel
theorem dX8_splits_104 : decode cX8_splits 104 = .ok (.aload_n 0, 1) := by decide +kernel
theorem dX8_splits_105 : decode cX8_splits 105 = .ok (.getfield 151, 3) := by decide +kernel
theorem dX8_splits_108 : decode cX8_splits 108 = .ok (.iload_n 2, 1) := by decide +kernel
theorem dX8_splits_109 : decode cX8_splits 109 = .ok (.iastore, 1) := by decide +kernel
theorem dX8_splits_110 : decode cX8_splits 110 = .ok (.aload_n 0, 1) := by decide +kernel
theorem dX8_splits_111 : decode cX8_splits 111 = .ok (.getfield 57, 3) := by decide +kernel
theorem dX8_splits_114 : decode cX8_splits 114 = .ok (.aload_n 0, 1) := by decide +kernel
theorem dX8_splits_115 : decode cX8_splits 115 = .ok (.getfield 151, 3) := by decide +kernel
theorem dX8_splits_118 : decode cX8_splits 118 = .ok (.iconst 0, 1) := by decide +kernel
theorem dX8_splits_119 : decode cX8_splits 119 = .ok (.iastore, 1) := by decide +kernel
theorem dX8_splits_120 : decode cX8_splits 120 = .ok (.aload_n 0, 1) := by decide +kernel
theorem dX8_splits_121 : decode cX8_splits 121 = .ok (.getfield 54, 3) := by decide +kernel
theorem dX8_splits_124 : decode cX8_splits 124 = .ok (.aload_n 0, 1) := by decide +kernel
theorem dX8_splits_125 : decode cX8_splits 125 = .ok (.getfield 151, 3) := by decide +kernel
theorem dX8_splits_128 : decode cX8_splits 128 = .ok (.iload_n 3, 1) := by decide +kernel
theorem dX8_splits_129 : decode cX8_splits 129 = .ok (.invokestatic 154, 3) := by decide +kernel
theorem dX8_splits_132 : decode cX8_splits 132 = .ok (.ifCond .eq 13, 3) := by decide +kernel
theorem dX8_splits_135 : decode cX8_splits 135 = .ok (.aload_n 0, 1) := by decide +kernel
theorem dX8_splits_136 : decode cX8_splits 136 = .ok (.iload_n 2, 1) := by decide +kernel
theorem dX8_splits_137 : decode cX8_splits 137 = .ok (.iload 4, 2) := by decide +kernel
theorem dX8_splits_139 : decode cX8_splits 139 = .ok (.invokevirtual 160, 3) := by decide +kernel
theorem dX8_splits_142 : decode cX8_splits 142 = .ok (.goto 23, 3) := by decide +kernel
theorem dX8_splits_145 : decode cX8_splits 145 = .ok (.iload_n 3, 1) := by decide +kernel
theorem dX8_splits_146 : decode cX8_splits 146 = .ok (.invokestatic 157, 3) := by decide +kernel
theorem dX8_splits_149 : decode cX8_splits 149 = .ok (.ifCond .eq 8, 3) := by decide +kernel
theorem dX8_splits_152 : decode cX8_splits 152 = .ok (.bipush 50, 2) := by decide +kernel
theorem dX8_splits_154 : decode cX8_splits 154 = .ok (.goto 11, 3) := by decide +kernel
theorem dX8_splits_157 : decode cX8_splits 157 = .ok (.bipush 100, 2) := by decide +kernel
theorem dX8_splits_159 : decode cX8_splits 159 = .ok (.iload_n 3, 1) := by decide +kernel
theorem dX8_splits_160 : decode cX8_splits 160 = .ok (.sipush 255, 3) := by decide +kernel
theorem dX8_splits_163 : decode cX8_splits 163 = .ok (.iand, 1) := by decide +kernel
theorem dX8_splits_164 : decode cX8_splits 164 = .ok (.iadd, 1) := by decide +kernel
theorem dX8_splits_165 : decode cX8_splits 165 = .ok (.iastore, 1) := by decide +kernel
theorem dX8_splits_166 : decode cX8_splits 166 = .ok (.iload_n 2, 1) := by decide +kernel
theorem dX8_splits_167 : decode cX8_splits 167 = .ok (.istore 5, 2) := by decide +kernel
theorem dX8_splits_169 : decode cX8_splits 169 = .ok (.iload 5, 2) := by decide +kernel
theorem dX8_splits_171 : decode cX8_splits 171 = .ok (.iload 4, 2) := by decide +kernel
theorem dX8_splits_173 : decode cX8_splits 173 = .ok (.if_icmp .ge 74, 3) := by decide +kernel
theorem dX8_splits_176 : decode cX8_splits 176 = .ok (.iload_n 3, 1) := by decide +kernel
theorem dX8_splits_177 : decode cX8_splits 177 = .ok (.invokestatic 157, 3) := by decide +kernel
theorem dX8_splits_180 : decode cX8_splits 180 = .ok (.ifCond .eq 67, 3) := by decide +kernel
theorem dX8_splits_183 : decode cX8_splits 183 = .ok (.aload_n 0, 1) := by decide +kernel
theorem dX8_splits_184 : decode cX8_splits 184 = .ok (.getfield 57, 3) := by decide +kernel
theorem dX8_splits_187 : decode cX8_splits 187 = .ok (.aload_n 0, 1) := by decide +kernel
theorem dX8_splits_188 : decode cX8_splits 188 = .ok (.getfield 151, 3) := by decide +kernel
theorem dX8_splits_191 : decode cX8_splits 191 = .ok (.aload_n 0, 1) := by decide +kernel
theorem dX8_splits_192 : decode cX8_splits 192 = .ok (.getfield 57, 3) := by decide +kernel
theorem dX8_splits_195 : decode cX8_splits 195 = .ok (.aload_n 0, 1) := by decide +kernel
theorem dX8_splits_196 : decode cX8_splits 196 = .ok (.getfield 151, 3) := by decide +kernel
theorem dX8_splits_199 : decode cX8_splits 199 = .ok (.iaload, 1) := by decide +kernel
theorem dX8_splits_200 : decode cX8_splits 200 = .ok (.ldc 164, 2) := by decide +kernel
theorem dX8_splits_202 : decode cX8_splits 202 = .ok (.if_icmp .le 15, 3) := by decide +kernel
theorem dX8_splits_205 : decode cX8_splits 205 = .ok (.aload_n 0, 1) := by decide +kernel
theorem dX8_splits_206 : decode cX8_splits 206 = .ok (.getfield 57, 3) := by decide +kernel
theorem dX8_splits_209 : decode cX8_splits 209 = .ok (.aload_n 0, 1) := by decide +kernel
theorem dX8_splits_210 : decode cX8_splits 210 = .ok (.getfield 151, 3) := by decide +kernel
theorem dX8_splits_213 : decode cX8_splits 213 = .ok (.iaload, 1) := by decide +kernel
theorem dX8_splits_214 : decode cX8_splits 214 = .ok (.goto 26, 3) := by decide +kernel
theorem dX8_splits_217 : decode cX8_splits 217 = .ok (.bipush 10, 2) := by decide +kernel
theorem dX8_splits_219 : decode cX8_splits 219 = .ok (.aload_n 0, 1) := by decide +kernel
theorem dX8_splits_220 : decode cX8_splits 220 = .ok (.getfield 57, 3) := by decide +kernel
theorem dX8_splits_223 : decode cX8_splits 223 = .ok (.aload_n 0, 1) := by decide +kernel
theorem dX8_splits_224 : decode cX8_splits 224 = .ok (.getfield 151, 3) := by decide +kernel
theorem dX8_splits_227 : decode cX8_splits 227 = .ok (.iaload, 1) := by decide +kernel
theorem dX8_splits_228 : decode cX8_splits 228 = .ok (.imul, 1) := by decide +kernel
theorem dX8_splits_229 : decode cX8_splits 229 = .ok (.aload_n 0, 1) := by decide +kernel
theorem dX8_splits_230 : decode cX8_splits 230 = .ok (.getfield 45, 3) := by decide +kernel
theorem dX8_splits_233 : decode cX8_splits 233 = .ok (.iload 5, 2) := by decide +kernel
theorem dX8_splits_235 : decode cX8_splits 235 = .ok (.baload, 1) := by decide +kernel
theorem dX8_splits_236 : decode cX8_splits 236 = .ok (.iadd, 1) := by decide +kernel
theorem dX8_splits_237 : decode cX8_splits 237 = .ok (.bipush 48, 2) := by decide +kernel
theorem dX8_splits_239 : decode cX8_splits 239 = .ok (.isub, 1) := by decide +kernel
theorem dX8_splits_240 : decode cX8_splits 240 = .ok (.iastore, 1) := by decide +kernel
theorem dX8_splits_241 : decode cX8_splits 241 = .ok (.iinc 5 1, 3) := by decide +kernel
theorem dX8_splits_244 : decode cX8_splits 244 = .ok (.goto (-75), 3) := by decide +kernel
theorem dX8_splits_247 : decode cX8_splits 247 = .ok (.aload_n 0, 1) := by decide +kernel
theorem dX8_splits_248 : decode cX8_splits 248 = .ok (.dup, 1) := by decide +kernel
theorem dX8_splits_249 : decode cX8_splits 249 = .ok (.getfield 151, 3) := by decide +kernel
theorem dX8_splits_252 : decode cX8_splits 252 = .ok (.iconst 1, 1) := by decide +kernel
theorem dX8_splits_253 : decode cX8_splits 253 = .ok (.iadd, 1) := by decide +kernel
theorem dX8_splits_254 : decode cX8_splits 254 = .ok (.putfield 151, 3) := by decide +kernel
theorem dX8_splits_257 : decode cX8_splits 257 = .ok (.iload 4, 2) := by decide +kernel
theorem dX8_splits_259 : decode cX8_splits 259 = .ok (.istore_n 2, 1) := by decide +kernel
theorem dX8_splits_260 : decode cX8_splits 260 = .ok (.goto (-253), 3) := by decide +kernel
theorem dX8_splits_263 : decode cX8_splits 263 = .ok (.aload_n 0, 1) := by decide +kernel
theorem dX8_splits_264 : decode cX8_splits 264 = .ok (.getfield 60, 3) := by decide +kernel
theorem dX8_splits_267 : decode cX8_splits 267 = .ok (.aload_n 0, 1) := by decide +kernel
theorem dX8_splits_268 : decode cX8_splits 268 = .ok (.getfield 151, 3) := by decide +kernel
theorem dX8_splits_271 : decode cX8_splits 271 = .ok (.iload_n 1, 1) := by decide +kernel
theorem dX8_splits_272 : decode cX8_splits 272 = .ok (.iastore, 1) := by decide +kernel
theorem dX8_splits_273 : decode cX8_splits 273 = .ok (.aload_n 0, 1) := by decide +kernel
theorem dX8_splits_274 : decode cX8_splits 274 = .ok (.getfield 54, 3) := by decide +kernel
theorem dX8_splits_277 : decode cX8_splits 277 = .ok (.aload_n 0, 1) := by decide +kernel
theorem dX8_splits_278 : decode cX8_splits 278 = .ok (.getfield 151, 3) := by decide +kernel
theorem dX8_splits_281 : decode cX8_splits 281 = .ok (.iconst 0, 1) := by decide +kernel
theorem dX8_splits_282 : decode cX8_splits 282 = .ok (.iastore, 1) := by decide +kernel
theorem dX8_splits_283 : decode cX8_splits 283 = .ok (.aload_n 0, 1) := by decide +kernel
theorem dX8_splits_284 : decode cX8_splits 284 = .ok (.getfield 57, 3) := by decide +kernel
theorem dX8_splits_287 : decode cX8_splits 287 = .ok (.aload_n 0, 1) := by decide +kernel
theorem dX8_splits_288 : decode cX8_splits 288 = .ok (.getfield 151, 3) := by decide +kernel
theorem dX8_splits_291 : decode cX8_splits 291 = .ok (.iconst 0, 1) := by decide +kernel
theorem dX8_splits_292 : decode cX8_splits 292 = .ok (.iastore, 1) := by decide +kernel
theorem dX8_splits_293 : decode cX8_splits 293 = .ok (.return_, 1) := by decide +kernel
theorem dX8_fine_0 : decode cX8_fine 0 = .ok (.aload_n 0, 1) := by decide +kernel
theorem dX8_fine_1 : decode cX8_fine 1 = .ok (.getfield 165, 3) := by decide +kernel
theorem dX8_fine_4 : decode cX8_fine 4 = .ok (.iconst (-1), 1) := by decide +kernel
theorem dX8_fine_5 : decode cX8_fine 5 = .ok (.if_icmp .ne 7, 3) := by decide +kernel
theorem dX8_fine_8 : decode cX8_fine 8 = .ok (.iconst 1, 1) := by decide +kernel
theorem dX8_fine_9 : decode cX8_fine 9 = .ok (.goto 4, 3) := by decide +kernel
theorem dX8_fine_12 : decode cX8_fine 12 = .ok (.iconst 0, 1) := by decide +kernel
theorem dX8_fine_13 : decode cX8_fine 13 = .ok (.ireturn, 1) := by decide +kernel
theorem dX8_faults_0 : decode cX8_faults 0 = .ok (.aload_n 0, 1) := by decide +kernel
theorem dX8_faults_1 : decode cX8_faults 1 = .ok (.invokevirtual 168, 3) := by decide +kernel
theorem dX8_faults_4 : decode cX8_faults 4 = .ok (.ifCond .eq 16, 3) := by decide +kernel
theorem dX8_faults_7 : decode cX8_faults 7 = .ok (.aload_n 0, 1) := by decide +kernel
theorem dX8_faults_8 : decode cX8_faults 8 = .ok (.aload_n 0, 1) := by decide +kernel
theorem dX8_faults_9 : decode cX8_faults 9 = .ok (.getfield 60, 3) := by decide +kernel
theorem dX8_faults_12 : decode cX8_faults 12 = .ok (.aload_n 0, 1) := by decide +kernel
theorem dX8_faults_13 : decode cX8_faults 13 = .ok (.getfield 172, 3) := by decide +kernel
theorem dX8_faults_16 : decode cX8_faults 16 = .ok (.iaload, 1) := by decide +kernel
theorem dX8_faults_17 : decode cX8_faults 17 = .ok (.putfield 165, 3) := by decide +kernel
theorem dX8_faults_20 : decode cX8_faults 20 = .ok (.return_, 1) := by decide +kernel
theorem dX8_takes0_0 : decode cX8_takes0 0 = .ok (.aload_n 0, 1) := by decide +kernel
theorem dX8_takes0_1 : decode cX8_takes0 1 = .ok (.invokevirtual 168, 3) := by decide +kernel
theorem dX8_takes0_4 : decode cX8_takes0 4 = .ok (.ifCond .eq 20, 3) := by decide +kernel
theorem dX8_takes0_7 : decode cX8_takes0 7 = .ok (.aload_n 0, 1) := by decide +kernel
theorem dX8_takes0_8 : decode cX8_takes0 8 = .ok (.getfield 54, 3) := by decide +kernel
theorem dX8_takes0_11 : decode cX8_takes0 11 = .ok (.aload_n 0, 1) := by decide +kernel
theorem dX8_takes0_12 : decode cX8_takes0 12 = .ok (.getfield 172, 3) := by decide +kernel
theorem dX8_takes0_15 : decode cX8_takes0 15 = .ok (.iaload, 1) := by decide +kernel
theorem dX8_takes0_16 : decode cX8_takes0 16 = .ok (.iload_n 1, 1) := by decide +kernel
theorem dX8_takes0_17 : decode cX8_takes0 17 = .ok (.if_icmp .ne 7, 3) := by decide +kernel
theorem dX8_takes0_20 : decode cX8_takes0 20 = .ok (.iconst 1, 1) := by decide +kernel
theorem dX8_takes0_21 : decode cX8_takes0 21 = .ok (.goto 4, 3) := by decide +kernel
theorem dX8_takes0_24 : decode cX8_takes0 24 = .ok (.iconst 0, 1) := by decide +kernel
theorem dX8_takes0_25 : decode cX8_takes0 25 = .ok (.istore_n 2, 1) := by decide +kernel
theorem dX8_takes0_26 : decode cX8_takes0 26 = .ok (.iload_n 2, 1) := by decide +kernel
theorem dX8_takes0_27 : decode cX8_takes0 27 = .ok (.ifCond .eq 13, 3) := by decide +kernel
theorem dX8_takes0_30 : decode cX8_takes0 30 = .ok (.aload_n 0, 1) := by decide +kernel
theorem dX8_takes0_31 : decode cX8_takes0 31 = .ok (.dup, 1) := by decide +kernel
theorem dX8_takes0_32 : decode cX8_takes0 32 = .ok (.getfield 172, 3) := by decide +kernel
theorem dX8_takes0_35 : decode cX8_takes0 35 = .ok (.iconst 1, 1) := by decide +kernel
theorem dX8_takes0_36 : decode cX8_takes0 36 = .ok (.iadd, 1) := by decide +kernel
theorem dX8_takes0_37 : decode cX8_takes0 37 = .ok (.putfield 172, 3) := by decide +kernel
theorem dX8_takes0_40 : decode cX8_takes0 40 = .ok (.iload_n 2, 1) := by decide +kernel
theorem dX8_takes0_41 : decode cX8_takes0 41 = .ok (.ireturn, 1) := by decide +kernel
theorem dX8_must_0 : decode cX8_must 0 = .ok (.aload_n 0, 1) := by decide +kernel
theorem dX8_must_1 : decode cX8_must 1 = .ok (.iload_n 1, 1) := by decide +kernel
theorem dX8_must_2 : decode cX8_must 2 = .ok (.invokevirtual 175, 3) := by decide +kernel
theorem dX8_must_5 : decode cX8_must 5 = .ok (.ifCond .ne 7, 3) := by decide +kernel
theorem dX8_must_8 : decode cX8_must 8 = .ok (.aload_n 0, 1) := by decide +kernel
theorem dX8_must_9 : decode cX8_must 9 = .ok (.invokevirtual 178, 3) := by decide +kernel
theorem dX8_must_12 : decode cX8_must 12 = .ok (.return_, 1) := by decide +kernel
theorem dX8_leaf_0 : decode cX8_leaf 0 = .ok (.aload_n 0, 1) := by decide +kernel
theorem dX8_leaf_1 : decode cX8_leaf 1 = .ok (.getfield 181, 3) := by decide +kernel
theorem dX8_leaf_4 : decode cX8_leaf 4 = .ok (.bipush 50, 2) := by decide +kernel
theorem dX8_leaf_6 : decode cX8_leaf 6 = .ok (.if_icmp .ne 7, 3) := by decide +kernel
theorem dX8_leaf_9 : decode cX8_leaf 9 = .ok (.aload_n 0, 1) := by decide +kernel
theorem dX8_leaf_10 : decode cX8_leaf 10 = .ok (.invokevirtual 178, 3) := by decide +kernel
theorem dX8_leaf_13 : decode cX8_leaf 13 = .ok (.aload_n 0, 1) := by decide +kernel
theorem dX8_leaf_14 : decode cX8_leaf 14 = .ok (.dup, 1) := by decide +kernel
theorem dX8_leaf_15 : decode cX8_leaf 15 = .ok (.getfield 181, 3) := by decide +kernel
theorem dX8_leaf_18 : decode cX8_leaf 18 = .ok (.iconst 1, 1) := by decide +kernel
theorem dX8_leaf_19 : decode cX8_leaf 19 = .ok (.iadd, 1) := by decide +kernel
theorem dX8_leaf_20 : decode cX8_leaf 20 = .ok (.putfield 181, 3) := by decide +kernel
theorem dX8_leaf_23 : decode cX8_leaf 23 = .ok (.aload_n 0, 1) := by decide +kernel
theorem dX8_leaf_24 : decode cX8_leaf 24 = .ok (.invokevirtual 168, 3) := by decide +kernel
theorem dX8_leaf_27 : decode cX8_leaf 27 = .ok (.ifCond .eq 13, 3) := by decide +kernel
theorem dX8_leaf_30 : decode cX8_leaf 30 = .ok (.aload_n 0, 1) := by decide +kernel
theorem dX8_leaf_31 : decode cX8_leaf 31 = .ok (.dup, 1) := by decide +kernel
theorem dX8_leaf_32 : decode cX8_leaf 32 = .ok (.getfield 172, 3) := by decide +kernel
theorem dX8_leaf_35 : decode cX8_leaf 35 = .ok (.iconst 1, 1) := by decide +kernel
theorem dX8_leaf_36 : decode cX8_leaf 36 = .ok (.iadd, 1) := by decide +kernel
theorem dX8_leaf_37 : decode cX8_leaf 37 = .ok (.putfield 172, 3) := by decide +kernel
theorem dX8_leaf_40 : decode cX8_leaf 40 = .ok (.return_, 1) := by decide +kernel
theorem dX8_sign_0 : decode cX8_sign 0 = .ok (.bipush 100, 2) := by decide +kernel
theorem dX8_sign_2 : decode cX8_sign 2 = .ok (.iload_n 0, 1) := by decide +kernel
theorem dX8_sign_3 : decode cX8_sign 3 = .ok (.iadd, 1) := by decide +kernel
theorem dX8_sign_4 : decode cX8_sign 4 = .ok (.ireturn, 1) := by decide +kernel
theorem dX8_mustNumber_0 : decode cX8_mustNumber 0 = .ok (.aload_n 0, 1) := by decide +kernel
theorem dX8_mustNumber_1 : decode cX8_mustNumber 1 = .ok (.invokevirtual 168, 3) := by decide +kernel
theorem dX8_mustNumber_4 : decode cX8_mustNumber 4 = .ok (.ifCond .eq 38, 3) := by decide +kernel
theorem dX8_mustNumber_7 : decode cX8_mustNumber 7 = .ok (.aload_n 0, 1) := by decide +kernel
theorem dX8_mustNumber_8 : decode cX8_mustNumber 8 = .ok (.getfield 54, 3) := by decide +kernel
theorem dX8_mustNumber_11 : decode cX8_mustNumber 11 = .ok (.aload_n 0, 1) := by decide +kernel
theorem dX8_mustNumber_12 : decode cX8_mustNumber 12 = .ok (.getfield 172, 3) := by decide +kernel
theorem dX8_mustNumber_15 : decode cX8_mustNumber 15 = .ok (.iaload, 1) := by decide +kernel
theorem dX8_mustNumber_16 : decode cX8_mustNumber 16 = .ok (.bipush 50, 2) := by decide +kernel
theorem dX8_mustNumber_18 : decode cX8_mustNumber 18 = .ok (.if_icmp .ne 20, 3) := by decide +kernel
theorem dX8_mustNumber_21 : decode cX8_mustNumber 21 = .ok (.aload_n 0, 1) := by decide +kernel
theorem dX8_mustNumber_22 : decode cX8_mustNumber 22 = .ok (.getfield 57, 3) := by decide +kernel
theorem dX8_mustNumber_25 : decode cX8_mustNumber 25 = .ok (.aload_n 0, 1) := by decide +kernel
theorem dX8_mustNumber_26 : decode cX8_mustNumber 26 = .ok (.getfield 172, 3) := by decide +kernel
theorem dX8_mustNumber_29 : decode cX8_mustNumber 29 = .ok (.iaload, 1) := by decide +kernel
theorem dX8_mustNumber_30 : decode cX8_mustNumber 30 = .ok (.iload_n 1, 1) := by decide +kernel
theorem dX8_mustNumber_31 : decode cX8_mustNumber 31 = .ok (.iload_n 2, 1) := by decide +kernel
theorem dX8_mustNumber_32 : decode cX8_mustNumber 32 = .ok (.invokestatic 115, 3) := by decide +kernel
theorem dX8_mustNumber_35 : decode cX8_mustNumber 35 = .ok (.ifCond .ne 7, 3) := by decide +kernel
theorem dX8_mustNumber_38 : decode cX8_mustNumber 38 = .ok (.aload_n 0, 1) := by decide +kernel
theorem dX8_mustNumber_39 : decode cX8_mustNumber 39 = .ok (.invokevirtual 178, 3) := by decide +kernel
theorem dX8_mustNumber_42 : decode cX8_mustNumber 42 = .ok (.aload_n 0, 1) := by decide +kernel
theorem dX8_mustNumber_43 : decode cX8_mustNumber 43 = .ok (.invokevirtual 168, 3) := by decide +kernel
theorem dX8_mustNumber_46 : decode cX8_mustNumber 46 = .ok (.ifCond .eq 13, 3) := by decide +kernel
theorem dX8_mustNumber_49 : decode cX8_mustNumber 49 = .ok (.aload_n 0, 1) := by decide +kernel
theorem dX8_mustNumber_50 : decode cX8_mustNumber 50 = .ok (.dup, 1) := by decide +kernel
theorem dX8_mustNumber_51 : decode cX8_mustNumber 51 = .ok (.getfield 172, 3) := by decide +kernel
theorem dX8_mustNumber_54 : decode cX8_mustNumber 54 = .ok (.iconst 1, 1) := by decide +kernel
theorem dX8_mustNumber_55 : decode cX8_mustNumber 55 = .ok (.iadd, 1) := by decide +kernel
theorem dX8_mustNumber_56 : decode cX8_mustNumber 56 = .ok (.putfield 172, 3) := by decide +kernel
theorem dX8_mustNumber_59 : decode cX8_mustNumber 59 = .ok (.return_, 1) := by decide +kernel
theorem dX8_readClause_0 : decode cX8_readClause 0 = .ok (.aload_n 0, 1) := by decide +kernel
theorem dX8_readClause_1 : decode cX8_readClause 1 = .ok (.iconst 1, 1) := by decide +kernel
theorem dX8_readClause_2 : decode cX8_readClause 2 = .ok (.invokevirtual 175, 3) := by decide +kernel
theorem dX8_readClause_5 : decode cX8_readClause 5 = .ok (.ifCond .eq 11, 3) := by decide +kernel
theorem dX8_readClause_8 : decode cX8_readClause 8 = .ok (.aload_n 0, 1) := by decide +kernel
theorem dX8_readClause_9 : decode cX8_readClause 9 = .ok (.iconst 0, 1) := by decide +kernel
theorem dX8_readClause_10 : decode cX8_readClause 10 = .ok (.invokevirtual 184, 3) := by decide +kernel
theorem dX8_readClause_13 : decode cX8_readClause 13 = .ok (.goto 24, 3) := by decide +kernel
theorem dX8_readClause_16 : decode cX8_readClause 16 = .ok (.aload_n 0, 1) := by decide +kernel
theorem dX8_readClause_17 : decode cX8_readClause 17 = .ok (.iconst 2, 1) := by decide +kernel
theorem dX8_readClause_18 : decode cX8_readClause 18 = .ok (.invokevirtual 175, 3) := by decide +kernel
theorem dX8_readClause_21 : decode cX8_readClause 21 = .ok (.ifCond .ne 16, 3) := by decide +kernel
theorem dX8_readClause_24 : decode cX8_readClause 24 = .ok (.aload_n 0, 1) := by decide +kernel
theorem dX8_readClause_25 : decode cX8_readClause 25 = .ok (.iconst 3, 1) := by decide +kernel
theorem dX8_readClause_26 : decode cX8_readClause 26 = .ok (.invokevirtual 175, 3) := by decide +kernel
theorem dX8_readClause_29 : decode cX8_readClause 29 = .ok (.ifCond .ne 8, 3) := by decide +kernel
theorem dX8_readClause_32 : decode cX8_readClause 32 = .ok (.aload_n 0, 1) := by decide +kernel
theorem dX8_readClause_33 : decode cX8_readClause 33 = .ok (.iconst 4, 1) := by decide +kernel
theorem dX8_readClause_34 : decode cX8_readClause 34 = .ok (.invokevirtual 187, 3) := by decide +kernel
theorem dX8_readClause_37 : decode cX8_readClause 37 = .ok (.aload_n 0, 1) := by decide +kernel
theorem dX8_readClause_38 : decode cX8_readClause 38 = .ok (.iconst 5, 1) := by decide +kernel
theorem dX8_readClause_39 : decode cX8_readClause 39 = .ok (.invokevirtual 175, 3) := by decide +kernel
theorem dX8_readClause_42 : decode cX8_readClause 42 = .ok (.ifCond .eq 8, 3) := by decide +kernel
theorem dX8_readClause_45 : decode cX8_readClause 45 = .ok (.aload_n 0, 1) := by decide +kernel
theorem dX8_readClause_46 : decode cX8_readClause 46 = .ok (.iconst 0, 1) := by decide +kernel
theorem dX8_readClause_47 : decode cX8_readClause 47 = .ok (.invokevirtual 190, 3) := by decide +kernel
theorem dX8_readClause_50 : decode cX8_readClause 50 = .ok (.return_, 1) := by decide +kernel
theorem dX8_readOrder_0 : decode cX8_readOrder 0 = .ok (.aload_n 0, 1) := by decide +kernel
theorem dX8_readOrder_1 : decode cX8_readOrder 1 = .ok (.bipush 20, 2) := by decide +kernel
theorem dX8_readOrder_3 : decode cX8_readOrder 3 = .ok (.invokevirtual 175, 3) := by decide +kernel
theorem dX8_readOrder_6 : decode cX8_readOrder 6 = .ok (.ifCond .ne 21, 3) := by decide +kernel
theorem dX8_readOrder_9 : decode cX8_readOrder 9 = .ok (.aload_n 0, 1) := by decide +kernel
theorem dX8_readOrder_10 : decode cX8_readOrder 10 = .ok (.bipush 21, 2) := by decide +kernel
theorem dX8_readOrder_12 : decode cX8_readOrder 12 = .ok (.invokevirtual 175, 3) := by decide +kernel
theorem dX8_readOrder_15 : decode cX8_readOrder 15 = .ok (.ifCond .ne 12, 3) := by decide +kernel
theorem dX8_readOrder_18 : decode cX8_readOrder 18 = .ok (.aload_n 0, 1) := by decide +kernel
theorem dX8_readOrder_19 : decode cX8_readOrder 19 = .ok (.bipush 22, 2) := by decide +kernel
theorem dX8_readOrder_21 : decode cX8_readOrder 21 = .ok (.invokevirtual 175, 3) := by decide +kernel
theorem dX8_readOrder_24 : decode cX8_readOrder 24 = .ok (.ifCond .eq 11, 3) := by decide +kernel
theorem dX8_readOrder_27 : decode cX8_readOrder 27 = .ok (.aload_n 0, 1) := by decide +kernel
theorem dX8_readOrder_28 : decode cX8_readOrder 28 = .ok (.iconst 0, 1) := by decide +kernel
theorem dX8_readOrder_29 : decode cX8_readOrder 29 = .ok (.invokevirtual 184, 3) := by decide +kernel
theorem dX8_readOrder_32 : decode cX8_readOrder 32 = .ok (.goto 9, 3) := by decide +kernel
theorem dX8_readOrder_35 : decode cX8_readOrder 35 = .ok (.aload_n 0, 1) := by decide +kernel
theorem dX8_readOrder_36 : decode cX8_readOrder 36 = .ok (.bipush 23, 2) := by decide +kernel
theorem dX8_readOrder_38 : decode cX8_readOrder 38 = .ok (.invokevirtual 187, 3) := by decide +kernel
theorem dX8_readOrder_41 : decode cX8_readOrder 41 = .ok (.aload_n 0, 1) := by decide +kernel
theorem dX8_readOrder_42 : decode cX8_readOrder 42 = .ok (.bipush 24, 2) := by decide +kernel
theorem dX8_readOrder_44 : decode cX8_readOrder 44 = .ok (.invokevirtual 175, 3) := by decide +kernel
theorem dX8_readOrder_47 : decode cX8_readOrder 47 = .ok (.ifCond .eq 10, 3) := by decide +kernel
theorem dX8_readOrder_50 : decode cX8_readOrder 50 = .ok (.aload_n 0, 1) := by decide +kernel
theorem dX8_readOrder_51 : decode cX8_readOrder 51 = .ok (.iconst 1, 1) := by decide +kernel
theorem dX8_readOrder_52 : decode cX8_readOrder 52 = .ok (.bipush 20, 2) := by decide +kernel
theorem dX8_readOrder_54 : decode cX8_readOrder 54 = .ok (.invokevirtual 193, 3) := by decide +kernel
theorem dX8_readOrder_57 : decode cX8_readOrder 57 = .ok (.aload_n 0, 1) := by decide +kernel
theorem dX8_readOrder_58 : decode cX8_readOrder 58 = .ok (.iconst 5, 1) := by decide +kernel
theorem dX8_readOrder_59 : decode cX8_readOrder 59 = .ok (.invokevirtual 175, 3) := by decide +kernel
theorem dX8_readOrder_62 : decode cX8_readOrder 62 = .ok (.ifCond .eq 8, 3) := by decide +kernel
theorem dX8_readOrder_65 : decode cX8_readOrder 65 = .ok (.aload_n 0, 1) := by decide +kernel
theorem dX8_readOrder_66 : decode cX8_readOrder 66 = .ok (.iconst 0, 1) := by decide +kernel
theorem dX8_readOrder_67 : decode cX8_readOrder 67 = .ok (.invokevirtual 190, 3) := by decide +kernel
theorem dX8_readOrder_70 : decode cX8_readOrder 70 = .ok (.return_, 1) := by decide +kernel
theorem dX8_readOne_0 : decode cX8_readOne 0 = .ok (.aload_n 0, 1) := by decide +kernel
theorem dX8_readOne_1 : decode cX8_readOne 1 = .ok (.getfield 197, 3) := by decide +kernel
theorem dX8_readOne_4 : decode cX8_readOne 4 = .ok (.ifCond .eq 10, 3) := by decide +kernel
theorem dX8_readOne_7 : decode cX8_readOne 7 = .ok (.aload_n 0, 1) := by decide +kernel
theorem dX8_readOne_8 : decode cX8_readOne 8 = .ok (.invokevirtual 201, 3) := by decide +kernel
theorem dX8_readOne_11 : decode cX8_readOne 11 = .ok (.goto 7, 3) := by decide +kernel
theorem dX8_readOne_14 : decode cX8_readOne 14 = .ok (.aload_n 0, 1) := by decide +kernel
theorem dX8_readOne_15 : decode cX8_readOne 15 = .ok (.invokevirtual 204, 3) := by decide +kernel
theorem dX8_readOne_18 : decode cX8_readOne 18 = .ok (.return_, 1) := by decide +kernel
theorem dX8_readTest_0 : decode cX8_readTest 0 = .ok (.aload_n 0, 1) := by decide +kernel
theorem dX8_readTest_1 : decode cX8_readTest 1 = .ok (.iload_n 1, 1) := by decide +kernel
theorem dX8_readTest_2 : decode cX8_readTest 2 = .ok (.invokevirtual 207, 3) := by decide +kernel
theorem dX8_readTest_5 : decode cX8_readTest 5 = .ok (.aload_n 0, 1) := by decide +kernel
theorem dX8_readTest_6 : decode cX8_readTest 6 = .ok (.bipush 6, 2) := by decide +kernel
theorem dX8_readTest_8 : decode cX8_readTest 8 = .ok (.invokevirtual 175, 3) := by decide +kernel
theorem dX8_readTest_11 : decode cX8_readTest 11 = .ok (.ifCond .eq 11, 3) := by decide +kernel
theorem dX8_readTest_14 : decode cX8_readTest 14 = .ok (.aload_n 0, 1) := by decide +kernel
theorem dX8_readTest_15 : decode cX8_readTest 15 = .ok (.iload_n 1, 1) := by decide +kernel
theorem dX8_readTest_16 : decode cX8_readTest 16 = .ok (.invokevirtual 207, 3) := by decide +kernel
theorem dX8_readTest_19 : decode cX8_readTest 19 = .ok (.goto (-14), 3) := by decide +kernel
theorem dX8_readTest_22 : decode cX8_readTest 22 = .ok (.return_, 1) := by decide +kernel
theorem dX8_readBoth_0 : decode cX8_readBoth 0 = .ok (.aload_n 0, 1) := by decide +kernel
theorem dX8_readBoth_1 : decode cX8_readBoth 1 = .ok (.iload_n 1, 1) := by decide +kernel
theorem dX8_readBoth_2 : decode cX8_readBoth 2 = .ok (.invokevirtual 210, 3) := by decide +kernel
theorem dX8_readBoth_5 : decode cX8_readBoth 5 = .ok (.aload_n 0, 1) := by decide +kernel
theorem dX8_readBoth_6 : decode cX8_readBoth 6 = .ok (.bipush 7, 2) := by decide +kernel
theorem dX8_readBoth_8 : decode cX8_readBoth 8 = .ok (.invokevirtual 175, 3) := by decide +kernel
theorem dX8_readBoth_11 : decode cX8_readBoth 11 = .ok (.ifCond .eq 11, 3) := by decide +kernel
theorem dX8_readBoth_14 : decode cX8_readBoth 14 = .ok (.aload_n 0, 1) := by decide +kernel
theorem dX8_readBoth_15 : decode cX8_readBoth 15 = .ok (.iload_n 1, 1) := by decide +kernel
theorem dX8_readBoth_16 : decode cX8_readBoth 16 = .ok (.invokevirtual 210, 3) := by decide +kernel
theorem dX8_readBoth_19 : decode cX8_readBoth 19 = .ok (.goto (-14), 3) := by decide +kernel
theorem dX8_readBoth_22 : decode cX8_readBoth 22 = .ok (.return_, 1) := by decide +kernel
theorem dX8_readPlain_0 : decode cX8_readPlain 0 = .ok (.iconst 1, 1) := by decide +kernel
theorem dX8_readPlain_1 : decode cX8_readPlain 1 = .ok (.istore_n 2, 1) := by decide +kernel
theorem dX8_readPlain_2 : decode cX8_readPlain 2 = .ok (.iload_n 2, 1) := by decide +kernel
theorem dX8_readPlain_3 : decode cX8_readPlain 3 = .ok (.ifCond .eq 13, 3) := by decide +kernel
theorem dX8_readPlain_6 : decode cX8_readPlain 6 = .ok (.aload_n 0, 1) := by decide +kernel
theorem dX8_readPlain_7 : decode cX8_readPlain 7 = .ok (.bipush 8, 2) := by decide +kernel
theorem dX8_readPlain_9 : decode cX8_readPlain 9 = .ok (.invokevirtual 175, 3) := by decide +kernel
theorem dX8_readPlain_12 : decode cX8_readPlain 12 = .ok (.istore_n 2, 1) := by decide +kernel
theorem dX8_readPlain_13 : decode cX8_readPlain 13 = .ok (.goto (-11), 3) := by decide +kernel
theorem dX8_readPlain_16 : decode cX8_readPlain 16 = .ok (.aload_n 0, 1) := by decide +kernel
theorem dX8_readPlain_17 : decode cX8_readPlain 17 = .ok (.invokevirtual 168, 3) := by decide +kernel
theorem dX8_readPlain_20 : decode cX8_readPlain 20 = .ok (.ifCond .ne 4, 3) := by decide +kernel
theorem dX8_readPlain_23 : decode cX8_readPlain 23 = .ok (.return_, 1) := by decide +kernel
theorem dX8_readPlain_24 : decode cX8_readPlain 24 = .ok (.aload_n 0, 1) := by decide +kernel
theorem dX8_readPlain_25 : decode cX8_readPlain 25 = .ok (.getfield 54, 3) := by decide +kernel
theorem dX8_readPlain_28 : decode cX8_readPlain 28 = .ok (.aload_n 0, 1) := by decide +kernel
theorem dX8_readPlain_29 : decode cX8_readPlain 29 = .ok (.getfield 172, 3) := by decide +kernel
theorem dX8_readPlain_32 : decode cX8_readPlain 32 = .ok (.iaload, 1) := by decide +kernel
theorem dX8_readPlain_33 : decode cX8_readPlain 33 = .ok (.istore_n 3, 1) := by decide +kernel
theorem dX8_readPlain_34 : decode cX8_readPlain 34 = .ok (.iload_n 3, 1) := by decide +kernel
theorem dX8_readPlain_35 : decode cX8_readPlain 35 = .ok (.bipush 40, 2) := by decide +kernel
theorem dX8_readPlain_37 : decode cX8_readPlain 37 = .ok (.invokestatic 213, 3) := by decide +kernel
theorem dX8_readPlain_40 : decode cX8_readPlain 40 = .ok (.if_icmp .ne 50, 3) := by decide +kernel
theorem dX8_readPlain_43 : decode cX8_readPlain 43 = .ok (.iload_n 1, 1) := by decide +kernel
theorem dX8_readPlain_44 : decode cX8_readPlain 44 = .ok (.bipush 8, 2) := by decide +kernel
theorem dX8_readPlain_46 : decode cX8_readPlain 46 = .ok (.if_icmp .ne 7, 3) := by decide +kernel
theorem dX8_readPlain_49 : decode cX8_readPlain 49 = .ok (.aload_n 0, 1) := by decide +kernel
theorem dX8_readPlain_50 : decode cX8_readPlain 50 = .ok (.invokevirtual 178, 3) := by decide +kernel
theorem dX8_readPlain_53 : decode cX8_readPlain 53 = .ok (.aload_n 0, 1) := by decide +kernel
theorem dX8_readPlain_54 : decode cX8_readPlain 54 = .ok (.invokevirtual 168, 3) := by decide +kernel
theorem dX8_readPlain_57 : decode cX8_readPlain 57 = .ok (.ifCond .ne 4, 3) := by decide +kernel
theorem dX8_readPlain_60 : decode cX8_readPlain 60 = .ok (.return_, 1) := by decide +kernel
theorem dX8_readPlain_61 : decode cX8_readPlain 61 = .ok (.aload_n 0, 1) := by decide +kernel
theorem dX8_readPlain_62 : decode cX8_readPlain 62 = .ok (.dup, 1) := by decide +kernel
theorem dX8_readPlain_63 : decode cX8_readPlain 63 = .ok (.getfield 172, 3) := by decide +kernel
theorem dX8_readPlain_66 : decode cX8_readPlain 66 = .ok (.iconst 1, 1) := by decide +kernel
theorem dX8_readPlain_67 : decode cX8_readPlain 67 = .ok (.iadd, 1) := by decide +kernel
theorem dX8_readPlain_68 : decode cX8_readPlain 68 = .ok (.putfield 172, 3) := by decide +kernel
theorem dX8_readPlain_71 : decode cX8_readPlain 71 = .ok (.aload_n 0, 1) := by decide +kernel
theorem dX8_readPlain_72 : decode cX8_readPlain 72 = .ok (.iload_n 1, 1) := by decide +kernel
theorem dX8_readPlain_73 : decode cX8_readPlain 73 = .ok (.iconst 1, 1) := by decide +kernel
theorem dX8_readPlain_74 : decode cX8_readPlain 74 = .ok (.iadd, 1) := by decide +kernel
theorem dX8_readPlain_75 : decode cX8_readPlain 75 = .ok (.invokevirtual 190, 3) := by decide +kernel
theorem dX8_readPlain_78 : decode cX8_readPlain 78 = .ok (.aload_n 0, 1) := by decide +kernel
theorem dX8_readPlain_79 : decode cX8_readPlain 79 = .ok (.bipush 41, 2) := by decide +kernel
theorem dX8_readPlain_81 : decode cX8_readPlain 81 = .ok (.invokestatic 213, 3) := by decide +kernel
theorem dX8_readPlain_84 : decode cX8_readPlain 84 = .ok (.invokevirtual 187, 3) := by decide +kernel
theorem dX8_readPlain_87 : decode cX8_readPlain 87 = .ok (.goto 46, 3) := by decide +kernel
theorem dX8_readPlain_90 : decode cX8_readPlain 90 = .ok (.aload_n 0, 1) := by decide +kernel
theorem dX8_readPlain_91 : decode cX8_readPlain 91 = .ok (.iload_n 1, 1) := by decide +kernel
theorem dX8_readPlain_92 : decode cX8_readPlain 92 = .ok (.invokevirtual 184, 3) := by decide +kernel
theorem dX8_readPlain_95 : decode cX8_readPlain 95 = .ok (.aload_n 0, 1) := by decide +kernel
theorem dX8_readPlain_96 : decode cX8_readPlain 96 = .ok (.bipush 60, 2) := by decide +kernel
theorem dX8_readPlain_98 : decode cX8_readPlain 98 = .ok (.invokestatic 213, 3) := by decide +kernel
theorem dX8_readPlain_101 : decode cX8_readPlain 101 = .ok (.invokevirtual 175, 3) := by decide +kernel
theorem dX8_readPlain_104 : decode cX8_readPlain 104 = .ok (.ifCond .ne 24, 3) := by decide +kernel
theorem dX8_readPlain_107 : decode cX8_readPlain 107 = .ok (.aload_n 0, 1) := by decide +kernel
theorem dX8_readPlain_108 : decode cX8_readPlain 108 = .ok (.bipush 62, 2) := by decide +kernel
theorem dX8_readPlain_110 : decode cX8_readPlain 110 = .ok (.invokestatic 213, 3) := by decide +kernel
theorem dX8_readPlain_113 : decode cX8_readPlain 113 = .ok (.invokevirtual 175, 3) := by decide +kernel
theorem dX8_readPlain_116 : decode cX8_readPlain 116 = .ok (.ifCond .ne 12, 3) := by decide +kernel
theorem dX8_readPlain_119 : decode cX8_readPlain 119 = .ok (.aload_n 0, 1) := by decide +kernel
theorem dX8_readPlain_120 : decode cX8_readPlain 120 = .ok (.bipush 61, 2) := by decide +kernel
theorem dX8_readPlain_122 : decode cX8_readPlain 122 = .ok (.invokestatic 213, 3) := by decide +kernel
theorem dX8_readPlain_125 : decode cX8_readPlain 125 = .ok (.invokevirtual 187, 3) := by decide +kernel
theorem dX8_readPlain_128 : decode cX8_readPlain 128 = .ok (.aload_n 0, 1) := by decide +kernel
theorem dX8_readPlain_129 : decode cX8_readPlain 129 = .ok (.iload_n 1, 1) := by decide +kernel
theorem dX8_readPlain_130 : decode cX8_readPlain 130 = .ok (.invokevirtual 184, 3) := by decide +kernel
theorem dX8_readPlain_133 : decode cX8_readPlain 133 = .ok (.return_, 1) := by decide +kernel
theorem dX8_readSum_0 : decode cX8_readSum 0 = .ok (.aload_n 0, 1) := by decide +kernel
theorem dX8_readSum_1 : decode cX8_readSum 1 = .ok (.iload_n 1, 1) := by decide +kernel
theorem dX8_readSum_2 : decode cX8_readSum 2 = .ok (.invokevirtual 217, 3) := by decide +kernel
theorem dX8_readSum_5 : decode cX8_readSum 5 = .ok (.aload_n 0, 1) := by decide +kernel
theorem dX8_readSum_6 : decode cX8_readSum 6 = .ok (.bipush 43, 2) := by decide +kernel
theorem dX8_readSum_8 : decode cX8_readSum 8 = .ok (.invokestatic 213, 3) := by decide +kernel
theorem dX8_readSum_11 : decode cX8_readSum 11 = .ok (.invokevirtual 175, 3) := by decide +kernel
theorem dX8_readSum_14 : decode cX8_readSum 14 = .ok (.ifCond .ne 15, 3) := by decide +kernel
theorem dX8_readSum_17 : decode cX8_readSum 17 = .ok (.aload_n 0, 1) := by decide +kernel
theorem dX8_readSum_18 : decode cX8_readSum 18 = .ok (.bipush 45, 2) := by decide +kernel
theorem dX8_readSum_20 : decode cX8_readSum 20 = .ok (.invokestatic 213, 3) := by decide +kernel
theorem dX8_readSum_23 : decode cX8_readSum 23 = .ok (.invokevirtual 175, 3) := by decide +kernel
theorem dX8_readSum_26 : decode cX8_readSum 26 = .ok (.ifCond .eq 11, 3) := by decide +kernel
theorem dX8_readSum_29 : decode cX8_readSum 29 = .ok (.aload_n 0, 1) := by decide +kernel
theorem dX8_readSum_30 : decode cX8_readSum 30 = .ok (.iload_n 1, 1) := by decide +kernel
theorem dX8_readSum_31 : decode cX8_readSum 31 = .ok (.invokevirtual 217, 3) := by decide +kernel
theorem dX8_readSum_34 : decode cX8_readSum 34 = .ok (.goto (-29), 3) := by decide +kernel
theorem dX8_readSum_37 : decode cX8_readSum 37 = .ok (.return_, 1) := by decide +kernel
theorem dX8_readTerm_0 : decode cX8_readTerm 0 = .ok (.aload_n 0, 1) := by decide +kernel
theorem dX8_readTerm_1 : decode cX8_readTerm 1 = .ok (.iload_n 1, 1) := by decide +kernel
theorem dX8_readTerm_2 : decode cX8_readTerm 2 = .ok (.invokevirtual 220, 3) := by decide +kernel
theorem dX8_readTerm_5 : decode cX8_readTerm 5 = .ok (.aload_n 0, 1) := by decide +kernel
theorem dX8_readTerm_6 : decode cX8_readTerm 6 = .ok (.bipush 42, 2) := by decide +kernel
theorem dX8_readTerm_8 : decode cX8_readTerm 8 = .ok (.invokestatic 213, 3) := by decide +kernel
theorem dX8_readTerm_11 : decode cX8_readTerm 11 = .ok (.invokevirtual 175, 3) := by decide +kernel
theorem dX8_readTerm_14 : decode cX8_readTerm 14 = .ok (.ifCond .ne 27, 3) := by decide +kernel
theorem dX8_readTerm_17 : decode cX8_readTerm 17 = .ok (.aload_n 0, 1) := by decide +kernel
theorem dX8_readTerm_18 : decode cX8_readTerm 18 = .ok (.bipush 47, 2) := by decide +kernel
theorem dX8_readTerm_20 : decode cX8_readTerm 20 = .ok (.invokestatic 213, 3) := by decide +kernel
theorem dX8_readTerm_23 : decode cX8_readTerm 23 = .ok (.invokevirtual 175, 3) := by decide +kernel
theorem dX8_readTerm_26 : decode cX8_readTerm 26 = .ok (.ifCond .ne 15, 3) := by decide +kernel
theorem dX8_readTerm_29 : decode cX8_readTerm 29 = .ok (.aload_n 0, 1) := by decide +kernel
theorem dX8_readTerm_30 : decode cX8_readTerm 30 = .ok (.bipush 37, 2) := by decide +kernel
theorem dX8_readTerm_32 : decode cX8_readTerm 32 = .ok (.invokestatic 213, 3) := by decide +kernel
theorem dX8_readTerm_35 : decode cX8_readTerm 35 = .ok (.invokevirtual 175, 3) := by decide +kernel
theorem dX8_readTerm_38 : decode cX8_readTerm 38 = .ok (.ifCond .eq 11, 3) := by decide +kernel
theorem dX8_readTerm_41 : decode cX8_readTerm 41 = .ok (.aload_n 0, 1) := by decide +kernel
theorem dX8_readTerm_42 : decode cX8_readTerm 42 = .ok (.iload_n 1, 1) := by decide +kernel
theorem dX8_readTerm_43 : decode cX8_readTerm 43 = .ok (.invokevirtual 220, 3) := by decide +kernel
theorem dX8_readTerm_46 : decode cX8_readTerm 46 = .ok (.goto (-41), 3) := by decide +kernel
theorem dX8_readTerm_49 : decode cX8_readTerm 49 = .ok (.return_, 1) := by decide +kernel
theorem dX8_readPart_0 : decode cX8_readPart 0 = .ok (.aload_n 0, 1) := by decide +kernel
theorem dX8_readPart_1 : decode cX8_readPart 1 = .ok (.invokevirtual 168, 3) := by decide +kernel
theorem dX8_readPart_4 : decode cX8_readPart 4 = .ok (.ifCond .ne 4, 3) := by decide +kernel
theorem dX8_readPart_7 : decode cX8_readPart 7 = .ok (.return_, 1) := by decide +kernel
theorem dX8_readPart_8 : decode cX8_readPart 8 = .ok (.aload_n 0, 1) := by decide +kernel
theorem dX8_readPart_9 : decode cX8_readPart 9 = .ok (.getfield 54, 3) := by decide +kernel
theorem dX8_readPart_12 : decode cX8_readPart 12 = .ok (.aload_n 0, 1) := by decide +kernel
theorem dX8_readPart_13 : decode cX8_readPart 13 = .ok (.getfield 172, 3) := by decide +kernel
theorem dX8_readPart_16 : decode cX8_readPart 16 = .ok (.iaload, 1) := by decide +kernel
theorem dX8_readPart_17 : decode cX8_readPart 17 = .ok (.istore_n 2, 1) := by decide +kernel
theorem dX8_readPart_18 : decode cX8_readPart 18 = .ok (.iload_n 2, 1) := by decide +kernel
theorem dX8_readPart_19 : decode cX8_readPart 19 = .ok (.bipush 91, 2) := by decide +kernel
theorem dX8_readPart_21 : decode cX8_readPart 21 = .ok (.invokestatic 213, 3) := by decide +kernel
theorem dX8_readPart_24 : decode cX8_readPart 24 = .ok (.if_icmp .ne 50, 3) := by decide +kernel
theorem dX8_readPart_27 : decode cX8_readPart 27 = .ok (.iload_n 1, 1) := by decide +kernel
theorem dX8_readPart_28 : decode cX8_readPart 28 = .ok (.bipush 8, 2) := by decide +kernel
theorem dX8_readPart_30 : decode cX8_readPart 30 = .ok (.if_icmp .ne 7, 3) := by decide +kernel
theorem dX8_readPart_33 : decode cX8_readPart 33 = .ok (.aload_n 0, 1) := by decide +kernel
theorem dX8_readPart_34 : decode cX8_readPart 34 = .ok (.invokevirtual 178, 3) := by decide +kernel
theorem dX8_readPart_37 : decode cX8_readPart 37 = .ok (.aload_n 0, 1) := by decide +kernel
theorem dX8_readPart_38 : decode cX8_readPart 38 = .ok (.invokevirtual 168, 3) := by decide +kernel
theorem dX8_readPart_41 : decode cX8_readPart 41 = .ok (.ifCond .ne 4, 3) := by decide +kernel
theorem dX8_readPart_44 : decode cX8_readPart 44 = .ok (.return_, 1) := by decide +kernel
theorem dX8_readPart_45 : decode cX8_readPart 45 = .ok (.aload_n 0, 1) := by decide +kernel
theorem dX8_readPart_46 : decode cX8_readPart 46 = .ok (.dup, 1) := by decide +kernel
theorem dX8_readPart_47 : decode cX8_readPart 47 = .ok (.getfield 172, 3) := by decide +kernel
theorem dX8_readPart_50 : decode cX8_readPart 50 = .ok (.iconst 1, 1) := by decide +kernel
theorem dX8_readPart_51 : decode cX8_readPart 51 = .ok (.iadd, 1) := by decide +kernel
theorem dX8_readPart_52 : decode cX8_readPart 52 = .ok (.putfield 172, 3) := by decide +kernel
theorem dX8_readPart_55 : decode cX8_readPart 55 = .ok (.aload_n 0, 1) := by decide +kernel
theorem dX8_readPart_56 : decode cX8_readPart 56 = .ok (.iload_n 1, 1) := by decide +kernel
theorem dX8_readPart_57 : decode cX8_readPart 57 = .ok (.iconst 1, 1) := by decide +kernel
theorem dX8_readPart_58 : decode cX8_readPart 58 = .ok (.iadd, 1) := by decide +kernel
theorem dX8_readPart_59 : decode cX8_readPart 59 = .ok (.invokevirtual 184, 3) := by decide +kernel
theorem dX8_readPart_62 : decode cX8_readPart 62 = .ok (.aload_n 0, 1) := by decide +kernel
theorem dX8_readPart_63 : decode cX8_readPart 63 = .ok (.bipush 93, 2) := by decide +kernel
theorem dX8_readPart_65 : decode cX8_readPart 65 = .ok (.invokestatic 213, 3) := by decide +kernel
theorem dX8_readPart_68 : decode cX8_readPart 68 = .ok (.invokevirtual 187, 3) := by decide +kernel
theorem dX8_readPart_71 : decode cX8_readPart 71 = .ok (.goto 76, 3) := by decide +kernel
theorem dX8_readPart_74 : decode cX8_readPart 74 = .ok (.iload_n 2, 1) := by decide +kernel
theorem dX8_readPart_75 : decode cX8_readPart 75 = .ok (.bipush 50, 2) := by decide +kernel
theorem dX8_readPart_77 : decode cX8_readPart 77 = .ok (.if_icmp .ne 18, 3) := by decide +kernel
theorem dX8_readPart_80 : decode cX8_readPart 80 = .ok (.aload_n 0, 1) := by decide +kernel
theorem dX8_readPart_81 : decode cX8_readPart 81 = .ok (.getfield 57, 3) := by decide +kernel
theorem dX8_readPart_84 : decode cX8_readPart 84 = .ok (.aload_n 0, 1) := by decide +kernel
theorem dX8_readPart_85 : decode cX8_readPart 85 = .ok (.getfield 172, 3) := by decide +kernel
theorem dX8_readPart_88 : decode cX8_readPart 88 = .ok (.iaload, 1) := by decide +kernel
theorem dX8_readPart_89 : decode cX8_readPart 89 = .ok (.sipush 1000, 3) := by decide +kernel
theorem dX8_readPart_92 : decode cX8_readPart 92 = .ok (.if_icmp .le 19, 3) := by decide +kernel
theorem dX8_readPart_95 : decode cX8_readPart 95 = .ok (.iload_n 2, 1) := by decide +kernel
theorem dX8_readPart_96 : decode cX8_readPart 96 = .ok (.aload_n 0, 1) := by decide +kernel
theorem dX8_readPart_97 : decode cX8_readPart 97 = .ok (.getfield 223, 3) := by decide +kernel
theorem dX8_readPart_100 : decode cX8_readPart 100 = .ok (.if_icmp .lt 43, 3) := by decide +kernel
theorem dX8_readPart_103 : decode cX8_readPart 103 = .ok (.iload_n 2, 1) := by decide +kernel
theorem dX8_readPart_104 : decode cX8_readPart 104 = .ok (.aload_n 0, 1) := by decide +kernel
theorem dX8_readPart_105 : decode cX8_readPart 105 = .ok (.getfield 226, 3) := by decide +kernel
theorem dX8_readPart_108 : decode cX8_readPart 108 = .ok (.if_icmp .gt 35, 3) := by decide +kernel
theorem dX8_readPart_111 : decode cX8_readPart 111 = .ok (.aload_n 0, 1) := by decide +kernel
theorem dX8_readPart_112 : decode cX8_readPart 112 = .ok (.invokevirtual 229, 3) := by decide +kernel
theorem dX8_readPart_115 : decode cX8_readPart 115 = .ok (.aload_n 0, 1) := by decide +kernel
theorem dX8_readPart_116 : decode cX8_readPart 116 = .ok (.getfield 197, 3) := by decide +kernel
theorem dX8_readPart_119 : decode cX8_readPart 119 = .ok (.ifCond .eq 28, 3) := by decide +kernel
theorem dX8_readPart_122 : decode cX8_readPart 122 = .ok (.iload_n 2, 1) := by decide +kernel
theorem dX8_readPart_123 : decode cX8_readPart 123 = .ok (.bipush 13, 2) := by decide +kernel
theorem dX8_readPart_125 : decode cX8_readPart 125 = .ok (.if_icmp .eq 9, 3) := by decide +kernel
theorem dX8_readPart_128 : decode cX8_readPart 128 = .ok (.iload_n 2, 1) := by decide +kernel
theorem dX8_readPart_129 : decode cX8_readPart 129 = .ok (.bipush 19, 2) := by decide +kernel
theorem dX8_readPart_131 : decode cX8_readPart 131 = .ok (.if_icmp .ne 16, 3) := by decide +kernel
theorem dX8_readPart_134 : decode cX8_readPart 134 = .ok (.aload_n 0, 1) := by decide +kernel
theorem dX8_readPart_135 : decode cX8_readPart 135 = .ok (.iconst 0, 1) := by decide +kernel
theorem dX8_readPart_136 : decode cX8_readPart 136 = .ok (.iconst 5, 1) := by decide +kernel
theorem dX8_readPart_137 : decode cX8_readPart 137 = .ok (.invokevirtual 193, 3) := by decide +kernel
theorem dX8_readPart_140 : decode cX8_readPart 140 = .ok (.goto 7, 3) := by decide +kernel
theorem dX8_readPart_143 : decode cX8_readPart 143 = .ok (.aload_n 0, 1) := by decide +kernel
theorem dX8_readPart_144 : decode cX8_readPart 144 = .ok (.invokevirtual 178, 3) := by decide +kernel
theorem dX8_readPart_147 : decode cX8_readPart 147 = .ok (.return_, 1) := by decide +kernel
theorem dX8_reads_0 : decode cX8_reads 0 = .ok (.aload_n 0, 1) := by decide +kernel
theorem dX8_reads_1 : decode cX8_reads 1 = .ok (.aload_n 0, 1) := by decide +kernel
theorem dX8_reads_2 : decode cX8_reads 2 = .ok (.getfield 145, 3) := by decide +kernel
theorem dX8_reads_5 : decode cX8_reads 5 = .ok (.invokevirtual 232, 3) := by decide +kernel
theorem dX8_reads_8 : decode cX8_reads 8 = .ok (.aload_n 0, 1) := by decide +kernel
theorem dX8_reads_9 : decode cX8_reads 9 = .ok (.iconst 0, 1) := by decide +kernel
theorem dX8_reads_10 : decode cX8_reads 10 = .ok (.putfield 145, 3) := by decide +kernel
theorem dX8_reads_13 : decode cX8_reads 13 = .ok (.aload_n 0, 1) := by decide +kernel
theorem dX8_reads_14 : decode cX8_reads 14 = .ok (.iconst 0, 1) := by decide +kernel
theorem dX8_reads_15 : decode cX8_reads 15 = .ok (.putfield 172, 3) := by decide +kernel
theorem dX8_reads_18 : decode cX8_reads 18 = .ok (.aload_n 0, 1) := by decide +kernel
theorem dX8_reads_19 : decode cX8_reads 19 = .ok (.iconst 0, 1) := by decide +kernel
theorem dX8_reads_20 : decode cX8_reads 20 = .ok (.putfield 181, 3) := by decide +kernel
theorem dX8_reads_23 : decode cX8_reads 23 = .ok (.aload_n 0, 1) := by decide +kernel
theorem dX8_reads_24 : decode cX8_reads 24 = .ok (.iconst (-1), 1) := by decide +kernel
theorem dX8_reads_25 : decode cX8_reads 25 = .ok (.putfield 165, 3) := by decide +kernel
theorem dX8_reads_28 : decode cX8_reads 28 = .ok (.aload_n 0, 1) := by decide +kernel
theorem dX8_reads_29 : decode cX8_reads 29 = .ok (.invokevirtual 235, 3) := by decide +kernel
theorem dX8_reads_32 : decode cX8_reads 32 = .ok (.iconst 1, 1) := by decide +kernel
theorem dX8_reads_33 : decode cX8_reads 33 = .ok (.istore_n 1, 1) := by decide +kernel
theorem dX8_reads_34 : decode cX8_reads 34 = .ok (.aload_n 0, 1) := by decide +kernel
theorem dX8_reads_35 : decode cX8_reads 35 = .ok (.bipush 59, 2) := by decide +kernel
theorem dX8_reads_37 : decode cX8_reads 37 = .ok (.invokestatic 213, 3) := by decide +kernel
theorem dX8_reads_40 : decode cX8_reads 40 = .ok (.invokevirtual 175, 3) := by decide +kernel
theorem dX8_reads_43 : decode cX8_reads 43 = .ok (.ifCond .eq 30, 3) := by decide +kernel
theorem dX8_reads_46 : decode cX8_reads 46 = .ok (.iload_n 1, 1) := by decide +kernel
theorem dX8_reads_47 : decode cX8_reads 47 = .ok (.bipush 12, 2) := by decide +kernel
theorem dX8_reads_49 : decode cX8_reads 49 = .ok (.if_icmp .ne 7, 3) := by decide +kernel
theorem dX8_reads_52 : decode cX8_reads 52 = .ok (.aload_n 0, 1) := by decide +kernel
theorem dX8_reads_53 : decode cX8_reads 53 = .ok (.invokevirtual 178, 3) := by decide +kernel
theorem dX8_reads_56 : decode cX8_reads 56 = .ok (.aload_n 0, 1) := by decide +kernel
theorem dX8_reads_57 : decode cX8_reads 57 = .ok (.invokevirtual 168, 3) := by decide +kernel
theorem dX8_reads_60 : decode cX8_reads 60 = .ok (.ifCond .eq 7, 3) := by decide +kernel
theorem dX8_reads_63 : decode cX8_reads 63 = .ok (.aload_n 0, 1) := by decide +kernel
theorem dX8_reads_64 : decode cX8_reads 64 = .ok (.invokevirtual 235, 3) := by decide +kernel
theorem dX8_reads_67 : decode cX8_reads 67 = .ok (.iinc 1 1, 3) := by decide +kernel
theorem dX8_reads_70 : decode cX8_reads 70 = .ok (.goto (-36), 3) := by decide +kernel
theorem dX8_reads_73 : decode cX8_reads 73 = .ok (.aload_n 0, 1) := by decide +kernel
theorem dX8_reads_74 : decode cX8_reads 74 = .ok (.invokevirtual 168, 3) := by decide +kernel
theorem dX8_reads_77 : decode cX8_reads 77 = .ok (.ifCond .eq 18, 3) := by decide +kernel
theorem dX8_reads_80 : decode cX8_reads 80 = .ok (.aload_n 0, 1) := by decide +kernel
theorem dX8_reads_81 : decode cX8_reads 81 = .ok (.getfield 172, 3) := by decide +kernel
theorem dX8_reads_84 : decode cX8_reads 84 = .ok (.aload_n 0, 1) := by decide +kernel
theorem dX8_reads_85 : decode cX8_reads 85 = .ok (.getfield 151, 3) := by decide +kernel
theorem dX8_reads_88 : decode cX8_reads 88 = .ok (.if_icmp .ge 7, 3) := by decide +kernel
theorem dX8_reads_91 : decode cX8_reads 91 = .ok (.aload_n 0, 1) := by decide +kernel
theorem dX8_reads_92 : decode cX8_reads 92 = .ok (.invokevirtual 178, 3) := by decide +kernel
theorem dX8_reads_95 : decode cX8_reads 95 = .ok (.aload_n 0, 1) := by decide +kernel
theorem dX8_reads_96 : decode cX8_reads 96 = .ok (.aload_n 0, 1) := by decide +kernel
theorem dX8_reads_97 : decode cX8_reads 97 = .ok (.getfield 165, 3) := by decide +kernel
theorem dX8_reads_100 : decode cX8_reads 100 = .ok (.putfield 51, 3) := by decide +kernel
theorem dX8_reads_103 : decode cX8_reads 103 = .ok (.aload_n 0, 1) := by decide +kernel
theorem dX8_reads_104 : decode cX8_reads 104 = .ok (.invokevirtual 168, 3) := by decide +kernel
theorem dX8_reads_107 : decode cX8_reads 107 = .ok (.ireturn, 1) := by decide +kernel
theorem dX8_readsAs_0 : decode cX8_readsAs 0 = .ok (.aload_n 0, 1) := by decide +kernel
theorem dX8_readsAs_1 : decode cX8_readsAs 1 = .ok (.iload_n 1, 1) := by decide +kernel
theorem dX8_readsAs_2 : decode cX8_readsAs 2 = .ok (.putfield 197, 3) := by decide +kernel
theorem dX8_readsAs_5 : decode cX8_readsAs 5 = .ok (.aload_n 0, 1) := by decide +kernel
theorem dX8_readsAs_6 : decode cX8_readsAs 6 = .ok (.iload_n 1, 1) := by decide +kernel
theorem dX8_readsAs_7 : decode cX8_readsAs 7 = .ok (.ifCond .eq 8, 3) := by decide +kernel
theorem dX8_readsAs_10 : decode cX8_readsAs 10 = .ok (.bipush 13, 2) := by decide +kernel
theorem dX8_readsAs_12 : decode cX8_readsAs 12 = .ok (.goto 5, 3) := by decide +kernel
theorem dX8_readsAs_15 : decode cX8_readsAs 15 = .ok (.bipush 9, 2) := by decide +kernel
theorem dX8_readsAs_17 : decode cX8_readsAs 17 = .ok (.putfield 223, 3) := by decide +kernel
theorem dX8_readsAs_20 : decode cX8_readsAs 20 = .ok (.aload_n 0, 1) := by decide +kernel
theorem dX8_readsAs_21 : decode cX8_readsAs 21 = .ok (.iload_n 1, 1) := by decide +kernel
theorem dX8_readsAs_22 : decode cX8_readsAs 22 = .ok (.ifCond .eq 8, 3) := by decide +kernel
theorem dX8_readsAs_25 : decode cX8_readsAs 25 = .ok (.bipush 19, 2) := by decide +kernel
theorem dX8_readsAs_27 : decode cX8_readsAs 27 = .ok (.goto 5, 3) := by decide +kernel
theorem dX8_readsAs_30 : decode cX8_readsAs 30 = .ok (.bipush 15, 2) := by decide +kernel
theorem dX8_readsAs_32 : decode cX8_readsAs 32 = .ok (.putfield 226, 3) := by decide +kernel
theorem dX8_readsAs_35 : decode cX8_readsAs 35 = .ok (.aload_n 0, 1) := by decide +kernel
theorem dX8_readsAs_36 : decode cX8_readsAs 36 = .ok (.invokevirtual 238, 3) := by decide +kernel
theorem dX8_readsAs_39 : decode cX8_readsAs 39 = .ok (.ireturn, 1) := by decide +kernel
theorem dX8_lays_0 : decode cX8_lays 0 = .ok (.aload_n 0, 1) := by decide +kernel
theorem dX8_lays_1 : decode cX8_lays 1 = .ok (.getfield 28, 3) := by decide +kernel
theorem dX8_lays_4 : decode cX8_lays 4 = .ok (.bipush 20, 2) := by decide +kernel
theorem dX8_lays_6 : decode cX8_lays 6 = .ok (.iload_n 1, 1) := by decide +kernel
theorem dX8_lays_7 : decode cX8_lays 7 = .ok (.iadd, 1) := by decide +kernel
theorem dX8_lays_8 : decode cX8_lays 8 = .ok (.aload_n 0, 1) := by decide +kernel
theorem dX8_lays_9 : decode cX8_lays 9 = .ok (.getfield 151, 3) := by decide +kernel
theorem dX8_lays_12 : decode cX8_lays 12 = .ok (.iastore, 1) := by decide +kernel
theorem dX8_lays_13 : decode cX8_lays 13 = .ok (.iconst 0, 1) := by decide +kernel
theorem dX8_lays_14 : decode cX8_lays 14 = .ok (.istore_n 2, 1) := by decide +kernel
theorem dX8_lays_15 : decode cX8_lays 15 = .ok (.iload_n 2, 1) := by decide +kernel
theorem dX8_lays_16 : decode cX8_lays 16 = .ok (.aload_n 0, 1) := by decide +kernel
theorem dX8_lays_17 : decode cX8_lays 17 = .ok (.getfield 151, 3) := by decide +kernel
theorem dX8_lays_20 : decode cX8_lays 20 = .ok (.if_icmp .ge 52, 3) := by decide +kernel
theorem dX8_lays_23 : decode cX8_lays 23 = .ok (.aload_n 0, 1) := by decide +kernel
theorem dX8_lays_24 : decode cX8_lays 24 = .ok (.getfield 28, 3) := by decide +kernel
theorem dX8_lays_27 : decode cX8_lays 27 = .ok (.bipush 27, 2) := by decide +kernel
theorem dX8_lays_29 : decode cX8_lays 29 = .ok (.sipush 400, 3) := by decide +kernel
theorem dX8_lays_32 : decode cX8_lays 32 = .ok (.iload_n 1, 1) := by decide +kernel
theorem dX8_lays_33 : decode cX8_lays 33 = .ok (.imul, 1) := by decide +kernel
theorem dX8_lays_34 : decode cX8_lays 34 = .ok (.iadd, 1) := by decide +kernel
theorem dX8_lays_35 : decode cX8_lays 35 = .ok (.iload_n 2, 1) := by decide +kernel
theorem dX8_lays_36 : decode cX8_lays 36 = .ok (.iadd, 1) := by decide +kernel
theorem dX8_lays_37 : decode cX8_lays 37 = .ok (.aload_n 0, 1) := by decide +kernel
theorem dX8_lays_38 : decode cX8_lays 38 = .ok (.getfield 54, 3) := by decide +kernel
theorem dX8_lays_41 : decode cX8_lays 41 = .ok (.iload_n 2, 1) := by decide +kernel
theorem dX8_lays_42 : decode cX8_lays 42 = .ok (.iaload, 1) := by decide +kernel
theorem dX8_lays_43 : decode cX8_lays 43 = .ok (.iastore, 1) := by decide +kernel
theorem dX8_lays_44 : decode cX8_lays 44 = .ok (.aload_n 0, 1) := by decide +kernel
theorem dX8_lays_45 : decode cX8_lays 45 = .ok (.getfield 28, 3) := by decide +kernel
theorem dX8_lays_48 : decode cX8_lays 48 = .ok (.sipush 2827, 3) := by decide +kernel
theorem dX8_lays_51 : decode cX8_lays 51 = .ok (.sipush 400, 3) := by decide +kernel
theorem dX8_lays_54 : decode cX8_lays 54 = .ok (.iload_n 1, 1) := by decide +kernel
theorem dX8_lays_55 : decode cX8_lays 55 = .ok (.imul, 1) := by decide +kernel
theorem dX8_lays_56 : decode cX8_lays 56 = .ok (.iadd, 1) := by decide +kernel
theorem dX8_lays_57 : decode cX8_lays 57 = .ok (.iload_n 2, 1) := by decide +kernel
theorem dX8_lays_58 : decode cX8_lays 58 = .ok (.iadd, 1) := by decide +kernel
theorem dX8_lays_59 : decode cX8_lays 59 = .ok (.aload_n 0, 1) := by decide +kernel
theorem dX8_lays_60 : decode cX8_lays 60 = .ok (.getfield 57, 3) := by decide +kernel
theorem dX8_lays_63 : decode cX8_lays 63 = .ok (.iload_n 2, 1) := by decide +kernel
theorem dX8_lays_64 : decode cX8_lays 64 = .ok (.iaload, 1) := by decide +kernel
theorem dX8_lays_65 : decode cX8_lays 65 = .ok (.iastore, 1) := by decide +kernel
theorem dX8_lays_66 : decode cX8_lays 66 = .ok (.iinc 2 1, 3) := by decide +kernel
theorem dX8_lays_69 : decode cX8_lays 69 = .ok (.goto (-54), 3) := by decide +kernel
theorem dX8_lays_72 : decode cX8_lays 72 = .ok (.return_, 1) := by decide +kernel
theorem dX8_law_0 : decode cX8_law 0 = .ok (.aload_n 0, 1) := by decide +kernel
theorem dX8_law_1 : decode cX8_law 1 = .ok (.getfield 28, 3) := by decide +kernel
theorem dX8_law_4 : decode cX8_law 4 = .ok (.bipush 18, 2) := by decide +kernel
theorem dX8_law_6 : decode cX8_law 6 = .ok (.iaload, 1) := by decide +kernel
theorem dX8_law_7 : decode cX8_law 7 = .ok (.bipush 6, 2) := by decide +kernel
theorem dX8_law_9 : decode cX8_law 9 = .ok (.if_icmp .ne 15, 3) := by decide +kernel
theorem dX8_law_12 : decode cX8_law 12 = .ok (.aload_n 0, 1) := by decide +kernel
theorem dX8_law_13 : decode cX8_law 13 = .ok (.iconst 0, 1) := by decide +kernel
theorem dX8_law_14 : decode cX8_law 14 = .ok (.putfield 145, 3) := by decide +kernel
theorem dX8_law_17 : decode cX8_law 17 = .ok (.aload_n 0, 1) := by decide +kernel
theorem dX8_law_18 : decode cX8_law 18 = .ok (.bipush (-5), 2) := by decide +kernel
theorem dX8_law_20 : decode cX8_law 20 = .ok (.invokevirtual 119, 3) := by decide +kernel
theorem dX8_law_23 : decode cX8_law 23 = .ok (.ireturn, 1) := by decide +kernel
theorem dX8_law_24 : decode cX8_law 24 = .ok (.aload_n 0, 1) := by decide +kernel
theorem dX8_law_25 : decode cX8_law 25 = .ok (.iconst 0, 1) := by decide +kernel
theorem dX8_law_26 : decode cX8_law 26 = .ok (.invokevirtual 241, 3) := by decide +kernel
theorem dX8_law_29 : decode cX8_law 29 = .ok (.ifCond .ne 10, 3) := by decide +kernel
theorem dX8_law_32 : decode cX8_law 32 = .ok (.aload_n 0, 1) := by decide +kernel
theorem dX8_law_33 : decode cX8_law 33 = .ok (.bipush (-6), 2) := by decide +kernel
theorem dX8_law_35 : decode cX8_law 35 = .ok (.invokevirtual 119, 3) := by decide +kernel
theorem dX8_law_38 : decode cX8_law 38 = .ok (.ireturn, 1) := by decide +kernel
theorem dX8_law_39 : decode cX8_law 39 = .ok (.aload_n 0, 1) := by decide +kernel
theorem dX8_law_40 : decode cX8_law 40 = .ok (.aload_n 0, 1) := by decide +kernel
theorem dX8_law_41 : decode cX8_law 41 = .ok (.getfield 28, 3) := by decide +kernel
theorem dX8_law_44 : decode cX8_law 44 = .ok (.bipush 18, 2) := by decide +kernel
theorem dX8_law_46 : decode cX8_law 46 = .ok (.iaload, 1) := by decide +kernel
theorem dX8_law_47 : decode cX8_law 47 = .ok (.invokevirtual 245, 3) := by decide +kernel
theorem dX8_law_50 : decode cX8_law 50 = .ok (.aload_n 0, 1) := by decide +kernel
theorem dX8_law_51 : decode cX8_law 51 = .ok (.getfield 28, 3) := by decide +kernel
theorem dX8_law_54 : decode cX8_law 54 = .ok (.bipush 18, 2) := by decide +kernel
theorem dX8_law_56 : decode cX8_law 56 = .ok (.dup2, 1) := by decide +kernel
theorem dX8_law_57 : decode cX8_law 57 = .ok (.iaload, 1) := by decide +kernel
theorem dX8_law_58 : decode cX8_law 58 = .ok (.iconst 1, 1) := by decide +kernel
theorem dX8_law_59 : decode cX8_law 59 = .ok (.iadd, 1) := by decide +kernel
theorem dX8_law_60 : decode cX8_law 60 = .ok (.iastore, 1) := by decide +kernel
theorem dX8_law_61 : decode cX8_law 61 = .ok (.aload_n 0, 1) := by decide +kernel
theorem dX8_law_62 : decode cX8_law 62 = .ok (.aload_n 0, 1) := by decide +kernel
theorem dX8_law_63 : decode cX8_law 63 = .ok (.getfield 28, 3) := by decide +kernel
theorem dX8_law_66 : decode cX8_law 66 = .ok (.bipush 18, 2) := by decide +kernel
theorem dX8_law_68 : decode cX8_law 68 = .ok (.iaload, 1) := by decide +kernel
theorem dX8_law_69 : decode cX8_law 69 = .ok (.iconst 1, 1) := by decide +kernel
theorem dX8_law_70 : decode cX8_law 70 = .ok (.isub, 1) := by decide +kernel
theorem dX8_law_71 : decode cX8_law 71 = .ok (.invokevirtual 14, 3) := by decide +kernel
theorem dX8_law_74 : decode cX8_law 74 = .ok (.ireturn, 1) := by decide +kernel
theorem dX8_fault_0 : decode cX8_fault 0 = .ok (.aload_n 0, 1) := by decide +kernel
theorem dX8_fault_1 : decode cX8_fault 1 = .ok (.getfield 51, 3) := by decide +kernel
theorem dX8_fault_4 : decode cX8_fault 4 = .ok (.ireturn, 1) := by decide +kernel
theorem dX8_isLaw_0 : decode cX8_isLaw 0 = .ok (.iload_n 1, 1) := by decide +kernel
theorem dX8_isLaw_1 : decode cX8_isLaw 1 = .ok (.iconst (-1), 1) := by decide +kernel
theorem dX8_isLaw_2 : decode cX8_isLaw 2 = .ok (.aload_n 0, 1) := by decide +kernel
theorem dX8_isLaw_3 : decode cX8_isLaw 3 = .ok (.getfield 28, 3) := by decide +kernel
theorem dX8_isLaw_6 : decode cX8_isLaw 6 = .ok (.bipush 18, 2) := by decide +kernel
theorem dX8_isLaw_8 : decode cX8_isLaw 8 = .ok (.iaload, 1) := by decide +kernel
theorem dX8_isLaw_9 : decode cX8_isLaw 9 = .ok (.iconst 1, 1) := by decide +kernel
theorem dX8_isLaw_10 : decode cX8_isLaw 10 = .ok (.isub, 1) := by decide +kernel
theorem dX8_isLaw_11 : decode cX8_isLaw 11 = .ok (.invokestatic 115, 3) := by decide +kernel
theorem dX8_isLaw_14 : decode cX8_isLaw 14 = .ok (.ireturn, 1) := by decide +kernel
theorem dX8_force_0 : decode cX8_force 0 = .ok (.aload_n 0, 1) := by decide +kernel
theorem dX8_force_1 : decode cX8_force 1 = .ok (.iload_n 1, 1) := by decide +kernel
theorem dX8_force_2 : decode cX8_force 2 = .ok (.invokevirtual 248, 3) := by decide +kernel
theorem dX8_force_5 : decode cX8_force 5 = .ok (.ifCond .ne 10, 3) := by decide +kernel
theorem dX8_force_8 : decode cX8_force 8 = .ok (.aload_n 0, 1) := by decide +kernel
theorem dX8_force_9 : decode cX8_force 9 = .ok (.bipush (-2), 2) := by decide +kernel
theorem dX8_force_11 : decode cX8_force 11 = .ok (.invokevirtual 119, 3) := by decide +kernel
theorem dX8_force_14 : decode cX8_force 14 = .ok (.ireturn, 1) := by decide +kernel
theorem dX8_force_15 : decode cX8_force 15 = .ok (.aload_n 0, 1) := by decide +kernel
theorem dX8_force_16 : decode cX8_force 16 = .ok (.getfield 28, 3) := by decide +kernel
theorem dX8_force_19 : decode cX8_force 19 = .ok (.bipush 19, 2) := by decide +kernel
theorem dX8_force_21 : decode cX8_force 21 = .ok (.iaload, 1) := by decide +kernel
theorem dX8_force_22 : decode cX8_force 22 = .ok (.istore_n 2, 1) := by decide +kernel
theorem dX8_force_23 : decode cX8_force 23 = .ok (.aload_n 0, 1) := by decide +kernel
theorem dX8_force_24 : decode cX8_force 24 = .ok (.getfield 28, 3) := by decide +kernel
theorem dX8_force_27 : decode cX8_force 27 = .ok (.bipush 19, 2) := by decide +kernel
theorem dX8_force_29 : decode cX8_force 29 = .ok (.iload_n 1, 1) := by decide +kernel
theorem dX8_force_30 : decode cX8_force 30 = .ok (.iastore, 1) := by decide +kernel
theorem dX8_force_31 : decode cX8_force 31 = .ok (.aload_n 0, 1) := by decide +kernel
theorem dX8_force_32 : decode cX8_force 32 = .ok (.iload_n 2, 1) := by decide +kernel
theorem dX8_force_33 : decode cX8_force 33 = .ok (.invokevirtual 14, 3) := by decide +kernel
theorem dX8_force_36 : decode cX8_force 36 = .ok (.ireturn, 1) := by decide +kernel
theorem dX8_codeAt_0 : decode cX8_codeAt 0 = .ok (.iload_n 1, 1) := by decide +kernel
theorem dX8_codeAt_1 : decode cX8_codeAt 1 = .ok (.aload_n 0, 1) := by decide +kernel
theorem dX8_codeAt_2 : decode cX8_codeAt 2 = .ok (.getfield 251, 3) := by decide +kernel
theorem dX8_codeAt_5 : decode cX8_codeAt 5 = .ok (.if_icmp .ge 15, 3) := by decide +kernel
theorem dX8_codeAt_8 : decode cX8_codeAt 8 = .ok (.aload_n 0, 1) := by decide +kernel
theorem dX8_codeAt_9 : decode cX8_codeAt 9 = .ok (.getfield 28, 3) := by decide +kernel
theorem dX8_codeAt_12 : decode cX8_codeAt 12 = .ok (.bipush 27, 2) := by decide +kernel
theorem dX8_codeAt_14 : decode cX8_codeAt 14 = .ok (.iload_n 1, 1) := by decide +kernel
theorem dX8_codeAt_15 : decode cX8_codeAt 15 = .ok (.iadd, 1) := by decide +kernel
theorem dX8_codeAt_16 : decode cX8_codeAt 16 = .ok (.iaload, 1) := by decide +kernel
theorem dX8_codeAt_17 : decode cX8_codeAt 17 = .ok (.goto 4, 3) := by decide +kernel
theorem dX8_codeAt_20 : decode cX8_codeAt 20 = .ok (.iconst 0, 1) := by decide +kernel
theorem dX8_codeAt_21 : decode cX8_codeAt 21 = .ok (.ireturn, 1) := by decide +kernel
theorem dX8_passes0_0 : decode cX8_passes0 0 = .ok (.aload_n 0, 1) := by decide +kernel
theorem dX8_passes0_1 : decode cX8_passes0 1 = .ok (.aload_n 0, 1) := by decide +kernel
theorem dX8_passes0_2 : decode cX8_passes0 2 = .ok (.getfield 254, 3) := by decide +kernel
theorem dX8_passes0_5 : decode cX8_passes0 5 = .ok (.invokevirtual 257, 3) := by decide +kernel
theorem dX8_passes0_8 : decode cX8_passes0 8 = .ok (.iload_n 1, 1) := by decide +kernel
theorem dX8_passes0_9 : decode cX8_passes0 9 = .ok (.if_icmp .ne 7, 3) := by decide +kernel
theorem dX8_passes0_12 : decode cX8_passes0 12 = .ok (.iconst 1, 1) := by decide +kernel
theorem dX8_passes0_13 : decode cX8_passes0 13 = .ok (.goto 4, 3) := by decide +kernel
theorem dX8_passes0_16 : decode cX8_passes0 16 = .ok (.iconst 0, 1) := by decide +kernel
theorem dX8_passes0_17 : decode cX8_passes0 17 = .ok (.istore_n 2, 1) := by decide +kernel
theorem dX8_passes0_18 : decode cX8_passes0 18 = .ok (.iload_n 2, 1) := by decide +kernel
theorem dX8_passes0_19 : decode cX8_passes0 19 = .ok (.ifCond .eq 13, 3) := by decide +kernel
theorem dX8_passes0_22 : decode cX8_passes0 22 = .ok (.aload_n 0, 1) := by decide +kernel
theorem dX8_passes0_23 : decode cX8_passes0 23 = .ok (.dup, 1) := by decide +kernel
theorem dX8_passes0_24 : decode cX8_passes0 24 = .ok (.getfield 254, 3) := by decide +kernel
theorem dX8_passes0_27 : decode cX8_passes0 27 = .ok (.iconst 1, 1) := by decide +kernel
theorem dX8_passes0_28 : decode cX8_passes0 28 = .ok (.iadd, 1) := by decide +kernel
theorem dX8_passes0_29 : decode cX8_passes0 29 = .ok (.putfield 254, 3) := by decide +kernel
theorem dX8_passes0_32 : decode cX8_passes0 32 = .ok (.iload_n 2, 1) := by decide +kernel
theorem dX8_passes0_33 : decode cX8_passes0 33 = .ok (.ireturn, 1) := by decide +kernel
theorem dX8_bounded_0 : decode cX8_bounded 0 = .ok (.iload_n 3, 1) := by decide +kernel
theorem dX8_bounded_1 : decode cX8_bounded 1 = .ok (.ifCond .eq 24, 3) := by decide +kernel
theorem dX8_bounded_4 : decode cX8_bounded 4 = .ok (.lload_n 1, 1) := by decide +kernel
theorem dX8_bounded_5 : decode cX8_bounded 5 = .ok (.ldc2_w 260, 3) := by decide +kernel
theorem dX8_bounded_8 : decode cX8_bounded 8 = .ok (.lcmp, 1) := by decide +kernel
theorem dX8_bounded_9 : decode cX8_bounded 9 = .ok (.ifCond .gt 11, 3) := by decide +kernel
theorem dX8_bounded_12 : decode cX8_bounded 12 = .ok (.lload_n 1, 1) := by decide +kernel
theorem dX8_bounded_13 : decode cX8_bounded 13 = .ok (.ldc2_w 262, 3) := by decide +kernel
theorem dX8_bounded_16 : decode cX8_bounded 16 = .ok (.lcmp, 1) := by decide +kernel
theorem dX8_bounded_17 : decode cX8_bounded 17 = .ok (.ifCond .ge 8, 3) := by decide +kernel
theorem dX8_bounded_20 : decode cX8_bounded 20 = .ok (.aload_n 0, 1) := by decide +kernel
theorem dX8_bounded_21 : decode cX8_bounded 21 = .ok (.iconst 1, 1) := by decide +kernel
theorem dX8_bounded_22 : decode cX8_bounded 22 = .ok (.putfield 264, 3) := by decide +kernel
theorem dX8_bounded_25 : decode cX8_bounded 25 = .ok (.aload_n 0, 1) := by decide +kernel
theorem dX8_bounded_26 : decode cX8_bounded 26 = .ok (.getfield 264, 3) := by decide +kernel
theorem dX8_bounded_29 : decode cX8_bounded 29 = .ok (.ifCond .eq 7, 3) := by decide +kernel
theorem dX8_bounded_32 : decode cX8_bounded 32 = .ok (.lconst 0, 1) := by decide +kernel
theorem dX8_bounded_33 : decode cX8_bounded 33 = .ok (.goto 4, 3) := by decide +kernel
theorem dX8_bounded_36 : decode cX8_bounded 36 = .ok (.lload_n 1, 1) := by decide +kernel
theorem dX8_bounded_37 : decode cX8_bounded 37 = .ok (.lreturn, 1) := by decide +kernel
theorem dX8_sumOf_0 : decode cX8_sumOf 0 = .ok (.aload_n 0, 1) := by decide +kernel
theorem dX8_sumOf_1 : decode cX8_sumOf 1 = .ok (.iload_n 1, 1) := by decide +kernel
theorem dX8_sumOf_2 : decode cX8_sumOf 2 = .ok (.invokevirtual 267, 3) := by decide +kernel
theorem dX8_sumOf_5 : decode cX8_sumOf 5 = .ok (.lstore_n 2, 1) := by decide +kernel
theorem dX8_sumOf_6 : decode cX8_sumOf 6 = .ok (.aload_n 0, 1) := by decide +kernel
theorem dX8_sumOf_7 : decode cX8_sumOf 7 = .ok (.aload_n 0, 1) := by decide +kernel
theorem dX8_sumOf_8 : decode cX8_sumOf 8 = .ok (.getfield 254, 3) := by decide +kernel
theorem dX8_sumOf_11 : decode cX8_sumOf 11 = .ok (.invokevirtual 257, 3) := by decide +kernel
theorem dX8_sumOf_14 : decode cX8_sumOf 14 = .ok (.bipush 43, 2) := by decide +kernel
theorem dX8_sumOf_16 : decode cX8_sumOf 16 = .ok (.invokestatic 213, 3) := by decide +kernel
theorem dX8_sumOf_19 : decode cX8_sumOf 19 = .ok (.if_icmp .eq 19, 3) := by decide +kernel
theorem dX8_sumOf_22 : decode cX8_sumOf 22 = .ok (.aload_n 0, 1) := by decide +kernel
theorem dX8_sumOf_23 : decode cX8_sumOf 23 = .ok (.aload_n 0, 1) := by decide +kernel
theorem dX8_sumOf_24 : decode cX8_sumOf 24 = .ok (.getfield 254, 3) := by decide +kernel
theorem dX8_sumOf_27 : decode cX8_sumOf 27 = .ok (.invokevirtual 257, 3) := by decide +kernel
theorem dX8_sumOf_30 : decode cX8_sumOf 30 = .ok (.bipush 45, 2) := by decide +kernel
theorem dX8_sumOf_32 : decode cX8_sumOf 32 = .ok (.invokestatic 213, 3) := by decide +kernel
theorem dX8_sumOf_35 : decode cX8_sumOf 35 = .ok (.if_icmp .ne 68, 3) := by decide +kernel
theorem dX8_sumOf_38 : decode cX8_sumOf 38 = .ok (.aload_n 0, 1) := by decide +kernel
theorem dX8_sumOf_39 : decode cX8_sumOf 39 = .ok (.aload_n 0, 1) := by decide +kernel
theorem dX8_sumOf_40 : decode cX8_sumOf 40 = .ok (.getfield 254, 3) := by decide +kernel
theorem dX8_sumOf_43 : decode cX8_sumOf 43 = .ok (.invokevirtual 257, 3) := by decide +kernel
theorem dX8_sumOf_46 : decode cX8_sumOf 46 = .ok (.bipush 43, 2) := by decide +kernel
theorem dX8_sumOf_48 : decode cX8_sumOf 48 = .ok (.invokestatic 213, 3) := by decide +kernel
theorem dX8_sumOf_51 : decode cX8_sumOf 51 = .ok (.if_icmp .ne 7, 3) := by decide +kernel
theorem dX8_sumOf_54 : decode cX8_sumOf 54 = .ok (.iconst 1, 1) := by decide +kernel
theorem dX8_sumOf_55 : decode cX8_sumOf 55 = .ok (.goto 4, 3) := by decide +kernel
theorem dX8_sumOf_58 : decode cX8_sumOf 58 = .ok (.iconst 0, 1) := by decide +kernel
theorem dX8_sumOf_59 : decode cX8_sumOf 59 = .ok (.istore 4, 2) := by decide +kernel
theorem dX8_sumOf_61 : decode cX8_sumOf 61 = .ok (.aload_n 0, 1) := by decide +kernel
theorem dX8_sumOf_62 : decode cX8_sumOf 62 = .ok (.dup, 1) := by decide +kernel
theorem dX8_sumOf_63 : decode cX8_sumOf 63 = .ok (.getfield 254, 3) := by decide +kernel
theorem dX8_sumOf_66 : decode cX8_sumOf 66 = .ok (.iconst 1, 1) := by decide +kernel
theorem dX8_sumOf_67 : decode cX8_sumOf 67 = .ok (.iadd, 1) := by decide +kernel
theorem dX8_sumOf_68 : decode cX8_sumOf 68 = .ok (.putfield 254, 3) := by decide +kernel
theorem dX8_sumOf_71 : decode cX8_sumOf 71 = .ok (.aload_n 0, 1) := by decide +kernel
theorem dX8_sumOf_72 : decode cX8_sumOf 72 = .ok (.iload_n 1, 1) := by decide +kernel
theorem dX8_sumOf_73 : decode cX8_sumOf 73 = .ok (.invokevirtual 267, 3) := by decide +kernel
theorem dX8_sumOf_76 : decode cX8_sumOf 76 = .ok (.lstore 5, 2) := by decide +kernel
theorem dX8_sumOf_78 : decode cX8_sumOf 78 = .ok (.aload_n 0, 1) := by decide +kernel
theorem dX8_sumOf_79 : decode cX8_sumOf 79 = .ok (.iload 4, 2) := by decide +kernel
theorem dX8_sumOf_81 : decode cX8_sumOf 81 = .ok (.ifCond .eq 10, 3) := by decide +kernel
theorem dX8_sumOf_84 : decode cX8_sumOf 84 = .ok (.lload_n 2, 1) := by decide +kernel
theorem dX8_sumOf_85 : decode cX8_sumOf 85 = .ok (.lload 5, 2) := by decide +kernel
theorem dX8_sumOf_87 : decode cX8_sumOf 87 = .ok (.ladd, 1) := by decide +kernel
theorem dX8_sumOf_88 : decode cX8_sumOf 88 = .ok (.goto 7, 3) := by decide +kernel
theorem dX8_sumOf_91 : decode cX8_sumOf 91 = .ok (.lload_n 2, 1) := by decide +kernel
theorem dX8_sumOf_92 : decode cX8_sumOf 92 = .ok (.lload 5, 2) := by decide +kernel
theorem dX8_sumOf_94 : decode cX8_sumOf 94 = .ok (.lsub, 1) := by decide +kernel
theorem dX8_sumOf_95 : decode cX8_sumOf 95 = .ok (.iload_n 1, 1) := by decide +kernel
theorem dX8_sumOf_96 : decode cX8_sumOf 96 = .ok (.invokevirtual 271, 3) := by decide +kernel
theorem dX8_sumOf_99 : decode cX8_sumOf 99 = .ok (.lstore_n 2, 1) := by decide +kernel
theorem dX8_sumOf_100 : decode cX8_sumOf 100 = .ok (.goto (-94), 3) := by decide +kernel
theorem dX8_sumOf_103 : decode cX8_sumOf 103 = .ok (.lload_n 2, 1) := by decide +kernel
theorem dX8_sumOf_104 : decode cX8_sumOf 104 = .ok (.lreturn, 1) := by decide +kernel
theorem dX8_termOf_0 : decode cX8_termOf 0 = .ok (.aload_n 0, 1) := by decide +kernel
theorem dX8_termOf_1 : decode cX8_termOf 1 = .ok (.iload_n 1, 1) := by decide +kernel
theorem dX8_termOf_2 : decode cX8_termOf 2 = .ok (.invokevirtual 275, 3) := by decide +kernel
theorem dX8_termOf_5 : decode cX8_termOf 5 = .ok (.lstore_n 2, 1) := by decide +kernel
theorem dX8_termOf_6 : decode cX8_termOf 6 = .ok (.aload_n 0, 1) := by decide +kernel
theorem dX8_termOf_7 : decode cX8_termOf 7 = .ok (.aload_n 0, 1) := by decide +kernel
theorem dX8_termOf_8 : decode cX8_termOf 8 = .ok (.getfield 254, 3) := by decide +kernel
theorem dX8_termOf_11 : decode cX8_termOf 11 = .ok (.invokevirtual 257, 3) := by decide +kernel
theorem dX8_termOf_14 : decode cX8_termOf 14 = .ok (.bipush 42, 2) := by decide +kernel
theorem dX8_termOf_16 : decode cX8_termOf 16 = .ok (.invokestatic 213, 3) := by decide +kernel
theorem dX8_termOf_19 : decode cX8_termOf 19 = .ok (.if_icmp .eq 35, 3) := by decide +kernel
theorem dX8_termOf_22 : decode cX8_termOf 22 = .ok (.aload_n 0, 1) := by decide +kernel
theorem dX8_termOf_23 : decode cX8_termOf 23 = .ok (.aload_n 0, 1) := by decide +kernel
theorem dX8_termOf_24 : decode cX8_termOf 24 = .ok (.getfield 254, 3) := by decide +kernel
theorem dX8_termOf_27 : decode cX8_termOf 27 = .ok (.invokevirtual 257, 3) := by decide +kernel
theorem dX8_termOf_30 : decode cX8_termOf 30 = .ok (.bipush 47, 2) := by decide +kernel
theorem dX8_termOf_32 : decode cX8_termOf 32 = .ok (.invokestatic 213, 3) := by decide +kernel
theorem dX8_termOf_35 : decode cX8_termOf 35 = .ok (.if_icmp .eq 19, 3) := by decide +kernel
theorem dX8_termOf_38 : decode cX8_termOf 38 = .ok (.aload_n 0, 1) := by decide +kernel
theorem dX8_termOf_39 : decode cX8_termOf 39 = .ok (.aload_n 0, 1) := by decide +kernel
theorem dX8_termOf_40 : decode cX8_termOf 40 = .ok (.getfield 254, 3) := by decide +kernel
theorem dX8_termOf_43 : decode cX8_termOf 43 = .ok (.invokevirtual 257, 3) := by decide +kernel
theorem dX8_termOf_46 : decode cX8_termOf 46 = .ok (.bipush 37, 2) := by decide +kernel
theorem dX8_termOf_48 : decode cX8_termOf 48 = .ok (.invokestatic 213, 3) := by decide +kernel
theorem dX8_termOf_51 : decode cX8_termOf 51 = .ok (.if_icmp .ne 117, 3) := by decide +kernel
theorem dX8_termOf_54 : decode cX8_termOf 54 = .ok (.aload_n 0, 1) := by decide +kernel
theorem dX8_termOf_55 : decode cX8_termOf 55 = .ok (.aload_n 0, 1) := by decide +kernel
theorem dX8_termOf_56 : decode cX8_termOf 56 = .ok (.getfield 254, 3) := by decide +kernel
theorem dX8_termOf_59 : decode cX8_termOf 59 = .ok (.invokevirtual 257, 3) := by decide +kernel
theorem dX8_termOf_62 : decode cX8_termOf 62 = .ok (.istore 4, 2) := by decide +kernel
theorem dX8_termOf_64 : decode cX8_termOf 64 = .ok (.aload_n 0, 1) := by decide +kernel
theorem dX8_termOf_65 : decode cX8_termOf 65 = .ok (.dup, 1) := by decide +kernel
theorem dX8_termOf_66 : decode cX8_termOf 66 = .ok (.getfield 254, 3) := by decide +kernel
theorem dX8_termOf_69 : decode cX8_termOf 69 = .ok (.iconst 1, 1) := by decide +kernel
theorem dX8_termOf_70 : decode cX8_termOf 70 = .ok (.iadd, 1) := by decide +kernel
theorem dX8_termOf_71 : decode cX8_termOf 71 = .ok (.putfield 254, 3) := by decide +kernel
theorem dX8_termOf_74 : decode cX8_termOf 74 = .ok (.aload_n 0, 1) := by decide +kernel
theorem dX8_termOf_75 : decode cX8_termOf 75 = .ok (.iload_n 1, 1) := by decide +kernel
theorem dX8_termOf_76 : decode cX8_termOf 76 = .ok (.invokevirtual 275, 3) := by decide +kernel
theorem dX8_termOf_79 : decode cX8_termOf 79 = .ok (.lstore 5, 2) := by decide +kernel
theorem dX8_termOf_81 : decode cX8_termOf 81 = .ok (.iload 4, 2) := by decide +kernel
theorem dX8_termOf_83 : decode cX8_termOf 83 = .ok (.bipush 42, 2) := by decide +kernel
theorem dX8_termOf_85 : decode cX8_termOf 85 = .ok (.invokestatic 213, 3) := by decide +kernel
theorem dX8_termOf_88 : decode cX8_termOf 88 = .ok (.if_icmp .eq 33, 3) := by decide +kernel
theorem dX8_termOf_91 : decode cX8_termOf 91 = .ok (.lload 5, 2) := by decide +kernel
theorem dX8_termOf_93 : decode cX8_termOf 93 = .ok (.lconst 0, 1) := by decide +kernel
theorem dX8_termOf_94 : decode cX8_termOf 94 = .ok (.lcmp, 1) := by decide +kernel
theorem dX8_termOf_95 : decode cX8_termOf 95 = .ok (.ifCond .ne 26, 3) := by decide +kernel
theorem dX8_termOf_98 : decode cX8_termOf 98 = .ok (.aload_n 0, 1) := by decide +kernel
theorem dX8_termOf_99 : decode cX8_termOf 99 = .ok (.aload_n 0, 1) := by decide +kernel
theorem dX8_termOf_100 : decode cX8_termOf 100 = .ok (.getfield 264, 3) := by decide +kernel
theorem dX8_termOf_103 : decode cX8_termOf 103 = .ok (.ifCond .ne 7, 3) := by decide +kernel
theorem dX8_termOf_106 : decode cX8_termOf 106 = .ok (.iload_n 1, 1) := by decide +kernel
theorem dX8_termOf_107 : decode cX8_termOf 107 = .ok (.ifCond .eq 7, 3) := by decide +kernel
theorem dX8_termOf_110 : decode cX8_termOf 110 = .ok (.iconst 1, 1) := by decide +kernel
theorem dX8_termOf_111 : decode cX8_termOf 111 = .ok (.goto 4, 3) := by decide +kernel
theorem dX8_termOf_114 : decode cX8_termOf 114 = .ok (.iconst 0, 1) := by decide +kernel
theorem dX8_termOf_115 : decode cX8_termOf 115 = .ok (.putfield 264, 3) := by decide +kernel
theorem dX8_termOf_118 : decode cX8_termOf 118 = .ok (.lconst 1, 1) := by decide +kernel
theorem dX8_termOf_119 : decode cX8_termOf 119 = .ok (.lstore 5, 2) := by decide +kernel
theorem dX8_termOf_121 : decode cX8_termOf 121 = .ok (.aload_n 0, 1) := by decide +kernel
theorem dX8_termOf_122 : decode cX8_termOf 122 = .ok (.iload 4, 2) := by decide +kernel
theorem dX8_termOf_124 : decode cX8_termOf 124 = .ok (.bipush 42, 2) := by decide +kernel
theorem dX8_termOf_126 : decode cX8_termOf 126 = .ok (.invokestatic 213, 3) := by decide +kernel
theorem dX8_termOf_129 : decode cX8_termOf 129 = .ok (.if_icmp .ne 10, 3) := by decide +kernel
theorem dX8_termOf_132 : decode cX8_termOf 132 = .ok (.lload_n 2, 1) := by decide +kernel
theorem dX8_termOf_133 : decode cX8_termOf 133 = .ok (.lload 5, 2) := by decide +kernel
theorem dX8_termOf_135 : decode cX8_termOf 135 = .ok (.lmul, 1) := by decide +kernel
theorem dX8_termOf_136 : decode cX8_termOf 136 = .ok (.goto 24, 3) := by decide +kernel
theorem dX8_termOf_139 : decode cX8_termOf 139 = .ok (.iload 4, 2) := by decide +kernel
theorem dX8_termOf_141 : decode cX8_termOf 141 = .ok (.bipush 47, 2) := by decide +kernel
theorem dX8_termOf_143 : decode cX8_termOf 143 = .ok (.invokestatic 213, 3) := by decide +kernel
theorem dX8_termOf_146 : decode cX8_termOf 146 = .ok (.if_icmp .ne 10, 3) := by decide +kernel
theorem dX8_termOf_149 : decode cX8_termOf 149 = .ok (.lload_n 2, 1) := by decide +kernel
theorem dX8_termOf_150 : decode cX8_termOf 150 = .ok (.lload 5, 2) := by decide +kernel
theorem dX8_termOf_152 : decode cX8_termOf 152 = .ok (.ldiv, 1) := by decide +kernel
theorem dX8_termOf_153 : decode cX8_termOf 153 = .ok (.goto 7, 3) := by decide +kernel
theorem dX8_termOf_156 : decode cX8_termOf 156 = .ok (.lload_n 2, 1) := by decide +kernel
theorem dX8_termOf_157 : decode cX8_termOf 157 = .ok (.lload 5, 2) := by decide +kernel
theorem dX8_termOf_159 : decode cX8_termOf 159 = .ok (.lrem, 1) := by decide +kernel
theorem dX8_termOf_160 : decode cX8_termOf 160 = .ok (.iload_n 1, 1) := by decide +kernel
theorem dX8_termOf_161 : decode cX8_termOf 161 = .ok (.invokevirtual 271, 3) := by decide +kernel
theorem dX8_termOf_164 : decode cX8_termOf 164 = .ok (.lstore_n 2, 1) := by decide +kernel
theorem dX8_termOf_165 : decode cX8_termOf 165 = .ok (.goto (-159), 3) := by decide +kernel
theorem dX8_termOf_168 : decode cX8_termOf 168 = .ok (.lload_n 2, 1) := by decide +kernel
theorem dX8_termOf_169 : decode cX8_termOf 169 = .ok (.lreturn, 1) := by decide +kernel
theorem dX8_partOf_0 : decode cX8_partOf 0 = .ok (.aload_n 0, 1) := by decide +kernel
theorem dX8_partOf_1 : decode cX8_partOf 1 = .ok (.bipush 91, 2) := by decide +kernel
theorem dX8_partOf_3 : decode cX8_partOf 3 = .ok (.invokestatic 213, 3) := by decide +kernel
theorem dX8_partOf_6 : decode cX8_partOf 6 = .ok (.invokevirtual 278, 3) := by decide +kernel
theorem dX8_partOf_9 : decode cX8_partOf 9 = .ok (.ifCond .eq 21, 3) := by decide +kernel
theorem dX8_partOf_12 : decode cX8_partOf 12 = .ok (.aload_n 0, 1) := by decide +kernel
theorem dX8_partOf_13 : decode cX8_partOf 13 = .ok (.iload_n 1, 1) := by decide +kernel
theorem dX8_partOf_14 : decode cX8_partOf 14 = .ok (.invokevirtual 281, 3) := by decide +kernel
theorem dX8_partOf_17 : decode cX8_partOf 17 = .ok (.lstore_n 2, 1) := by decide +kernel
theorem dX8_partOf_18 : decode cX8_partOf 18 = .ok (.aload_n 0, 1) := by decide +kernel
theorem dX8_partOf_19 : decode cX8_partOf 19 = .ok (.dup, 1) := by decide +kernel
theorem dX8_partOf_20 : decode cX8_partOf 20 = .ok (.getfield 254, 3) := by decide +kernel
theorem dX8_partOf_23 : decode cX8_partOf 23 = .ok (.iconst 1, 1) := by decide +kernel
theorem dX8_partOf_24 : decode cX8_partOf 24 = .ok (.iadd, 1) := by decide +kernel
theorem dX8_partOf_25 : decode cX8_partOf 25 = .ok (.putfield 254, 3) := by decide +kernel
theorem dX8_partOf_28 : decode cX8_partOf 28 = .ok (.lload_n 2, 1) := by decide +kernel
theorem dX8_partOf_29 : decode cX8_partOf 29 = .ok (.lreturn, 1) := by decide +kernel
theorem dX8_partOf_30 : decode cX8_partOf 30 = .ok (.aload_n 0, 1) := by decide +kernel
theorem dX8_partOf_31 : decode cX8_partOf 31 = .ok (.aload_n 0, 1) := by decide +kernel
theorem dX8_partOf_32 : decode cX8_partOf 32 = .ok (.getfield 254, 3) := by decide +kernel
theorem dX8_partOf_35 : decode cX8_partOf 35 = .ok (.invokevirtual 257, 3) := by decide +kernel
theorem dX8_partOf_38 : decode cX8_partOf 38 = .ok (.istore_n 2, 1) := by decide +kernel
theorem dX8_partOf_39 : decode cX8_partOf 39 = .ok (.iconst 0, 1) := by decide +kernel
theorem dX8_partOf_40 : decode cX8_partOf 40 = .ok (.istore_n 3, 1) := by decide +kernel
theorem dX8_partOf_41 : decode cX8_partOf 41 = .ok (.aload_n 0, 1) := by decide +kernel
theorem dX8_partOf_42 : decode cX8_partOf 42 = .ok (.dup, 1) := by decide +kernel
theorem dX8_partOf_43 : decode cX8_partOf 43 = .ok (.getfield 254, 3) := by decide +kernel
theorem dX8_partOf_46 : decode cX8_partOf 46 = .ok (.iconst 1, 1) := by decide +kernel
theorem dX8_partOf_47 : decode cX8_partOf 47 = .ok (.iadd, 1) := by decide +kernel
theorem dX8_partOf_48 : decode cX8_partOf 48 = .ok (.putfield 254, 3) := by decide +kernel
theorem dX8_partOf_51 : decode cX8_partOf 51 = .ok (.aload_n 0, 1) := by decide +kernel
theorem dX8_partOf_52 : decode cX8_partOf 52 = .ok (.getfield 284, 3) := by decide +kernel
theorem dX8_partOf_55 : decode cX8_partOf 55 = .ok (.ifCond .eq 39, 3) := by decide +kernel
theorem dX8_partOf_58 : decode cX8_partOf 58 = .ok (.iload_n 2, 1) := by decide +kernel
theorem dX8_partOf_59 : decode cX8_partOf 59 = .ok (.bipush 13, 2) := by decide +kernel
theorem dX8_partOf_61 : decode cX8_partOf 61 = .ok (.if_icmp .eq 9, 3) := by decide +kernel
theorem dX8_partOf_64 : decode cX8_partOf 64 = .ok (.iload_n 2, 1) := by decide +kernel
theorem dX8_partOf_65 : decode cX8_partOf 65 = .ok (.bipush 19, 2) := by decide +kernel
theorem dX8_partOf_67 : decode cX8_partOf 67 = .ok (.if_icmp .ne 27, 3) := by decide +kernel
theorem dX8_partOf_70 : decode cX8_partOf 70 = .ok (.aload_n 0, 1) := by decide +kernel
theorem dX8_partOf_71 : decode cX8_partOf 71 = .ok (.getfield 28, 3) := by decide +kernel
theorem dX8_partOf_74 : decode cX8_partOf 74 = .ok (.sipush 2827, 3) := by decide +kernel
theorem dX8_partOf_77 : decode cX8_partOf 77 = .ok (.aload_n 0, 1) := by decide +kernel
theorem dX8_partOf_78 : decode cX8_partOf 78 = .ok (.getfield 254, 3) := by decide +kernel
theorem dX8_partOf_81 : decode cX8_partOf 81 = .ok (.iadd, 1) := by decide +kernel
theorem dX8_partOf_82 : decode cX8_partOf 82 = .ok (.iaload, 1) := by decide +kernel
theorem dX8_partOf_83 : decode cX8_partOf 83 = .ok (.istore_n 3, 1) := by decide +kernel
theorem dX8_partOf_84 : decode cX8_partOf 84 = .ok (.aload_n 0, 1) := by decide +kernel
theorem dX8_partOf_85 : decode cX8_partOf 85 = .ok (.dup, 1) := by decide +kernel
theorem dX8_partOf_86 : decode cX8_partOf 86 = .ok (.getfield 254, 3) := by decide +kernel
theorem dX8_partOf_89 : decode cX8_partOf 89 = .ok (.iconst 1, 1) := by decide +kernel
theorem dX8_partOf_90 : decode cX8_partOf 90 = .ok (.iadd, 1) := by decide +kernel
theorem dX8_partOf_91 : decode cX8_partOf 91 = .ok (.putfield 254, 3) := by decide +kernel
theorem dX8_partOf_94 : decode cX8_partOf 94 = .ok (.iload_n 1, 1) := by decide +kernel
theorem dX8_partOf_95 : decode cX8_partOf 95 = .ok (.ifCond .eq 10, 3) := by decide +kernel
theorem dX8_partOf_98 : decode cX8_partOf 98 = .ok (.aload_n 0, 1) := by decide +kernel
theorem dX8_partOf_99 : decode cX8_partOf 99 = .ok (.getfield 264, 3) := by decide +kernel
theorem dX8_partOf_102 : decode cX8_partOf 102 = .ok (.ifCond .eq 5, 3) := by decide +kernel
theorem dX8_partOf_105 : decode cX8_partOf 105 = .ok (.lconst 0, 1) := by decide +kernel
theorem dX8_partOf_106 : decode cX8_partOf 106 = .ok (.lreturn, 1) := by decide +kernel
theorem dX8_partOf_107 : decode cX8_partOf 107 = .ok (.iload_n 2, 1) := by decide +kernel
theorem dX8_partOf_108 : decode cX8_partOf 108 = .ok (.bipush 50, 2) := by decide +kernel
theorem dX8_partOf_110 : decode cX8_partOf 110 = .ok (.if_icmp .ne 20, 3) := by decide +kernel
theorem dX8_partOf_113 : decode cX8_partOf 113 = .ok (.aload_n 0, 1) := by decide +kernel
theorem dX8_partOf_114 : decode cX8_partOf 114 = .ok (.getfield 28, 3) := by decide +kernel
theorem dX8_partOf_117 : decode cX8_partOf 117 = .ok (.sipush 2827, 3) := by decide +kernel
theorem dX8_partOf_120 : decode cX8_partOf 120 = .ok (.aload_n 0, 1) := by decide +kernel
theorem dX8_partOf_121 : decode cX8_partOf 121 = .ok (.getfield 254, 3) := by decide +kernel
theorem dX8_partOf_124 : decode cX8_partOf 124 = .ok (.iadd, 1) := by decide +kernel
theorem dX8_partOf_125 : decode cX8_partOf 125 = .ok (.iconst 1, 1) := by decide +kernel
theorem dX8_partOf_126 : decode cX8_partOf 126 = .ok (.isub, 1) := by decide +kernel
theorem dX8_partOf_127 : decode cX8_partOf 127 = .ok (.iaload, 1) := by decide +kernel
theorem dX8_partOf_128 : decode cX8_partOf 128 = .ok (.i2l, 1) := by decide +kernel
theorem dX8_partOf_129 : decode cX8_partOf 129 = .ok (.lreturn, 1) := by decide +kernel
theorem dX8_partOf_130 : decode cX8_partOf 130 = .ok (.aload_n 0, 1) := by decide +kernel
theorem dX8_partOf_131 : decode cX8_partOf 131 = .ok (.getfield 284, 3) := by decide +kernel
theorem dX8_partOf_134 : decode cX8_partOf 134 = .ok (.ifCond .eq 13, 3) := by decide +kernel
theorem dX8_partOf_137 : decode cX8_partOf 137 = .ok (.aload_n 0, 1) := by decide +kernel
theorem dX8_partOf_138 : decode cX8_partOf 138 = .ok (.iload_n 2, 1) := by decide +kernel
theorem dX8_partOf_139 : decode cX8_partOf 139 = .ok (.iload_n 3, 1) := by decide +kernel
theorem dX8_partOf_140 : decode cX8_partOf 140 = .ok (.invokevirtual 287, 3) := by decide +kernel
theorem dX8_partOf_143 : decode cX8_partOf 143 = .ok (.i2l, 1) := by decide +kernel
theorem dX8_partOf_144 : decode cX8_partOf 144 = .ok (.goto 13, 3) := by decide +kernel
theorem dX8_partOf_147 : decode cX8_partOf 147 = .ok (.aload_n 0, 1) := by decide +kernel
theorem dX8_partOf_148 : decode cX8_partOf 148 = .ok (.getfield 63, 3) := by decide +kernel
theorem dX8_partOf_151 : decode cX8_partOf 151 = .ok (.iload_n 2, 1) := by decide +kernel
theorem dX8_partOf_152 : decode cX8_partOf 152 = .ok (.bipush 9, 2) := by decide +kernel
theorem dX8_partOf_154 : decode cX8_partOf 154 = .ok (.isub, 1) := by decide +kernel
theorem dX8_partOf_155 : decode cX8_partOf 155 = .ok (.iaload, 1) := by decide +kernel
theorem dX8_partOf_156 : decode cX8_partOf 156 = .ok (.i2l, 1) := by decide +kernel
theorem dX8_partOf_157 : decode cX8_partOf 157 = .ok (.lreturn, 1) := by decide +kernel
theorem dX8_orderValue_0 : decode cX8_orderValue 0 = .ok (.iload_n 1, 1) := by decide +kernel
theorem dX8_orderValue_1 : decode cX8_orderValue 1 = .ok (.tableswitch 79 13 19 #[43, 57, 62, 69, 74, 79, 50], 43) := by decide +kernel
theorem dX8_orderValue_44 : decode cX8_orderValue 44 = .ok (.aload_n 0, 1) := by decide +kernel
theorem dX8_orderValue_45 : decode cX8_orderValue 45 = .ok (.iload_n 2, 1) := by decide +kernel
theorem dX8_orderValue_46 : decode cX8_orderValue 46 = .ok (.iconst 0, 1) := by decide +kernel
theorem dX8_orderValue_47 : decode cX8_orderValue 47 = .ok (.invokevirtual 290, 3) := by decide +kernel
theorem dX8_orderValue_50 : decode cX8_orderValue 50 = .ok (.ireturn, 1) := by decide +kernel
theorem dX8_orderValue_51 : decode cX8_orderValue 51 = .ok (.aload_n 0, 1) := by decide +kernel
theorem dX8_orderValue_52 : decode cX8_orderValue 52 = .ok (.iload_n 2, 1) := by decide +kernel
theorem dX8_orderValue_53 : decode cX8_orderValue 53 = .ok (.iconst 1, 1) := by decide +kernel
theorem dX8_orderValue_54 : decode cX8_orderValue 54 = .ok (.invokevirtual 290, 3) := by decide +kernel
theorem dX8_orderValue_57 : decode cX8_orderValue 57 = .ok (.ireturn, 1) := by decide +kernel
theorem dX8_orderValue_58 : decode cX8_orderValue 58 = .ok (.aload_n 0, 1) := by decide +kernel
theorem dX8_orderValue_59 : decode cX8_orderValue 59 = .ok (.invokevirtual 293, 3) := by decide +kernel
theorem dX8_orderValue_62 : decode cX8_orderValue 62 = .ok (.ireturn, 1) := by decide +kernel
theorem dX8_orderValue_63 : decode cX8_orderValue 63 = .ok (.aload_n 0, 1) := by decide +kernel
theorem dX8_orderValue_64 : decode cX8_orderValue 64 = .ok (.getfield 28, 3) := by decide +kernel
theorem dX8_orderValue_67 : decode cX8_orderValue 67 = .ok (.iconst 2, 1) := by decide +kernel
theorem dX8_orderValue_68 : decode cX8_orderValue 68 = .ok (.iaload, 1) := by decide +kernel
theorem dX8_orderValue_69 : decode cX8_orderValue 69 = .ok (.ireturn, 1) := by decide +kernel
theorem dX8_orderValue_70 : decode cX8_orderValue 70 = .ok (.aload_n 0, 1) := by decide +kernel
theorem dX8_orderValue_71 : decode cX8_orderValue 71 = .ok (.getfield 297, 3) := by decide +kernel
theorem dX8_orderValue_74 : decode cX8_orderValue 74 = .ok (.ireturn, 1) := by decide +kernel
theorem dX8_orderValue_75 : decode cX8_orderValue 75 = .ok (.aload_n 0, 1) := by decide +kernel
theorem dX8_orderValue_76 : decode cX8_orderValue 76 = .ok (.getfield 300, 3) := by decide +kernel
theorem dX8_orderValue_79 : decode cX8_orderValue 79 = .ok (.ireturn, 1) := by decide +kernel
theorem dX8_orderValue_80 : decode cX8_orderValue 80 = .ok (.aload_n 0, 1) := by decide +kernel
theorem dX8_orderValue_81 : decode cX8_orderValue 81 = .ok (.getfield 28, 3) := by decide +kernel
theorem dX8_orderValue_84 : decode cX8_orderValue 84 = .ok (.iconst 1, 1) := by decide +kernel
theorem dX8_orderValue_85 : decode cX8_orderValue 85 = .ok (.iaload, 1) := by decide +kernel
theorem dX8_orderValue_86 : decode cX8_orderValue 86 = .ok (.ireturn, 1) := by decide +kernel
theorem dX8_testOf_0 : decode cX8_testOf 0 = .ok (.aload_n 0, 1) := by decide +kernel
theorem dX8_testOf_1 : decode cX8_testOf 1 = .ok (.iload_n 1, 1) := by decide +kernel
theorem dX8_testOf_2 : decode cX8_testOf 2 = .ok (.invokevirtual 303, 3) := by decide +kernel
theorem dX8_testOf_5 : decode cX8_testOf 5 = .ok (.istore_n 2, 1) := by decide +kernel
theorem dX8_testOf_6 : decode cX8_testOf 6 = .ok (.aload_n 0, 1) := by decide +kernel
theorem dX8_testOf_7 : decode cX8_testOf 7 = .ok (.bipush 6, 2) := by decide +kernel
theorem dX8_testOf_9 : decode cX8_testOf 9 = .ok (.invokevirtual 278, 3) := by decide +kernel
theorem dX8_testOf_12 : decode cX8_testOf 12 = .ok (.ifCond .eq 38, 3) := by decide +kernel
theorem dX8_testOf_15 : decode cX8_testOf 15 = .ok (.aload_n 0, 1) := by decide +kernel
theorem dX8_testOf_16 : decode cX8_testOf 16 = .ok (.iload_n 1, 1) := by decide +kernel
theorem dX8_testOf_17 : decode cX8_testOf 17 = .ok (.ifCond .eq 11, 3) := by decide +kernel
theorem dX8_testOf_20 : decode cX8_testOf 20 = .ok (.iload_n 2, 1) := by decide +kernel
theorem dX8_testOf_21 : decode cX8_testOf 21 = .ok (.ifCond .ne 7, 3) := by decide +kernel
theorem dX8_testOf_24 : decode cX8_testOf 24 = .ok (.iconst 1, 1) := by decide +kernel
theorem dX8_testOf_25 : decode cX8_testOf 25 = .ok (.goto 4, 3) := by decide +kernel
theorem dX8_testOf_28 : decode cX8_testOf 28 = .ok (.iconst 0, 1) := by decide +kernel
theorem dX8_testOf_29 : decode cX8_testOf 29 = .ok (.invokevirtual 303, 3) := by decide +kernel
theorem dX8_testOf_32 : decode cX8_testOf 32 = .ok (.istore_n 3, 1) := by decide +kernel
theorem dX8_testOf_33 : decode cX8_testOf 33 = .ok (.iload_n 2, 1) := by decide +kernel
theorem dX8_testOf_34 : decode cX8_testOf 34 = .ok (.ifCond .ne 7, 3) := by decide +kernel
theorem dX8_testOf_37 : decode cX8_testOf 37 = .ok (.iload_n 3, 1) := by decide +kernel
theorem dX8_testOf_38 : decode cX8_testOf 38 = .ok (.ifCond .eq 7, 3) := by decide +kernel
theorem dX8_testOf_41 : decode cX8_testOf 41 = .ok (.iconst 1, 1) := by decide +kernel
theorem dX8_testOf_42 : decode cX8_testOf 42 = .ok (.goto 4, 3) := by decide +kernel
theorem dX8_testOf_45 : decode cX8_testOf 45 = .ok (.iconst 0, 1) := by decide +kernel
theorem dX8_testOf_46 : decode cX8_testOf 46 = .ok (.istore_n 2, 1) := by decide +kernel
theorem dX8_testOf_47 : decode cX8_testOf 47 = .ok (.goto (-41), 3) := by decide +kernel
theorem dX8_testOf_50 : decode cX8_testOf 50 = .ok (.iload_n 2, 1) := by decide +kernel
theorem dX8_testOf_51 : decode cX8_testOf 51 = .ok (.ireturn, 1) := by decide +kernel
