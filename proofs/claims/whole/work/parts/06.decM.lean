theorem dX8_init_0 : decode cX8_init 0 = .ok (.aload_n 0, 1) := by decide +kernel
theorem dX8_init_1 : decode cX8_init 1 = .ok (.invokespecial 1, 3) := by decide +kernel
theorem dX8_init_4 : decode cX8_init 4 = .ok (.aload_n 0, 1) := by decide +kernel
theorem dX8_init_5 : decode cX8_init 5 = .ok (.bipush 60, 2) := by decide +kernel
theorem dX8_init_7 : decode cX8_init 7 = .ok (.newarray .int, 2) := by decide +kernel
theorem dX8_init_9 : decode cX8_init 9 = .ok (.putfield 7, 3) := by decide +kernel
theorem dX8_init_12 : decode cX8_init 12 = .ok (.aload_n 0, 1) := by decide +kernel
theorem dX8_init_13 : decode cX8_init 13 = .ok (.bipush 12, 2) := by decide +kernel
theorem dX8_init_15 : decode cX8_init 15 = .ok (.newarray .int, 2) := by decide +kernel
theorem dX8_init_17 : decode cX8_init 17 = .ok (.putfield 13, 3) := by decide +kernel
theorem dX8_init_20 : decode cX8_init 20 = .ok (.aload_n 0, 1) := by decide +kernel
theorem dX8_init_21 : decode cX8_init 21 = .ok (.bipush 12, 2) := by decide +kernel
theorem dX8_init_23 : decode cX8_init 23 = .ok (.newarray .int, 2) := by decide +kernel
theorem dX8_init_25 : decode cX8_init 25 = .ok (.putfield 16, 3) := by decide +kernel
theorem dX8_init_28 : decode cX8_init 28 = .ok (.aload_n 0, 1) := by decide +kernel
theorem dX8_init_29 : decode cX8_init 29 = .ok (.bipush 12, 2) := by decide +kernel
theorem dX8_init_31 : decode cX8_init 31 = .ok (.newarray .int, 2) := by decide +kernel
theorem dX8_init_33 : decode cX8_init 33 = .ok (.putfield 19, 3) := by decide +kernel
theorem dX8_init_36 : decode cX8_init 36 = .ok (.aload_n 0, 1) := by decide +kernel
theorem dX8_init_37 : decode cX8_init 37 = .ok (.sipush 144, 3) := by decide +kernel
theorem dX8_init_40 : decode cX8_init 40 = .ok (.newarray .int, 2) := by decide +kernel
theorem dX8_init_42 : decode cX8_init 42 = .ok (.putfield 22, 3) := by decide +kernel
theorem dX8_init_45 : decode cX8_init 45 = .ok (.aload_n 0, 1) := by decide +kernel
theorem dX8_init_46 : decode cX8_init 46 = .ok (.bipush 12, 2) := by decide +kernel
theorem dX8_init_48 : decode cX8_init 48 = .ok (.newarray .int, 2) := by decide +kernel
theorem dX8_init_50 : decode cX8_init 50 = .ok (.putfield 25, 3) := by decide +kernel
theorem dX8_init_53 : decode cX8_init 53 = .ok (.aload_n 0, 1) := by decide +kernel
theorem dX8_init_54 : decode cX8_init 54 = .ok (.bipush 12, 2) := by decide +kernel
theorem dX8_init_56 : decode cX8_init 56 = .ok (.newarray .int, 2) := by decide +kernel
theorem dX8_init_58 : decode cX8_init 58 = .ok (.putfield 28, 3) := by decide +kernel
theorem dX8_init_61 : decode cX8_init 61 = .ok (.aload_n 0, 1) := by decide +kernel
theorem dX8_init_62 : decode cX8_init 62 = .ok (.sipush 144, 3) := by decide +kernel
theorem dX8_init_65 : decode cX8_init 65 = .ok (.newarray .int, 2) := by decide +kernel
theorem dX8_init_67 : decode cX8_init 67 = .ok (.putfield 31, 3) := by decide +kernel
theorem dX8_init_70 : decode cX8_init 70 = .ok (.aload_n 0, 1) := by decide +kernel
theorem dX8_init_71 : decode cX8_init 71 = .ok (.sipush 144, 3) := by decide +kernel
theorem dX8_init_74 : decode cX8_init 74 = .ok (.newarray .int, 2) := by decide +kernel
theorem dX8_init_76 : decode cX8_init 76 = .ok (.putfield 34, 3) := by decide +kernel
theorem dX8_init_79 : decode cX8_init 79 = .ok (.aload_n 0, 1) := by decide +kernel
theorem dX8_init_80 : decode cX8_init 80 = .ok (.sipush 144, 3) := by decide +kernel
theorem dX8_init_83 : decode cX8_init 83 = .ok (.newarray .int, 2) := by decide +kernel
theorem dX8_init_85 : decode cX8_init 85 = .ok (.putfield 37, 3) := by decide +kernel
theorem dX8_init_88 : decode cX8_init 88 = .ok (.aload_n 0, 1) := by decide +kernel
theorem dX8_init_89 : decode cX8_init 89 = .ok (.bipush 12, 2) := by decide +kernel
theorem dX8_init_91 : decode cX8_init 91 = .ok (.newarray .int, 2) := by decide +kernel
theorem dX8_init_93 : decode cX8_init 93 = .ok (.putfield 40, 3) := by decide +kernel
theorem dX8_init_96 : decode cX8_init 96 = .ok (.aload_n 0, 1) := by decide +kernel
theorem dX8_init_97 : decode cX8_init 97 = .ok (.bipush 12, 2) := by decide +kernel
theorem dX8_init_99 : decode cX8_init 99 = .ok (.newarray .int, 2) := by decide +kernel
theorem dX8_init_101 : decode cX8_init 101 = .ok (.putfield 43, 3) := by decide +kernel
theorem dX8_init_104 : decode cX8_init 104 = .ok (.aload_n 0, 1) := by decide +kernel
theorem dX8_init_105 : decode cX8_init 105 = .ok (.bipush 12, 2) := by decide +kernel
theorem dX8_init_107 : decode cX8_init 107 = .ok (.newarray .int, 2) := by decide +kernel
theorem dX8_init_109 : decode cX8_init 109 = .ok (.putfield 46, 3) := by decide +kernel
theorem dX8_init_112 : decode cX8_init 112 = .ok (.aload_n 0, 1) := by decide +kernel
theorem dX8_init_113 : decode cX8_init 113 = .ok (.bipush 12, 2) := by decide +kernel
theorem dX8_init_115 : decode cX8_init 115 = .ok (.newarray .int, 2) := by decide +kernel
theorem dX8_init_117 : decode cX8_init 117 = .ok (.putfield 49, 3) := by decide +kernel
theorem dX8_init_120 : decode cX8_init 120 = .ok (.aload_n 0, 1) := by decide +kernel
theorem dX8_init_121 : decode cX8_init 121 = .ok (.bipush 12, 2) := by decide +kernel
theorem dX8_init_123 : decode cX8_init 123 = .ok (.newarray .boolean, 2) := by decide +kernel
theorem dX8_init_125 : decode cX8_init 125 = .ok (.putfield 52, 3) := by decide +kernel
theorem dX8_init_128 : decode cX8_init 128 = .ok (.aload_n 0, 1) := by decide +kernel
theorem dX8_init_129 : decode cX8_init 129 = .ok (.sipush 144, 3) := by decide +kernel
theorem dX8_init_132 : decode cX8_init 132 = .ok (.newarray .int, 2) := by decide +kernel
theorem dX8_init_134 : decode cX8_init 134 = .ok (.putfield 56, 3) := by decide +kernel
theorem dX8_init_137 : decode cX8_init 137 = .ok (.aload_n 0, 1) := by decide +kernel
theorem dX8_init_138 : decode cX8_init 138 = .ok (.sipush 144, 3) := by decide +kernel
theorem dX8_init_141 : decode cX8_init 141 = .ok (.newarray .int, 2) := by decide +kernel
theorem dX8_init_143 : decode cX8_init 143 = .ok (.putfield 59, 3) := by decide +kernel
theorem dX8_init_146 : decode cX8_init 146 = .ok (.aload_n 0, 1) := by decide +kernel
theorem dX8_init_147 : decode cX8_init 147 = .ok (.sipush 144, 3) := by decide +kernel
theorem dX8_init_150 : decode cX8_init 150 = .ok (.newarray .boolean, 2) := by decide +kernel
theorem dX8_init_152 : decode cX8_init 152 = .ok (.putfield 62, 3) := by decide +kernel
theorem dX8_init_155 : decode cX8_init 155 = .ok (.aload_n 0, 1) := by decide +kernel
theorem dX8_init_156 : decode cX8_init 156 = .ok (.bipush 12, 2) := by decide +kernel
theorem dX8_init_158 : decode cX8_init 158 = .ok (.newarray .int, 2) := by decide +kernel
theorem dX8_init_160 : decode cX8_init 160 = .ok (.putfield 65, 3) := by decide +kernel
theorem dX8_init_163 : decode cX8_init 163 = .ok (.aload_n 0, 1) := by decide +kernel
theorem dX8_init_164 : decode cX8_init 164 = .ok (.bipush 64, 2) := by decide +kernel
theorem dX8_init_166 : decode cX8_init 166 = .ok (.newarray .int, 2) := by decide +kernel
theorem dX8_init_168 : decode cX8_init 168 = .ok (.putfield 68, 3) := by decide +kernel
theorem dX8_init_171 : decode cX8_init 171 = .ok (.aload_n 0, 1) := by decide +kernel
theorem dX8_init_172 : decode cX8_init 172 = .ok (.bipush 64, 2) := by decide +kernel
theorem dX8_init_174 : decode cX8_init 174 = .ok (.newarray .int, 2) := by decide +kernel
theorem dX8_init_176 : decode cX8_init 176 = .ok (.putfield 71, 3) := by decide +kernel
theorem dX8_init_179 : decode cX8_init 179 = .ok (.aload_n 0, 1) := by decide +kernel
theorem dX8_init_180 : decode cX8_init 180 = .ok (.bipush 64, 2) := by decide +kernel
theorem dX8_init_182 : decode cX8_init 182 = .ok (.newarray .int, 2) := by decide +kernel
theorem dX8_init_184 : decode cX8_init 184 = .ok (.putfield 74, 3) := by decide +kernel
theorem dX8_init_187 : decode cX8_init 187 = .ok (.aload_n 0, 1) := by decide +kernel
theorem dX8_init_188 : decode cX8_init 188 = .ok (.bipush 12, 2) := by decide +kernel
theorem dX8_init_190 : decode cX8_init 190 = .ok (.newarray .int, 2) := by decide +kernel
theorem dX8_init_192 : decode cX8_init 192 = .ok (.putfield 77, 3) := by decide +kernel
theorem dX8_init_195 : decode cX8_init 195 = .ok (.aload_n 0, 1) := by decide +kernel
theorem dX8_init_196 : decode cX8_init 196 = .ok (.bipush 12, 2) := by decide +kernel
theorem dX8_init_198 : decode cX8_init 198 = .ok (.newarray .int, 2) := by decide +kernel
theorem dX8_init_200 : decode cX8_init 200 = .ok (.putfield 80, 3) := by decide +kernel
theorem dX8_init_203 : decode cX8_init 203 = .ok (.aload_n 0, 1) := by decide +kernel
theorem dX8_init_204 : decode cX8_init 204 = .ok (.sipush 144, 3) := by decide +kernel
theorem dX8_init_207 : decode cX8_init 207 = .ok (.newarray .int, 2) := by decide +kernel
theorem dX8_init_209 : decode cX8_init 209 = .ok (.putfield 83, 3) := by decide +kernel
theorem dX8_init_212 : decode cX8_init 212 = .ok (.aload_n 0, 1) := by decide +kernel
theorem dX8_init_213 : decode cX8_init 213 = .ok (.bipush 64, 2) := by decide +kernel
theorem dX8_init_215 : decode cX8_init 215 = .ok (.newarray .int, 2) := by decide +kernel
theorem dX8_init_217 : decode cX8_init 217 = .ok (.putfield 86, 3) := by decide +kernel
theorem dX8_init_220 : decode cX8_init 220 = .ok (.return_, 1) := by decide +kernel
theorem dX8_within_0 : decode cX8_within 0 = .ok (.iload_n 0, 1) := by decide +kernel
theorem dX8_within_1 : decode cX8_within 1 = .ok (.iload_n 1, 1) := by decide +kernel
theorem dX8_within_2 : decode cX8_within 2 = .ok (.if_icmp .lt 12, 3) := by decide +kernel
theorem dX8_within_5 : decode cX8_within 5 = .ok (.iload_n 0, 1) := by decide +kernel
theorem dX8_within_6 : decode cX8_within 6 = .ok (.iload_n 2, 1) := by decide +kernel
theorem dX8_within_7 : decode cX8_within 7 = .ok (.if_icmp .gt 7, 3) := by decide +kernel
theorem dX8_within_10 : decode cX8_within 10 = .ok (.iconst 1, 1) := by decide +kernel
theorem dX8_within_11 : decode cX8_within 11 = .ok (.goto 4, 3) := by decide +kernel
theorem dX8_within_14 : decode cX8_within 14 = .ok (.iconst 0, 1) := by decide +kernel
theorem dX8_within_15 : decode cX8_within 15 = .ok (.ireturn, 1) := by decide +kernel
theorem dX8_letter_0 : decode cX8_letter 0 = .ok (.iload_n 1, 1) := by decide +kernel
theorem dX8_letter_1 : decode cX8_letter 1 = .ok (.bipush 32, 2) := by decide +kernel
theorem dX8_letter_3 : decode cX8_letter 3 = .ok (.bipush 126, 2) := by decide +kernel
theorem dX8_letter_5 : decode cX8_letter 5 = .ok (.invokestatic 89, 3) := by decide +kernel
theorem dX8_letter_8 : decode cX8_letter 8 = .ok (.ifCond .ne 6, 3) := by decide +kernel
theorem dX8_letter_11 : decode cX8_letter 11 = .ok (.bipush (-102), 2) := by decide +kernel
theorem dX8_letter_13 : decode cX8_letter 13 = .ok (.ireturn, 1) := by decide +kernel
theorem dX8_letter_14 : decode cX8_letter 14 = .ok (.aload_n 0, 1) := by decide +kernel
theorem dX8_letter_15 : decode cX8_letter 15 = .ok (.getfield 93, 3) := by decide +kernel
theorem dX8_letter_18 : decode cX8_letter 18 = .ok (.bipush 60, 2) := by decide +kernel
theorem dX8_letter_20 : decode cX8_letter 20 = .ok (.if_icmp .ne 6, 3) := by decide +kernel
theorem dX8_letter_23 : decode cX8_letter 23 = .ok (.bipush (-104), 2) := by decide +kernel
theorem dX8_letter_25 : decode cX8_letter 25 = .ok (.ireturn, 1) := by decide +kernel
theorem dX8_letter_26 : decode cX8_letter 26 = .ok (.aload_n 0, 1) := by decide +kernel
theorem dX8_letter_27 : decode cX8_letter 27 = .ok (.getfield 7, 3) := by decide +kernel
theorem dX8_letter_30 : decode cX8_letter 30 = .ok (.aload_n 0, 1) := by decide +kernel
theorem dX8_letter_31 : decode cX8_letter 31 = .ok (.getfield 93, 3) := by decide +kernel
theorem dX8_letter_34 : decode cX8_letter 34 = .ok (.iload_n 1, 1) := by decide +kernel
theorem dX8_letter_35 : decode cX8_letter 35 = .ok (.iastore, 1) := by decide +kernel
theorem dX8_letter_36 : decode cX8_letter 36 = .ok (.aload_n 0, 1) := by decide +kernel
theorem dX8_letter_37 : decode cX8_letter 37 = .ok (.dup, 1) := by decide +kernel
theorem dX8_letter_38 : decode cX8_letter 38 = .ok (.getfield 93, 3) := by decide +kernel
theorem dX8_letter_41 : decode cX8_letter 41 = .ok (.iconst 1, 1) := by decide +kernel
theorem dX8_letter_42 : decode cX8_letter 42 = .ok (.iadd, 1) := by decide +kernel
theorem dX8_letter_43 : decode cX8_letter 43 = .ok (.putfield 93, 3) := by decide +kernel
theorem dX8_letter_46 : decode cX8_letter 46 = .ok (.aload_n 0, 1) := by decide +kernel
theorem dX8_letter_47 : decode cX8_letter 47 = .ok (.getfield 93, 3) := by decide +kernel
theorem dX8_letter_50 : decode cX8_letter 50 = .ok (.ireturn, 1) := by decide +kernel
theorem dX8_blank_0 : decode cX8_blank 0 = .ok (.aload_n 0, 1) := by decide +kernel
theorem dX8_blank_1 : decode cX8_blank 1 = .ok (.getfield 93, 3) := by decide +kernel
theorem dX8_blank_4 : decode cX8_blank 4 = .ok (.istore_n 1, 1) := by decide +kernel
theorem dX8_blank_5 : decode cX8_blank 5 = .ok (.aload_n 0, 1) := by decide +kernel
theorem dX8_blank_6 : decode cX8_blank 6 = .ok (.iconst 0, 1) := by decide +kernel
theorem dX8_blank_7 : decode cX8_blank 7 = .ok (.putfield 93, 3) := by decide +kernel
theorem dX8_blank_10 : decode cX8_blank 10 = .ok (.iload_n 1, 1) := by decide +kernel
theorem dX8_blank_11 : decode cX8_blank 11 = .ok (.ireturn, 1) := by decide +kernel
theorem dX8_takesPlace_0 : decode cX8_takesPlace 0 = .ok (.iload_n 1, 1) := by decide +kernel
theorem dX8_takesPlace_1 : decode cX8_takesPlace 1 = .ok (.bipush 97, 2) := by decide +kernel
theorem dX8_takesPlace_3 : decode cX8_takesPlace 3 = .ok (.bipush 104, 2) := by decide +kernel
theorem dX8_takesPlace_5 : decode cX8_takesPlace 5 = .ok (.invokestatic 89, 3) := by decide +kernel
theorem dX8_takesPlace_8 : decode cX8_takesPlace 8 = .ok (.ifCond .eq 30, 3) := by decide +kernel
theorem dX8_takesPlace_11 : decode cX8_takesPlace 11 = .ok (.aload_n 0, 1) := by decide +kernel
theorem dX8_takesPlace_12 : decode cX8_takesPlace 12 = .ok (.getfield 97, 3) := by decide +kernel
theorem dX8_takesPlace_15 : decode cX8_takesPlace 15 = .ok (.ifCond .eq 19, 3) := by decide +kernel
theorem dX8_takesPlace_18 : decode cX8_takesPlace 18 = .ok (.iload_n 1, 1) := by decide +kernel
theorem dX8_takesPlace_19 : decode cX8_takesPlace 19 = .ok (.bipush 97, 2) := by decide +kernel
theorem dX8_takesPlace_21 : decode cX8_takesPlace 21 = .ok (.isub, 1) := by decide +kernel
theorem dX8_takesPlace_22 : decode cX8_takesPlace 22 = .ok (.aload_n 0, 1) := by decide +kernel
theorem dX8_takesPlace_23 : decode cX8_takesPlace 23 = .ok (.getfield 43, 3) := by decide +kernel
theorem dX8_takesPlace_26 : decode cX8_takesPlace 26 = .ok (.aload_n 0, 1) := by decide +kernel
theorem dX8_takesPlace_27 : decode cX8_takesPlace 27 = .ok (.getfield 100, 3) := by decide +kernel
theorem dX8_takesPlace_30 : decode cX8_takesPlace 30 = .ok (.iaload, 1) := by decide +kernel
theorem dX8_takesPlace_31 : decode cX8_takesPlace 31 = .ok (.if_icmp .eq 7, 3) := by decide +kernel
theorem dX8_takesPlace_34 : decode cX8_takesPlace 34 = .ok (.iconst 1, 1) := by decide +kernel
theorem dX8_takesPlace_35 : decode cX8_takesPlace 35 = .ok (.goto 4, 3) := by decide +kernel
theorem dX8_takesPlace_38 : decode cX8_takesPlace 38 = .ok (.iconst 0, 1) := by decide +kernel
theorem dX8_takesPlace_39 : decode cX8_takesPlace 39 = .ok (.istore_n 2, 1) := by decide +kernel
theorem dX8_takesPlace_40 : decode cX8_takesPlace 40 = .ok (.iload_n 2, 1) := by decide +kernel
theorem dX8_takesPlace_41 : decode cX8_takesPlace 41 = .ok (.ifCond .ne 5, 3) := by decide +kernel
theorem dX8_takesPlace_44 : decode cX8_takesPlace 44 = .ok (.iconst 0, 1) := by decide +kernel
theorem dX8_takesPlace_45 : decode cX8_takesPlace 45 = .ok (.ireturn, 1) := by decide +kernel
theorem dX8_takesPlace_46 : decode cX8_takesPlace 46 = .ok (.aload_n 0, 1) := by decide +kernel
theorem dX8_takesPlace_47 : decode cX8_takesPlace 47 = .ok (.getfield 97, 3) := by decide +kernel
theorem dX8_takesPlace_50 : decode cX8_takesPlace 50 = .ok (.ifCond .ne 19, 3) := by decide +kernel
theorem dX8_takesPlace_53 : decode cX8_takesPlace 53 = .ok (.aload_n 0, 1) := by decide +kernel
theorem dX8_takesPlace_54 : decode cX8_takesPlace 54 = .ok (.getfield 43, 3) := by decide +kernel
theorem dX8_takesPlace_57 : decode cX8_takesPlace 57 = .ok (.aload_n 0, 1) := by decide +kernel
theorem dX8_takesPlace_58 : decode cX8_takesPlace 58 = .ok (.getfield 100, 3) := by decide +kernel
theorem dX8_takesPlace_61 : decode cX8_takesPlace 61 = .ok (.iload_n 1, 1) := by decide +kernel
theorem dX8_takesPlace_62 : decode cX8_takesPlace 62 = .ok (.bipush 97, 2) := by decide +kernel
theorem dX8_takesPlace_64 : decode cX8_takesPlace 64 = .ok (.isub, 1) := by decide +kernel
theorem dX8_takesPlace_65 : decode cX8_takesPlace 65 = .ok (.iastore, 1) := by decide +kernel
theorem dX8_takesPlace_66 : decode cX8_takesPlace 66 = .ok (.goto 16, 3) := by decide +kernel
theorem dX8_takesPlace_69 : decode cX8_takesPlace 69 = .ok (.aload_n 0, 1) := by decide +kernel
theorem dX8_takesPlace_70 : decode cX8_takesPlace 70 = .ok (.getfield 46, 3) := by decide +kernel
theorem dX8_takesPlace_73 : decode cX8_takesPlace 73 = .ok (.aload_n 0, 1) := by decide +kernel
theorem dX8_takesPlace_74 : decode cX8_takesPlace 74 = .ok (.getfield 100, 3) := by decide +kernel
theorem dX8_takesPlace_77 : decode cX8_takesPlace 77 = .ok (.iload_n 1, 1) := by decide +kernel
theorem dX8_takesPlace_78 : decode cX8_takesPlace 78 = .ok (.bipush 97, 2) := by decide +kernel
theorem dX8_takesPlace_80 : decode cX8_takesPlace 80 = .ok (.isub, 1) := by decide +kernel
theorem dX8_takesPlace_81 : decode cX8_takesPlace 81 = .ok (.iastore, 1) := by decide +kernel
theorem dX8_takesPlace_82 : decode cX8_takesPlace 82 = .ok (.aload_n 0, 1) := by decide +kernel
theorem dX8_takesPlace_83 : decode cX8_takesPlace 83 = .ok (.dup, 1) := by decide +kernel
theorem dX8_takesPlace_84 : decode cX8_takesPlace 84 = .ok (.getfield 97, 3) := by decide +kernel
theorem dX8_takesPlace_87 : decode cX8_takesPlace 87 = .ok (.iconst 1, 1) := by decide +kernel
theorem dX8_takesPlace_88 : decode cX8_takesPlace 88 = .ok (.iadd, 1) := by decide +kernel
theorem dX8_takesPlace_89 : decode cX8_takesPlace 89 = .ok (.putfield 97, 3) := by decide +kernel
theorem dX8_takesPlace_92 : decode cX8_takesPlace 92 = .ok (.aload_n 0, 1) := by decide +kernel
theorem dX8_takesPlace_93 : decode cX8_takesPlace 93 = .ok (.iconst 0, 1) := by decide +kernel
theorem dX8_takesPlace_94 : decode cX8_takesPlace 94 = .ok (.putfield 103, 3) := by decide +kernel
theorem dX8_takesPlace_97 : decode cX8_takesPlace 97 = .ok (.iconst 1, 1) := by decide +kernel
theorem dX8_takesPlace_98 : decode cX8_takesPlace 98 = .ok (.ireturn, 1) := by decide +kernel
theorem dX8_takesFigure_0 : decode cX8_takesFigure 0 = .ok (.bipush 10, 2) := by decide +kernel
theorem dX8_takesFigure_2 : decode cX8_takesFigure 2 = .ok (.aload_n 0, 1) := by decide +kernel
theorem dX8_takesFigure_3 : decode cX8_takesFigure 3 = .ok (.getfield 103, 3) := by decide +kernel
theorem dX8_takesFigure_6 : decode cX8_takesFigure 6 = .ok (.imul, 1) := by decide +kernel
theorem dX8_takesFigure_7 : decode cX8_takesFigure 7 = .ok (.iload_n 1, 1) := by decide +kernel
theorem dX8_takesFigure_8 : decode cX8_takesFigure 8 = .ok (.iadd, 1) := by decide +kernel
theorem dX8_takesFigure_9 : decode cX8_takesFigure 9 = .ok (.bipush 48, 2) := by decide +kernel
theorem dX8_takesFigure_11 : decode cX8_takesFigure 11 = .ok (.isub, 1) := by decide +kernel
theorem dX8_takesFigure_12 : decode cX8_takesFigure 12 = .ok (.istore_n 2, 1) := by decide +kernel
theorem dX8_takesFigure_13 : decode cX8_takesFigure 13 = .ok (.iload_n 2, 1) := by decide +kernel
theorem dX8_takesFigure_14 : decode cX8_takesFigure 14 = .ok (.iconst 1, 1) := by decide +kernel
theorem dX8_takesFigure_15 : decode cX8_takesFigure 15 = .ok (.bipush 99, 2) := by decide +kernel
theorem dX8_takesFigure_17 : decode cX8_takesFigure 17 = .ok (.invokestatic 89, 3) := by decide +kernel
theorem dX8_takesFigure_20 : decode cX8_takesFigure 20 = .ok (.istore_n 3, 1) := by decide +kernel
theorem dX8_takesFigure_21 : decode cX8_takesFigure 21 = .ok (.aload_n 0, 1) := by decide +kernel
theorem dX8_takesFigure_22 : decode cX8_takesFigure 22 = .ok (.iload_n 3, 1) := by decide +kernel
theorem dX8_takesFigure_23 : decode cX8_takesFigure 23 = .ok (.ifCond .eq 7, 3) := by decide +kernel
theorem dX8_takesFigure_26 : decode cX8_takesFigure 26 = .ok (.iload_n 2, 1) := by decide +kernel
theorem dX8_takesFigure_27 : decode cX8_takesFigure 27 = .ok (.goto 7, 3) := by decide +kernel
theorem dX8_takesFigure_30 : decode cX8_takesFigure 30 = .ok (.aload_n 0, 1) := by decide +kernel
theorem dX8_takesFigure_31 : decode cX8_takesFigure 31 = .ok (.getfield 103, 3) := by decide +kernel
theorem dX8_takesFigure_34 : decode cX8_takesFigure 34 = .ok (.putfield 103, 3) := by decide +kernel
theorem dX8_takesFigure_37 : decode cX8_takesFigure 37 = .ok (.aload_n 0, 1) := by decide +kernel
theorem dX8_takesFigure_38 : decode cX8_takesFigure 38 = .ok (.getfield 49, 3) := by decide +kernel
theorem dX8_takesFigure_41 : decode cX8_takesFigure 41 = .ok (.aload_n 0, 1) := by decide +kernel
theorem dX8_takesFigure_42 : decode cX8_takesFigure 42 = .ok (.getfield 100, 3) := by decide +kernel
theorem dX8_takesFigure_45 : decode cX8_takesFigure 45 = .ok (.aload_n 0, 1) := by decide +kernel
theorem dX8_takesFigure_46 : decode cX8_takesFigure 46 = .ok (.getfield 103, 3) := by decide +kernel
theorem dX8_takesFigure_49 : decode cX8_takesFigure 49 = .ok (.iastore, 1) := by decide +kernel
theorem dX8_takesFigure_50 : decode cX8_takesFigure 50 = .ok (.iload_n 3, 1) := by decide +kernel
theorem dX8_takesFigure_51 : decode cX8_takesFigure 51 = .ok (.ireturn, 1) := by decide +kernel
theorem dX8_takes_0 : decode cX8_takes 0 = .ok (.aload_n 0, 1) := by decide +kernel
theorem dX8_takes_1 : decode cX8_takes 1 = .ok (.getfield 97, 3) := by decide +kernel
theorem dX8_takes_4 : decode cX8_takes 4 = .ok (.iconst 2, 1) := by decide +kernel
theorem dX8_takes_5 : decode cX8_takes 5 = .ok (.if_icmp .ge 9, 3) := by decide +kernel
theorem dX8_takes_8 : decode cX8_takes 8 = .ok (.aload_n 0, 1) := by decide +kernel
theorem dX8_takes_9 : decode cX8_takes 9 = .ok (.iload_n 1, 1) := by decide +kernel
theorem dX8_takes_10 : decode cX8_takes 10 = .ok (.invokevirtual 106, 3) := by decide +kernel
theorem dX8_takes_13 : decode cX8_takes 13 = .ok (.ireturn, 1) := by decide +kernel
theorem dX8_takes_14 : decode cX8_takes 14 = .ok (.iload_n 1, 1) := by decide +kernel
theorem dX8_takes_15 : decode cX8_takes 15 = .ok (.bipush 48, 2) := by decide +kernel
theorem dX8_takes_17 : decode cX8_takes 17 = .ok (.bipush 57, 2) := by decide +kernel
theorem dX8_takes_19 : decode cX8_takes 19 = .ok (.invokestatic 89, 3) := by decide +kernel
theorem dX8_takes_22 : decode cX8_takes 22 = .ok (.ifCond .eq 9, 3) := by decide +kernel
theorem dX8_takes_25 : decode cX8_takes 25 = .ok (.aload_n 0, 1) := by decide +kernel
theorem dX8_takes_26 : decode cX8_takes 26 = .ok (.iload_n 1, 1) := by decide +kernel
theorem dX8_takes_27 : decode cX8_takes 27 = .ok (.invokevirtual 110, 3) := by decide +kernel
theorem dX8_takes_30 : decode cX8_takes 30 = .ok (.ireturn, 1) := by decide +kernel
theorem dX8_takes_31 : decode cX8_takes 31 = .ok (.iload_n 1, 1) := by decide +kernel
theorem dX8_takes_32 : decode cX8_takes 32 = .ok (.bipush 44, 2) := by decide +kernel
theorem dX8_takes_34 : decode cX8_takes 34 = .ok (.if_icmp .ne 23, 3) := by decide +kernel
theorem dX8_takes_37 : decode cX8_takes 37 = .ok (.aload_n 0, 1) := by decide +kernel
theorem dX8_takes_38 : decode cX8_takes 38 = .ok (.getfield 103, 3) := by decide +kernel
theorem dX8_takes_41 : decode cX8_takes 41 = .ok (.ifCond .le 16, 3) := by decide +kernel
theorem dX8_takes_44 : decode cX8_takes 44 = .ok (.aload_n 0, 1) := by decide +kernel
theorem dX8_takes_45 : decode cX8_takes 45 = .ok (.getfield 100, 3) := by decide +kernel
theorem dX8_takes_48 : decode cX8_takes 48 = .ok (.bipush 11, 2) := by decide +kernel
theorem dX8_takes_50 : decode cX8_takes 50 = .ok (.if_icmp .ge 7, 3) := by decide +kernel
theorem dX8_takes_53 : decode cX8_takes 53 = .ok (.iconst 1, 1) := by decide +kernel
theorem dX8_takes_54 : decode cX8_takes 54 = .ok (.goto 4, 3) := by decide +kernel
theorem dX8_takes_57 : decode cX8_takes 57 = .ok (.iconst 0, 1) := by decide +kernel
theorem dX8_takes_58 : decode cX8_takes 58 = .ok (.istore_n 2, 1) := by decide +kernel
theorem dX8_takes_59 : decode cX8_takes 59 = .ok (.aload_n 0, 1) := by decide +kernel
theorem dX8_takes_60 : decode cX8_takes 60 = .ok (.dup, 1) := by decide +kernel
theorem dX8_takes_61 : decode cX8_takes 61 = .ok (.getfield 100, 3) := by decide +kernel
theorem dX8_takes_64 : decode cX8_takes 64 = .ok (.iload_n 2, 1) := by decide +kernel
theorem dX8_takes_65 : decode cX8_takes 65 = .ok (.ifCond .eq 7, 3) := by decide +kernel
theorem dX8_takes_68 : decode cX8_takes 68 = .ok (.iconst 1, 1) := by decide +kernel
theorem dX8_takes_69 : decode cX8_takes 69 = .ok (.goto 4, 3) := by decide +kernel
theorem dX8_takes_72 : decode cX8_takes 72 = .ok (.iconst 0, 1) := by decide +kernel
theorem dX8_takes_73 : decode cX8_takes 73 = .ok (.iadd, 1) := by decide +kernel
theorem dX8_takes_74 : decode cX8_takes 74 = .ok (.putfield 100, 3) := by decide +kernel
theorem dX8_takes_77 : decode cX8_takes 77 = .ok (.aload_n 0, 1) := by decide +kernel
theorem dX8_takes_78 : decode cX8_takes 78 = .ok (.iload_n 2, 1) := by decide +kernel
theorem dX8_takes_79 : decode cX8_takes 79 = .ok (.ifCond .eq 7, 3) := by decide +kernel
theorem dX8_takes_82 : decode cX8_takes 82 = .ok (.iconst 0, 1) := by decide +kernel
theorem dX8_takes_83 : decode cX8_takes 83 = .ok (.goto 7, 3) := by decide +kernel
theorem dX8_takes_86 : decode cX8_takes 86 = .ok (.aload_n 0, 1) := by decide +kernel
theorem dX8_takes_87 : decode cX8_takes 87 = .ok (.getfield 97, 3) := by decide +kernel
theorem dX8_takes_90 : decode cX8_takes 90 = .ok (.putfield 97, 3) := by decide +kernel
theorem dX8_takes_93 : decode cX8_takes 93 = .ok (.iload_n 2, 1) := by decide +kernel
theorem dX8_takes_94 : decode cX8_takes 94 = .ok (.ireturn, 1) := by decide +kernel
theorem dX8_readPage_0 : decode cX8_readPage 0 = .ok (.aload_n 0, 1) := by decide +kernel
theorem dX8_readPage_1 : decode cX8_readPage 1 = .ok (.iconst 0, 1) := by decide +kernel
theorem dX8_readPage_2 : decode cX8_readPage 2 = .ok (.putfield 97, 3) := by decide +kernel
theorem dX8_readPage_5 : decode cX8_readPage 5 = .ok (.aload_n 0, 1) := by decide +kernel
theorem dX8_readPage_6 : decode cX8_readPage 6 = .ok (.iconst 0, 1) := by decide +kernel
theorem dX8_readPage_7 : decode cX8_readPage 7 = .ok (.putfield 103, 3) := by decide +kernel
theorem dX8_readPage_10 : decode cX8_readPage 10 = .ok (.aload_n 0, 1) := by decide +kernel
theorem dX8_readPage_11 : decode cX8_readPage 11 = .ok (.iconst 0, 1) := by decide +kernel
theorem dX8_readPage_12 : decode cX8_readPage 12 = .ok (.putfield 100, 3) := by decide +kernel
theorem dX8_readPage_15 : decode cX8_readPage 15 = .ok (.iconst 0, 1) := by decide +kernel
theorem dX8_readPage_16 : decode cX8_readPage 16 = .ok (.istore_n 1, 1) := by decide +kernel
theorem dX8_readPage_17 : decode cX8_readPage 17 = .ok (.iload_n 1, 1) := by decide +kernel
theorem dX8_readPage_18 : decode cX8_readPage 18 = .ok (.aload_n 0, 1) := by decide +kernel
theorem dX8_readPage_19 : decode cX8_readPage 19 = .ok (.getfield 93, 3) := by decide +kernel
theorem dX8_readPage_22 : decode cX8_readPage 22 = .ok (.if_icmp .ge 22, 3) := by decide +kernel
theorem dX8_readPage_25 : decode cX8_readPage 25 = .ok (.aload_n 0, 1) := by decide +kernel
theorem dX8_readPage_26 : decode cX8_readPage 26 = .ok (.aload_n 0, 1) := by decide +kernel
theorem dX8_readPage_27 : decode cX8_readPage 27 = .ok (.getfield 7, 3) := by decide +kernel
theorem dX8_readPage_30 : decode cX8_readPage 30 = .ok (.iload_n 1, 1) := by decide +kernel
theorem dX8_readPage_31 : decode cX8_readPage 31 = .ok (.iaload, 1) := by decide +kernel
theorem dX8_readPage_32 : decode cX8_readPage 32 = .ok (.invokevirtual 113, 3) := by decide +kernel
theorem dX8_readPage_35 : decode cX8_readPage 35 = .ok (.ifCond .eq 9, 3) := by decide +kernel
theorem dX8_readPage_38 : decode cX8_readPage 38 = .ok (.iinc 1 1, 3) := by decide +kernel
theorem dX8_readPage_41 : decode cX8_readPage 41 = .ok (.goto (-24), 3) := by decide +kernel
theorem dX8_readPage_44 : decode cX8_readPage 44 = .ok (.iload_n 1, 1) := by decide +kernel
theorem dX8_readPage_45 : decode cX8_readPage 45 = .ok (.ireturn, 1) := by decide +kernel
theorem dX8_fault_0 : decode cX8_fault 0 = .ok (.aload_n 0, 1) := by decide +kernel
theorem dX8_fault_1 : decode cX8_fault 1 = .ok (.invokevirtual 116, 3) := by decide +kernel
theorem dX8_fault_4 : decode cX8_fault 4 = .ok (.ireturn, 1) := by decide +kernel
theorem dX8_roads_0 : decode cX8_roads 0 = .ok (.aload_n 0, 1) := by decide +kernel
theorem dX8_roads_1 : decode cX8_roads 1 = .ok (.invokevirtual 116, 3) := by decide +kernel
theorem dX8_roads_4 : decode cX8_roads 4 = .ok (.aload_n 0, 1) := by decide +kernel
theorem dX8_roads_5 : decode cX8_roads 5 = .ok (.getfield 93, 3) := by decide +kernel
theorem dX8_roads_8 : decode cX8_roads 8 = .ok (.if_icmp .lt 18, 3) := by decide +kernel
theorem dX8_roads_11 : decode cX8_roads 11 = .ok (.aload_n 0, 1) := by decide +kernel
theorem dX8_roads_12 : decode cX8_roads 12 = .ok (.getfield 97, 3) := by decide +kernel
theorem dX8_roads_15 : decode cX8_roads 15 = .ok (.iconst 2, 1) := by decide +kernel
theorem dX8_roads_16 : decode cX8_roads 16 = .ok (.if_icmp .lt 10, 3) := by decide +kernel
theorem dX8_roads_19 : decode cX8_roads 19 = .ok (.aload_n 0, 1) := by decide +kernel
theorem dX8_roads_20 : decode cX8_roads 20 = .ok (.getfield 103, 3) := by decide +kernel
theorem dX8_roads_23 : decode cX8_roads 23 = .ok (.ifCond .ne 6, 3) := by decide +kernel
theorem dX8_roads_26 : decode cX8_roads 26 = .ok (.bipush (-103), 2) := by decide +kernel
theorem dX8_roads_28 : decode cX8_roads 28 = .ok (.ireturn, 1) := by decide +kernel
theorem dX8_roads_29 : decode cX8_roads 29 = .ok (.aload_n 0, 1) := by decide +kernel
theorem dX8_roads_30 : decode cX8_roads 30 = .ok (.aload_n 0, 1) := by decide +kernel
theorem dX8_roads_31 : decode cX8_roads 31 = .ok (.getfield 100, 3) := by decide +kernel
theorem dX8_roads_34 : decode cX8_roads 34 = .ok (.iconst 1, 1) := by decide +kernel
theorem dX8_roads_35 : decode cX8_roads 35 = .ok (.iadd, 1) := by decide +kernel
theorem dX8_roads_36 : decode cX8_roads 36 = .ok (.putfield 120, 3) := by decide +kernel
theorem dX8_roads_39 : decode cX8_roads 39 = .ok (.iconst 0, 1) := by decide +kernel
theorem dX8_roads_40 : decode cX8_roads 40 = .ok (.istore_n 1, 1) := by decide +kernel
theorem dX8_roads_41 : decode cX8_roads 41 = .ok (.iload_n 1, 1) := by decide +kernel
theorem dX8_roads_42 : decode cX8_roads 42 = .ok (.aload_n 0, 1) := by decide +kernel
theorem dX8_roads_43 : decode cX8_roads 43 = .ok (.getfield 120, 3) := by decide +kernel
theorem dX8_roads_46 : decode cX8_roads 46 = .ok (.if_icmp .ge 45, 3) := by decide +kernel
theorem dX8_roads_49 : decode cX8_roads 49 = .ok (.aload_n 0, 1) := by decide +kernel
theorem dX8_roads_50 : decode cX8_roads 50 = .ok (.getfield 13, 3) := by decide +kernel
theorem dX8_roads_53 : decode cX8_roads 53 = .ok (.iload_n 1, 1) := by decide +kernel
theorem dX8_roads_54 : decode cX8_roads 54 = .ok (.aload_n 0, 1) := by decide +kernel
theorem dX8_roads_55 : decode cX8_roads 55 = .ok (.getfield 43, 3) := by decide +kernel
theorem dX8_roads_58 : decode cX8_roads 58 = .ok (.iload_n 1, 1) := by decide +kernel
theorem dX8_roads_59 : decode cX8_roads 59 = .ok (.iaload, 1) := by decide +kernel
theorem dX8_roads_60 : decode cX8_roads 60 = .ok (.iastore, 1) := by decide +kernel
theorem dX8_roads_61 : decode cX8_roads 61 = .ok (.aload_n 0, 1) := by decide +kernel
theorem dX8_roads_62 : decode cX8_roads 62 = .ok (.getfield 16, 3) := by decide +kernel
theorem dX8_roads_65 : decode cX8_roads 65 = .ok (.iload_n 1, 1) := by decide +kernel
theorem dX8_roads_66 : decode cX8_roads 66 = .ok (.aload_n 0, 1) := by decide +kernel
theorem dX8_roads_67 : decode cX8_roads 67 = .ok (.getfield 46, 3) := by decide +kernel
theorem dX8_roads_70 : decode cX8_roads 70 = .ok (.iload_n 1, 1) := by decide +kernel
theorem dX8_roads_71 : decode cX8_roads 71 = .ok (.iaload, 1) := by decide +kernel
theorem dX8_roads_72 : decode cX8_roads 72 = .ok (.iastore, 1) := by decide +kernel
theorem dX8_roads_73 : decode cX8_roads 73 = .ok (.aload_n 0, 1) := by decide +kernel
theorem dX8_roads_74 : decode cX8_roads 74 = .ok (.getfield 19, 3) := by decide +kernel
theorem dX8_roads_77 : decode cX8_roads 77 = .ok (.iload_n 1, 1) := by decide +kernel
theorem dX8_roads_78 : decode cX8_roads 78 = .ok (.aload_n 0, 1) := by decide +kernel
theorem dX8_roads_79 : decode cX8_roads 79 = .ok (.getfield 49, 3) := by decide +kernel
theorem dX8_roads_82 : decode cX8_roads 82 = .ok (.iload_n 1, 1) := by decide +kernel
theorem dX8_roads_83 : decode cX8_roads 83 = .ok (.iaload, 1) := by decide +kernel
theorem dX8_roads_84 : decode cX8_roads 84 = .ok (.iastore, 1) := by decide +kernel
theorem dX8_roads_85 : decode cX8_roads 85 = .ok (.iinc 1 1, 3) := by decide +kernel
theorem dX8_roads_88 : decode cX8_roads 88 = .ok (.goto (-47), 3) := by decide +kernel
theorem dX8_roads_91 : decode cX8_roads 91 = .ok (.iconst 0, 1) := by decide +kernel
theorem dX8_roads_92 : decode cX8_roads 92 = .ok (.istore_n 1, 1) := by decide +kernel
theorem dX8_roads_93 : decode cX8_roads 93 = .ok (.iload_n 1, 1) := by decide +kernel
theorem dX8_roads_94 : decode cX8_roads 94 = .ok (.aload_n 0, 1) := by decide +kernel
theorem dX8_roads_95 : decode cX8_roads 95 = .ok (.getfield 120, 3) := by decide +kernel
theorem dX8_roads_98 : decode cX8_roads 98 = .ok (.aload_n 0, 1) := by decide +kernel
theorem dX8_roads_99 : decode cX8_roads 99 = .ok (.getfield 120, 3) := by decide +kernel
theorem dX8_roads_102 : decode cX8_roads 102 = .ok (.imul, 1) := by decide +kernel
theorem dX8_roads_103 : decode cX8_roads 103 = .ok (.if_icmp .ge 86, 3) := by decide +kernel
theorem dX8_roads_106 : decode cX8_roads 106 = .ok (.iload_n 1, 1) := by decide +kernel
theorem dX8_roads_107 : decode cX8_roads 107 = .ok (.aload_n 0, 1) := by decide +kernel
theorem dX8_roads_108 : decode cX8_roads 108 = .ok (.getfield 120, 3) := by decide +kernel
theorem dX8_roads_111 : decode cX8_roads 111 = .ok (.idiv, 1) := by decide +kernel
theorem dX8_roads_112 : decode cX8_roads 112 = .ok (.istore_n 2, 1) := by decide +kernel
theorem dX8_roads_113 : decode cX8_roads 113 = .ok (.iload_n 1, 1) := by decide +kernel
theorem dX8_roads_114 : decode cX8_roads 114 = .ok (.aload_n 0, 1) := by decide +kernel
theorem dX8_roads_115 : decode cX8_roads 115 = .ok (.getfield 120, 3) := by decide +kernel
theorem dX8_roads_118 : decode cX8_roads 118 = .ok (.irem, 1) := by decide +kernel
theorem dX8_roads_119 : decode cX8_roads 119 = .ok (.istore_n 3, 1) := by decide +kernel
theorem dX8_roads_120 : decode cX8_roads 120 = .ok (.aload_n 0, 1) := by decide +kernel
theorem dX8_roads_121 : decode cX8_roads 121 = .ok (.getfield 16, 3) := by decide +kernel
theorem dX8_roads_124 : decode cX8_roads 124 = .ok (.iload_n 2, 1) := by decide +kernel
theorem dX8_roads_125 : decode cX8_roads 125 = .ok (.iaload, 1) := by decide +kernel
theorem dX8_roads_126 : decode cX8_roads 126 = .ok (.aload_n 0, 1) := by decide +kernel
theorem dX8_roads_127 : decode cX8_roads 127 = .ok (.getfield 13, 3) := by decide +kernel
theorem dX8_roads_130 : decode cX8_roads 130 = .ok (.iload_n 3, 1) := by decide +kernel
theorem dX8_roads_131 : decode cX8_roads 131 = .ok (.iaload, 1) := by decide +kernel
theorem dX8_roads_132 : decode cX8_roads 132 = .ok (.if_icmp .ne 7, 3) := by decide +kernel
theorem dX8_roads_135 : decode cX8_roads 135 = .ok (.iconst 1, 1) := by decide +kernel
theorem dX8_roads_136 : decode cX8_roads 136 = .ok (.goto 4, 3) := by decide +kernel
theorem dX8_roads_139 : decode cX8_roads 139 = .ok (.iconst 0, 1) := by decide +kernel
theorem dX8_roads_140 : decode cX8_roads 140 = .ok (.istore 4, 2) := by decide +kernel
theorem dX8_roads_142 : decode cX8_roads 142 = .ok (.aload_n 0, 1) := by decide +kernel
theorem dX8_roads_143 : decode cX8_roads 143 = .ok (.getfield 22, 3) := by decide +kernel
theorem dX8_roads_146 : decode cX8_roads 146 = .ok (.bipush 12, 2) := by decide +kernel
theorem dX8_roads_148 : decode cX8_roads 148 = .ok (.iload_n 2, 1) := by decide +kernel
theorem dX8_roads_149 : decode cX8_roads 149 = .ok (.imul, 1) := by decide +kernel
theorem dX8_roads_150 : decode cX8_roads 150 = .ok (.iload_n 3, 1) := by decide +kernel
theorem dX8_roads_151 : decode cX8_roads 151 = .ok (.iadd, 1) := by decide +kernel
theorem dX8_roads_152 : decode cX8_roads 152 = .ok (.iload 4, 2) := by decide +kernel
theorem dX8_roads_154 : decode cX8_roads 154 = .ok (.ifCond .ne 7, 3) := by decide +kernel
theorem dX8_roads_157 : decode cX8_roads 157 = .ok (.iconst (-1), 1) := by decide +kernel
theorem dX8_roads_158 : decode cX8_roads 158 = .ok (.goto 24, 3) := by decide +kernel
theorem dX8_roads_161 : decode cX8_roads 161 = .ok (.aload_n 0, 1) := by decide +kernel
theorem dX8_roads_162 : decode cX8_roads 162 = .ok (.getfield 16, 3) := by decide +kernel
theorem dX8_roads_165 : decode cX8_roads 165 = .ok (.iload_n 3, 1) := by decide +kernel
theorem dX8_roads_166 : decode cX8_roads 166 = .ok (.iaload, 1) := by decide +kernel
theorem dX8_roads_167 : decode cX8_roads 167 = .ok (.aload_n 0, 1) := by decide +kernel
theorem dX8_roads_168 : decode cX8_roads 168 = .ok (.getfield 13, 3) := by decide +kernel
theorem dX8_roads_171 : decode cX8_roads 171 = .ok (.iload_n 2, 1) := by decide +kernel
theorem dX8_roads_172 : decode cX8_roads 172 = .ok (.iaload, 1) := by decide +kernel
theorem dX8_roads_173 : decode cX8_roads 173 = .ok (.if_icmp .ne 8, 3) := by decide +kernel
theorem dX8_roads_176 : decode cX8_roads 176 = .ok (.bipush (-5), 2) := by decide +kernel
theorem dX8_roads_178 : decode cX8_roads 178 = .ok (.goto 4, 3) := by decide +kernel
theorem dX8_roads_181 : decode cX8_roads 181 = .ok (.iconst 0, 1) := by decide +kernel
theorem dX8_roads_182 : decode cX8_roads 182 = .ok (.iastore, 1) := by decide +kernel
theorem dX8_roads_183 : decode cX8_roads 183 = .ok (.iinc 1 1, 3) := by decide +kernel
theorem dX8_roads_186 : decode cX8_roads 186 = .ok (.goto (-93), 3) := by decide +kernel
theorem dX8_roads_189 : decode cX8_roads 189 = .ok (.aload_n 0, 1) := by decide +kernel
theorem dX8_roads_190 : decode cX8_roads 190 = .ok (.invokevirtual 123, 3) := by decide +kernel
theorem dX8_roads_193 : decode cX8_roads 193 = .ok (.aload_n 0, 1) := by decide +kernel
theorem dX8_roads_194 : decode cX8_roads 194 = .ok (.invokevirtual 126, 3) := by decide +kernel
theorem dX8_roads_197 : decode cX8_roads 197 = .ok (.aload_n 0, 1) := by decide +kernel
theorem dX8_roads_198 : decode cX8_roads 198 = .ok (.dup, 1) := by decide +kernel
theorem dX8_roads_199 : decode cX8_roads 199 = .ok (.getfield 129, 3) := by decide +kernel
theorem dX8_roads_202 : decode cX8_roads 202 = .ok (.iconst 1, 1) := by decide +kernel
theorem dX8_roads_203 : decode cX8_roads 203 = .ok (.iadd, 1) := by decide +kernel
theorem dX8_roads_204 : decode cX8_roads 204 = .ok (.putfield 129, 3) := by decide +kernel
theorem dX8_roads_207 : decode cX8_roads 207 = .ok (.aload_n 0, 1) := by decide +kernel
theorem dX8_roads_208 : decode cX8_roads 208 = .ok (.iconst 0, 1) := by decide +kernel
theorem dX8_roads_209 : decode cX8_roads 209 = .ok (.putfield 93, 3) := by decide +kernel
theorem dX8_roads_212 : decode cX8_roads 212 = .ok (.aload_n 0, 1) := by decide +kernel
theorem dX8_roads_213 : decode cX8_roads 213 = .ok (.getfield 120, 3) := by decide +kernel
theorem dX8_roads_216 : decode cX8_roads 216 = .ok (.ireturn, 1) := by decide +kernel
theorem dX8_isStep_0 : decode cX8_isStep 0 = .ok (.aload_n 0, 1) := by decide +kernel
theorem dX8_isStep_1 : decode cX8_isStep 1 = .ok (.getfield 22, 3) := by decide +kernel
theorem dX8_isStep_4 : decode cX8_isStep 4 = .ok (.bipush 12, 2) := by decide +kernel
theorem dX8_isStep_6 : decode cX8_isStep 6 = .ok (.iload_n 1, 1) := by decide +kernel
theorem dX8_isStep_7 : decode cX8_isStep 7 = .ok (.imul, 1) := by decide +kernel
theorem dX8_isStep_8 : decode cX8_isStep 8 = .ok (.iload_n 2, 1) := by decide +kernel
theorem dX8_isStep_9 : decode cX8_isStep 9 = .ok (.iadd, 1) := by decide +kernel
theorem dX8_isStep_10 : decode cX8_isStep 10 = .ok (.iaload, 1) := by decide +kernel
theorem dX8_isStep_11 : decode cX8_isStep 11 = .ok (.ifCond .lt 7, 3) := by decide +kernel
theorem dX8_isStep_14 : decode cX8_isStep 14 = .ok (.iconst 1, 1) := by decide +kernel
theorem dX8_isStep_15 : decode cX8_isStep 15 = .ok (.goto 4, 3) := by decide +kernel
theorem dX8_isStep_18 : decode cX8_isStep 18 = .ok (.iconst 0, 1) := by decide +kernel
theorem dX8_isStep_19 : decode cX8_isStep 19 = .ok (.ireturn, 1) := by decide +kernel
theorem dX8_laySteps_0 : decode cX8_laySteps 0 = .ok (.iconst 0, 1) := by decide +kernel
theorem dX8_laySteps_1 : decode cX8_laySteps 1 = .ok (.istore_n 1, 1) := by decide +kernel
theorem dX8_laySteps_2 : decode cX8_laySteps 2 = .ok (.iload_n 1, 1) := by decide +kernel
theorem dX8_laySteps_3 : decode cX8_laySteps 3 = .ok (.aload_n 0, 1) := by decide +kernel
theorem dX8_laySteps_4 : decode cX8_laySteps 4 = .ok (.getfield 120, 3) := by decide +kernel
theorem dX8_laySteps_7 : decode cX8_laySteps 7 = .ok (.if_icmp .ge 80, 3) := by decide +kernel
theorem dX8_laySteps_10 : decode cX8_laySteps 10 = .ok (.iconst 0, 1) := by decide +kernel
theorem dX8_laySteps_11 : decode cX8_laySteps 11 = .ok (.istore_n 2, 1) := by decide +kernel
theorem dX8_laySteps_12 : decode cX8_laySteps 12 = .ok (.iload_n 2, 1) := by decide +kernel
theorem dX8_laySteps_13 : decode cX8_laySteps 13 = .ok (.aload_n 0, 1) := by decide +kernel
theorem dX8_laySteps_14 : decode cX8_laySteps 14 = .ok (.getfield 120, 3) := by decide +kernel
theorem dX8_laySteps_17 : decode cX8_laySteps 17 = .ok (.if_icmp .ge 64, 3) := by decide +kernel
theorem dX8_laySteps_20 : decode cX8_laySteps 20 = .ok (.aload_n 0, 1) := by decide +kernel
theorem dX8_laySteps_21 : decode cX8_laySteps 21 = .ok (.getfield 31, 3) := by decide +kernel
theorem dX8_laySteps_24 : decode cX8_laySteps 24 = .ok (.bipush 12, 2) := by decide +kernel
theorem dX8_laySteps_26 : decode cX8_laySteps 26 = .ok (.iload_n 1, 1) := by decide +kernel
theorem dX8_laySteps_27 : decode cX8_laySteps 27 = .ok (.imul, 1) := by decide +kernel
theorem dX8_laySteps_28 : decode cX8_laySteps 28 = .ok (.iload_n 2, 1) := by decide +kernel
theorem dX8_laySteps_29 : decode cX8_laySteps 29 = .ok (.iadd, 1) := by decide +kernel
theorem dX8_laySteps_30 : decode cX8_laySteps 30 = .ok (.aload_n 0, 1) := by decide +kernel
theorem dX8_laySteps_31 : decode cX8_laySteps 31 = .ok (.iload_n 1, 1) := by decide +kernel
theorem dX8_laySteps_32 : decode cX8_laySteps 32 = .ok (.iload_n 2, 1) := by decide +kernel
theorem dX8_laySteps_33 : decode cX8_laySteps 33 = .ok (.invokevirtual 132, 3) := by decide +kernel
theorem dX8_laySteps_36 : decode cX8_laySteps 36 = .ok (.ifCond .eq 24, 3) := by decide +kernel
theorem dX8_laySteps_39 : decode cX8_laySteps 39 = .ok (.aload_n 0, 1) := by decide +kernel
theorem dX8_laySteps_40 : decode cX8_laySteps 40 = .ok (.getfield 22, 3) := by decide +kernel
theorem dX8_laySteps_43 : decode cX8_laySteps 43 = .ok (.bipush 12, 2) := by decide +kernel
theorem dX8_laySteps_45 : decode cX8_laySteps 45 = .ok (.iload_n 1, 1) := by decide +kernel
theorem dX8_laySteps_46 : decode cX8_laySteps 46 = .ok (.imul, 1) := by decide +kernel
theorem dX8_laySteps_47 : decode cX8_laySteps 47 = .ok (.iload_n 2, 1) := by decide +kernel
theorem dX8_laySteps_48 : decode cX8_laySteps 48 = .ok (.iadd, 1) := by decide +kernel
theorem dX8_laySteps_49 : decode cX8_laySteps 49 = .ok (.iaload, 1) := by decide +kernel
theorem dX8_laySteps_50 : decode cX8_laySteps 50 = .ok (.aload_n 0, 1) := by decide +kernel
theorem dX8_laySteps_51 : decode cX8_laySteps 51 = .ok (.getfield 19, 3) := by decide +kernel
theorem dX8_laySteps_54 : decode cX8_laySteps 54 = .ok (.iload_n 2, 1) := by decide +kernel
theorem dX8_laySteps_55 : decode cX8_laySteps 55 = .ok (.iaload, 1) := by decide +kernel
theorem dX8_laySteps_56 : decode cX8_laySteps 56 = .ok (.iadd, 1) := by decide +kernel
theorem dX8_laySteps_57 : decode cX8_laySteps 57 = .ok (.goto 5, 3) := by decide +kernel
theorem dX8_laySteps_60 : decode cX8_laySteps 60 = .ok (.ldc 136, 2) := by decide +kernel
theorem dX8_laySteps_62 : decode cX8_laySteps 62 = .ok (.iastore, 1) := by decide +kernel
theorem dX8_laySteps_63 : decode cX8_laySteps 63 = .ok (.aload_n 0, 1) := by decide +kernel
theorem dX8_laySteps_64 : decode cX8_laySteps 64 = .ok (.getfield 34, 3) := by decide +kernel
theorem dX8_laySteps_67 : decode cX8_laySteps 67 = .ok (.bipush 12, 2) := by decide +kernel
theorem dX8_laySteps_69 : decode cX8_laySteps 69 = .ok (.iload_n 1, 1) := by decide +kernel
theorem dX8_laySteps_70 : decode cX8_laySteps 70 = .ok (.imul, 1) := by decide +kernel
theorem dX8_laySteps_71 : decode cX8_laySteps 71 = .ok (.iload_n 2, 1) := by decide +kernel
theorem dX8_laySteps_72 : decode cX8_laySteps 72 = .ok (.iadd, 1) := by decide +kernel
theorem dX8_laySteps_73 : decode cX8_laySteps 73 = .ok (.iconst (-1), 1) := by decide +kernel
theorem dX8_laySteps_74 : decode cX8_laySteps 74 = .ok (.iastore, 1) := by decide +kernel
theorem dX8_laySteps_75 : decode cX8_laySteps 75 = .ok (.iinc 2 1, 3) := by decide +kernel
theorem dX8_laySteps_78 : decode cX8_laySteps 78 = .ok (.goto (-66), 3) := by decide +kernel
theorem dX8_laySteps_81 : decode cX8_laySteps 81 = .ok (.iinc 1 1, 3) := by decide +kernel
theorem dX8_laySteps_84 : decode cX8_laySteps 84 = .ok (.goto (-82), 3) := by decide +kernel
theorem dX8_laySteps_87 : decode cX8_laySteps 87 = .ok (.return_, 1) := by decide +kernel
theorem dX8_layAround_0 : decode cX8_layAround 0 = .ok (.iconst 0, 1) := by decide +kernel
theorem dX8_layAround_1 : decode cX8_layAround 1 = .ok (.istore_n 2, 1) := by decide +kernel
theorem dX8_layAround_2 : decode cX8_layAround 2 = .ok (.iload_n 2, 1) := by decide +kernel
theorem dX8_layAround_3 : decode cX8_layAround 3 = .ok (.sipush 144, 3) := by decide +kernel
theorem dX8_layAround_6 : decode cX8_layAround 6 = .ok (.if_icmp .ge 17, 3) := by decide +kernel
theorem dX8_layAround_9 : decode cX8_layAround 9 = .ok (.aload_n 0, 1) := by decide +kernel
theorem dX8_layAround_10 : decode cX8_layAround 10 = .ok (.getfield 56, 3) := by decide +kernel
theorem dX8_layAround_13 : decode cX8_layAround 13 = .ok (.iload_n 2, 1) := by decide +kernel
theorem dX8_layAround_14 : decode cX8_layAround 14 = .ok (.ldc 136, 2) := by decide +kernel
theorem dX8_layAround_16 : decode cX8_layAround 16 = .ok (.iastore, 1) := by decide +kernel
theorem dX8_layAround_17 : decode cX8_layAround 17 = .ok (.iinc 2 1, 3) := by decide +kernel
theorem dX8_layAround_20 : decode cX8_layAround 20 = .ok (.goto (-18), 3) := by decide +kernel
theorem dX8_layAround_23 : decode cX8_layAround 23 = .ok (.iconst 0, 1) := by decide +kernel
theorem dX8_layAround_24 : decode cX8_layAround 24 = .ok (.istore_n 2, 1) := by decide +kernel
theorem dX8_layAround_25 : decode cX8_layAround 25 = .ok (.iload_n 2, 1) := by decide +kernel
theorem dX8_layAround_26 : decode cX8_layAround 26 = .ok (.aload_n 0, 1) := by decide +kernel
theorem dX8_layAround_27 : decode cX8_layAround 27 = .ok (.getfield 120, 3) := by decide +kernel
theorem dX8_layAround_30 : decode cX8_layAround 30 = .ok (.if_icmp .ge 92, 3) := by decide +kernel
theorem dX8_layAround_33 : decode cX8_layAround 33 = .ok (.iconst 0, 1) := by decide +kernel
theorem dX8_layAround_34 : decode cX8_layAround 34 = .ok (.istore_n 3, 1) := by decide +kernel
theorem dX8_layAround_35 : decode cX8_layAround 35 = .ok (.iload_n 3, 1) := by decide +kernel
theorem dX8_layAround_36 : decode cX8_layAround 36 = .ok (.aload_n 0, 1) := by decide +kernel
theorem dX8_layAround_37 : decode cX8_layAround 37 = .ok (.getfield 120, 3) := by decide +kernel
theorem dX8_layAround_40 : decode cX8_layAround 40 = .ok (.if_icmp .ge 76, 3) := by decide +kernel
theorem dX8_layAround_43 : decode cX8_layAround 43 = .ok (.aload_n 0, 1) := by decide +kernel
theorem dX8_layAround_44 : decode cX8_layAround 44 = .ok (.getfield 52, 3) := by decide +kernel
theorem dX8_layAround_47 : decode cX8_layAround 47 = .ok (.iload_n 2, 1) := by decide +kernel
theorem dX8_layAround_48 : decode cX8_layAround 48 = .ok (.baload, 1) := by decide +kernel
theorem dX8_layAround_49 : decode cX8_layAround 49 = .ok (.ifCond .eq 26, 3) := by decide +kernel
theorem dX8_layAround_52 : decode cX8_layAround 52 = .ok (.aload_n 0, 1) := by decide +kernel
theorem dX8_layAround_53 : decode cX8_layAround 53 = .ok (.getfield 52, 3) := by decide +kernel
theorem dX8_layAround_56 : decode cX8_layAround 56 = .ok (.iload_n 3, 1) := by decide +kernel
theorem dX8_layAround_57 : decode cX8_layAround 57 = .ok (.baload, 1) := by decide +kernel
theorem dX8_layAround_58 : decode cX8_layAround 58 = .ok (.ifCond .eq 17, 3) := by decide +kernel
theorem dX8_layAround_61 : decode cX8_layAround 61 = .ok (.iload_n 2, 1) := by decide +kernel
theorem dX8_layAround_62 : decode cX8_layAround 62 = .ok (.iload_n 1, 1) := by decide +kernel
theorem dX8_layAround_63 : decode cX8_layAround 63 = .ok (.if_icmp .eq 12, 3) := by decide +kernel
theorem dX8_layAround_66 : decode cX8_layAround 66 = .ok (.iload_n 3, 1) := by decide +kernel
theorem dX8_layAround_67 : decode cX8_layAround 67 = .ok (.iload_n 1, 1) := by decide +kernel
theorem dX8_layAround_68 : decode cX8_layAround 68 = .ok (.if_icmp .eq 7, 3) := by decide +kernel
theorem dX8_layAround_71 : decode cX8_layAround 71 = .ok (.iconst 1, 1) := by decide +kernel
theorem dX8_layAround_72 : decode cX8_layAround 72 = .ok (.goto 4, 3) := by decide +kernel
theorem dX8_layAround_75 : decode cX8_layAround 75 = .ok (.iconst 0, 1) := by decide +kernel
theorem dX8_layAround_76 : decode cX8_layAround 76 = .ok (.istore 4, 2) := by decide +kernel
theorem dX8_layAround_78 : decode cX8_layAround 78 = .ok (.aload_n 0, 1) := by decide +kernel
theorem dX8_layAround_79 : decode cX8_layAround 79 = .ok (.getfield 56, 3) := by decide +kernel
theorem dX8_layAround_82 : decode cX8_layAround 82 = .ok (.bipush 12, 2) := by decide +kernel
theorem dX8_layAround_84 : decode cX8_layAround 84 = .ok (.iload_n 2, 1) := by decide +kernel
theorem dX8_layAround_85 : decode cX8_layAround 85 = .ok (.imul, 1) := by decide +kernel
theorem dX8_layAround_86 : decode cX8_layAround 86 = .ok (.iload_n 3, 1) := by decide +kernel
theorem dX8_layAround_87 : decode cX8_layAround 87 = .ok (.iadd, 1) := by decide +kernel
theorem dX8_layAround_88 : decode cX8_layAround 88 = .ok (.iload 4, 2) := by decide +kernel
theorem dX8_layAround_90 : decode cX8_layAround 90 = .ok (.ifCond .eq 17, 3) := by decide +kernel
theorem dX8_layAround_93 : decode cX8_layAround 93 = .ok (.aload_n 0, 1) := by decide +kernel
theorem dX8_layAround_94 : decode cX8_layAround 94 = .ok (.getfield 31, 3) := by decide +kernel
theorem dX8_layAround_97 : decode cX8_layAround 97 = .ok (.bipush 12, 2) := by decide +kernel
theorem dX8_layAround_99 : decode cX8_layAround 99 = .ok (.iload_n 2, 1) := by decide +kernel
theorem dX8_layAround_100 : decode cX8_layAround 100 = .ok (.imul, 1) := by decide +kernel
theorem dX8_layAround_101 : decode cX8_layAround 101 = .ok (.iload_n 3, 1) := by decide +kernel
theorem dX8_layAround_102 : decode cX8_layAround 102 = .ok (.iadd, 1) := by decide +kernel
theorem dX8_layAround_103 : decode cX8_layAround 103 = .ok (.iaload, 1) := by decide +kernel
theorem dX8_layAround_104 : decode cX8_layAround 104 = .ok (.goto 5, 3) := by decide +kernel
theorem dX8_layAround_107 : decode cX8_layAround 107 = .ok (.ldc 136, 2) := by decide +kernel
theorem dX8_layAround_109 : decode cX8_layAround 109 = .ok (.iastore, 1) := by decide +kernel
theorem dX8_layAround_110 : decode cX8_layAround 110 = .ok (.iinc 3 1, 3) := by decide +kernel
theorem dX8_layAround_113 : decode cX8_layAround 113 = .ok (.goto (-78), 3) := by decide +kernel
theorem dX8_layAround_116 : decode cX8_layAround 116 = .ok (.iinc 2 1, 3) := by decide +kernel
theorem dX8_layAround_119 : decode cX8_layAround 119 = .ok (.goto (-94), 3) := by decide +kernel
theorem dX8_layAround_122 : decode cX8_layAround 122 = .ok (.iconst 0, 1) := by decide +kernel
theorem dX8_layAround_123 : decode cX8_layAround 123 = .ok (.istore_n 2, 1) := by decide +kernel
theorem dX8_layAround_124 : decode cX8_layAround 124 = .ok (.iload_n 2, 1) := by decide +kernel
theorem dX8_layAround_125 : decode cX8_layAround 125 = .ok (.aload_n 0, 1) := by decide +kernel
theorem dX8_layAround_126 : decode cX8_layAround 126 = .ok (.getfield 120, 3) := by decide +kernel
theorem dX8_layAround_129 : decode cX8_layAround 129 = .ok (.if_icmp .ge 115, 3) := by decide +kernel
theorem dX8_layAround_132 : decode cX8_layAround 132 = .ok (.iconst 0, 1) := by decide +kernel
theorem dX8_layAround_133 : decode cX8_layAround 133 = .ok (.istore_n 3, 1) := by decide +kernel
theorem dX8_layAround_134 : decode cX8_layAround 134 = .ok (.iload_n 3, 1) := by decide +kernel
theorem dX8_layAround_135 : decode cX8_layAround 135 = .ok (.aload_n 0, 1) := by decide +kernel
theorem dX8_layAround_136 : decode cX8_layAround 136 = .ok (.getfield 120, 3) := by decide +kernel
theorem dX8_layAround_139 : decode cX8_layAround 139 = .ok (.if_icmp .ge 99, 3) := by decide +kernel
theorem dX8_layAround_142 : decode cX8_layAround 142 = .ok (.iconst 0, 1) := by decide +kernel
theorem dX8_layAround_143 : decode cX8_layAround 143 = .ok (.istore 4, 2) := by decide +kernel
theorem dX8_layAround_145 : decode cX8_layAround 145 = .ok (.iload 4, 2) := by decide +kernel
theorem dX8_layAround_147 : decode cX8_layAround 147 = .ok (.aload_n 0, 1) := by decide +kernel
theorem dX8_layAround_148 : decode cX8_layAround 148 = .ok (.getfield 120, 3) := by decide +kernel
theorem dX8_layAround_151 : decode cX8_layAround 151 = .ok (.if_icmp .ge 81, 3) := by decide +kernel
theorem dX8_layAround_154 : decode cX8_layAround 154 = .ok (.aload_n 0, 1) := by decide +kernel
theorem dX8_layAround_155 : decode cX8_layAround 155 = .ok (.getfield 56, 3) := by decide +kernel
theorem dX8_layAround_158 : decode cX8_layAround 158 = .ok (.bipush 12, 2) := by decide +kernel
theorem dX8_layAround_160 : decode cX8_layAround 160 = .ok (.iload_n 3, 1) := by decide +kernel
theorem dX8_layAround_161 : decode cX8_layAround 161 = .ok (.imul, 1) := by decide +kernel
theorem dX8_layAround_162 : decode cX8_layAround 162 = .ok (.iload_n 2, 1) := by decide +kernel
theorem dX8_layAround_163 : decode cX8_layAround 163 = .ok (.iadd, 1) := by decide +kernel
theorem dX8_layAround_164 : decode cX8_layAround 164 = .ok (.iaload, 1) := by decide +kernel
theorem dX8_layAround_165 : decode cX8_layAround 165 = .ok (.aload_n 0, 1) := by decide +kernel
theorem dX8_layAround_166 : decode cX8_layAround 166 = .ok (.getfield 56, 3) := by decide +kernel
theorem dX8_layAround_169 : decode cX8_layAround 169 = .ok (.bipush 12, 2) := by decide +kernel
theorem dX8_layAround_171 : decode cX8_layAround 171 = .ok (.iload_n 2, 1) := by decide +kernel
theorem dX8_layAround_172 : decode cX8_layAround 172 = .ok (.imul, 1) := by decide +kernel
theorem dX8_layAround_173 : decode cX8_layAround 173 = .ok (.iload 4, 2) := by decide +kernel
theorem dX8_layAround_175 : decode cX8_layAround 175 = .ok (.iadd, 1) := by decide +kernel
theorem dX8_layAround_176 : decode cX8_layAround 176 = .ok (.iaload, 1) := by decide +kernel
theorem dX8_layAround_177 : decode cX8_layAround 177 = .ok (.iadd, 1) := by decide +kernel
theorem dX8_layAround_178 : decode cX8_layAround 178 = .ok (.istore 5, 2) := by decide +kernel
theorem dX8_layAround_180 : decode cX8_layAround 180 = .ok (.aload_n 0, 1) := by decide +kernel
theorem dX8_layAround_181 : decode cX8_layAround 181 = .ok (.getfield 56, 3) := by decide +kernel
theorem dX8_layAround_184 : decode cX8_layAround 184 = .ok (.bipush 12, 2) := by decide +kernel
theorem dX8_layAround_186 : decode cX8_layAround 186 = .ok (.iload_n 3, 1) := by decide +kernel
theorem dX8_layAround_187 : decode cX8_layAround 187 = .ok (.imul, 1) := by decide +kernel
theorem dX8_layAround_188 : decode cX8_layAround 188 = .ok (.iload 4, 2) := by decide +kernel
theorem dX8_layAround_190 : decode cX8_layAround 190 = .ok (.iadd, 1) := by decide +kernel
theorem dX8_layAround_191 : decode cX8_layAround 191 = .ok (.iload 5, 2) := by decide +kernel
theorem dX8_layAround_193 : decode cX8_layAround 193 = .ok (.aload_n 0, 1) := by decide +kernel
theorem dX8_layAround_194 : decode cX8_layAround 194 = .ok (.getfield 56, 3) := by decide +kernel
theorem dX8_layAround_197 : decode cX8_layAround 197 = .ok (.bipush 12, 2) := by decide +kernel
theorem dX8_layAround_199 : decode cX8_layAround 199 = .ok (.iload_n 3, 1) := by decide +kernel
theorem dX8_layAround_200 : decode cX8_layAround 200 = .ok (.imul, 1) := by decide +kernel
theorem dX8_layAround_201 : decode cX8_layAround 201 = .ok (.iload 4, 2) := by decide +kernel
theorem dX8_layAround_203 : decode cX8_layAround 203 = .ok (.iadd, 1) := by decide +kernel
theorem dX8_layAround_204 : decode cX8_layAround 204 = .ok (.iaload, 1) := by decide +kernel
theorem dX8_layAround_205 : decode cX8_layAround 205 = .ok (.if_icmp .ge 8, 3) := by decide +kernel
theorem dX8_layAround_208 : decode cX8_layAround 208 = .ok (.iload 5, 2) := by decide +kernel
theorem dX8_layAround_210 : decode cX8_layAround 210 = .ok (.goto 15, 3) := by decide +kernel
theorem dX8_layAround_213 : decode cX8_layAround 213 = .ok (.aload_n 0, 1) := by decide +kernel
theorem dX8_layAround_214 : decode cX8_layAround 214 = .ok (.getfield 56, 3) := by decide +kernel
theorem dX8_layAround_217 : decode cX8_layAround 217 = .ok (.bipush 12, 2) := by decide +kernel
theorem dX8_layAround_219 : decode cX8_layAround 219 = .ok (.iload_n 3, 1) := by decide +kernel
theorem dX8_layAround_220 : decode cX8_layAround 220 = .ok (.imul, 1) := by decide +kernel
theorem dX8_layAround_221 : decode cX8_layAround 221 = .ok (.iload 4, 2) := by decide +kernel
theorem dX8_layAround_223 : decode cX8_layAround 223 = .ok (.iadd, 1) := by decide +kernel
theorem dX8_layAround_224 : decode cX8_layAround 224 = .ok (.iaload, 1) := by decide +kernel
theorem dX8_layAround_225 : decode cX8_layAround 225 = .ok (.iastore, 1) := by decide +kernel
theorem dX8_layAround_226 : decode cX8_layAround 226 = .ok (.iinc 4 1, 3) := by decide +kernel
theorem dX8_layAround_229 : decode cX8_layAround 229 = .ok (.goto (-84), 3) := by decide +kernel
theorem dX8_layAround_232 : decode cX8_layAround 232 = .ok (.iinc 3 1, 3) := by decide +kernel
theorem dX8_layAround_235 : decode cX8_layAround 235 = .ok (.goto (-101), 3) := by decide +kernel
theorem dX8_layAround_238 : decode cX8_layAround 238 = .ok (.iinc 2 1, 3) := by decide +kernel
theorem dX8_layAround_241 : decode cX8_layAround 241 = .ok (.goto (-117), 3) := by decide +kernel
theorem dX8_layAround_244 : decode cX8_layAround 244 = .ok (.return_, 1) := by decide +kernel
theorem dX8_layNeeds_0 : decode cX8_layNeeds 0 = .ok (.aload_n 0, 1) := by decide +kernel
theorem dX8_layNeeds_1 : decode cX8_layNeeds 1 = .ok (.iconst (-1), 1) := by decide +kernel
theorem dX8_layNeeds_2 : decode cX8_layNeeds 2 = .ok (.invokevirtual 137, 3) := by decide +kernel
theorem dX8_layNeeds_5 : decode cX8_layNeeds 5 = .ok (.iconst 0, 1) := by decide +kernel
theorem dX8_layNeeds_6 : decode cX8_layNeeds 6 = .ok (.istore_n 2, 1) := by decide +kernel
theorem dX8_layNeeds_7 : decode cX8_layNeeds 7 = .ok (.iload_n 2, 1) := by decide +kernel
theorem dX8_layNeeds_8 : decode cX8_layNeeds 8 = .ok (.sipush 144, 3) := by decide +kernel
theorem dX8_layNeeds_11 : decode cX8_layNeeds 11 = .ok (.if_icmp .ge 21, 3) := by decide +kernel
theorem dX8_layNeeds_14 : decode cX8_layNeeds 14 = .ok (.aload_n 0, 1) := by decide +kernel
theorem dX8_layNeeds_15 : decode cX8_layNeeds 15 = .ok (.getfield 59, 3) := by decide +kernel
theorem dX8_layNeeds_18 : decode cX8_layNeeds 18 = .ok (.iload_n 2, 1) := by decide +kernel
theorem dX8_layNeeds_19 : decode cX8_layNeeds 19 = .ok (.aload_n 0, 1) := by decide +kernel
theorem dX8_layNeeds_20 : decode cX8_layNeeds 20 = .ok (.getfield 56, 3) := by decide +kernel
theorem dX8_layNeeds_23 : decode cX8_layNeeds 23 = .ok (.iload_n 2, 1) := by decide +kernel
theorem dX8_layNeeds_24 : decode cX8_layNeeds 24 = .ok (.iaload, 1) := by decide +kernel
theorem dX8_layNeeds_25 : decode cX8_layNeeds 25 = .ok (.iastore, 1) := by decide +kernel
theorem dX8_layNeeds_26 : decode cX8_layNeeds 26 = .ok (.iinc 2 1, 3) := by decide +kernel
theorem dX8_layNeeds_29 : decode cX8_layNeeds 29 = .ok (.goto (-22), 3) := by decide +kernel
theorem dX8_layNeeds_32 : decode cX8_layNeeds 32 = .ok (.aload_n 0, 1) := by decide +kernel
theorem dX8_layNeeds_33 : decode cX8_layNeeds 33 = .ok (.iload_n 1, 1) := by decide +kernel
theorem dX8_layNeeds_34 : decode cX8_layNeeds 34 = .ok (.invokevirtual 137, 3) := by decide +kernel
theorem dX8_layNeeds_37 : decode cX8_layNeeds 37 = .ok (.iconst 0, 1) := by decide +kernel
theorem dX8_layNeeds_38 : decode cX8_layNeeds 38 = .ok (.istore_n 2, 1) := by decide +kernel
theorem dX8_layNeeds_39 : decode cX8_layNeeds 39 = .ok (.iconst 0, 1) := by decide +kernel
theorem dX8_layNeeds_40 : decode cX8_layNeeds 40 = .ok (.istore_n 3, 1) := by decide +kernel
theorem dX8_layNeeds_41 : decode cX8_layNeeds 41 = .ok (.iload_n 3, 1) := by decide +kernel
theorem dX8_layNeeds_42 : decode cX8_layNeeds 42 = .ok (.aload_n 0, 1) := by decide +kernel
theorem dX8_layNeeds_43 : decode cX8_layNeeds 43 = .ok (.getfield 120, 3) := by decide +kernel
theorem dX8_layNeeds_46 : decode cX8_layNeeds 46 = .ok (.if_icmp .ge 206, 3) := by decide +kernel
theorem dX8_layNeeds_49 : decode cX8_layNeeds 49 = .ok (.iconst 0, 1) := by decide +kernel
theorem dX8_layNeeds_50 : decode cX8_layNeeds 50 = .ok (.istore 4, 2) := by decide +kernel
theorem dX8_layNeeds_52 : decode cX8_layNeeds 52 = .ok (.iload 4, 2) := by decide +kernel
theorem dX8_layNeeds_54 : decode cX8_layNeeds 54 = .ok (.aload_n 0, 1) := by decide +kernel
theorem dX8_layNeeds_55 : decode cX8_layNeeds 55 = .ok (.getfield 120, 3) := by decide +kernel
theorem dX8_layNeeds_58 : decode cX8_layNeeds 58 = .ok (.if_icmp .ge 188, 3) := by decide +kernel
theorem dX8_layNeeds_61 : decode cX8_layNeeds 61 = .ok (.iload_n 3, 1) := by decide +kernel
theorem dX8_layNeeds_62 : decode cX8_layNeeds 62 = .ok (.iload 4, 2) := by decide +kernel
theorem dX8_layNeeds_64 : decode cX8_layNeeds 64 = .ok (.if_icmp .eq 37, 3) := by decide +kernel
theorem dX8_layNeeds_67 : decode cX8_layNeeds 67 = .ok (.iload_n 3, 1) := by decide +kernel
theorem dX8_layNeeds_68 : decode cX8_layNeeds 68 = .ok (.iload_n 1, 1) := by decide +kernel
theorem dX8_layNeeds_69 : decode cX8_layNeeds 69 = .ok (.if_icmp .eq 32, 3) := by decide +kernel
theorem dX8_layNeeds_72 : decode cX8_layNeeds 72 = .ok (.iload 4, 2) := by decide +kernel
theorem dX8_layNeeds_74 : decode cX8_layNeeds 74 = .ok (.iload_n 1, 1) := by decide +kernel
theorem dX8_layNeeds_75 : decode cX8_layNeeds 75 = .ok (.if_icmp .eq 26, 3) := by decide +kernel
theorem dX8_layNeeds_78 : decode cX8_layNeeds 78 = .ok (.aload_n 0, 1) := by decide +kernel
theorem dX8_layNeeds_79 : decode cX8_layNeeds 79 = .ok (.getfield 52, 3) := by decide +kernel
theorem dX8_layNeeds_82 : decode cX8_layNeeds 82 = .ok (.iload_n 3, 1) := by decide +kernel
theorem dX8_layNeeds_83 : decode cX8_layNeeds 83 = .ok (.baload, 1) := by decide +kernel
theorem dX8_layNeeds_84 : decode cX8_layNeeds 84 = .ok (.ifCond .eq 17, 3) := by decide +kernel
theorem dX8_layNeeds_87 : decode cX8_layNeeds 87 = .ok (.aload_n 0, 1) := by decide +kernel
theorem dX8_layNeeds_88 : decode cX8_layNeeds 88 = .ok (.getfield 52, 3) := by decide +kernel
theorem dX8_layNeeds_91 : decode cX8_layNeeds 91 = .ok (.iload 4, 2) := by decide +kernel
theorem dX8_layNeeds_93 : decode cX8_layNeeds 93 = .ok (.baload, 1) := by decide +kernel
theorem dX8_layNeeds_94 : decode cX8_layNeeds 94 = .ok (.ifCond .eq 7, 3) := by decide +kernel
theorem dX8_layNeeds_97 : decode cX8_layNeeds 97 = .ok (.iconst 1, 1) := by decide +kernel
theorem dX8_layNeeds_98 : decode cX8_layNeeds 98 = .ok (.goto 4, 3) := by decide +kernel
theorem dX8_layNeeds_101 : decode cX8_layNeeds 101 = .ok (.iconst 0, 1) := by decide +kernel
theorem dX8_layNeeds_102 : decode cX8_layNeeds 102 = .ok (.istore 5, 2) := by decide +kernel
theorem dX8_layNeeds_104 : decode cX8_layNeeds 104 = .ok (.aload_n 0, 1) := by decide +kernel
theorem dX8_layNeeds_105 : decode cX8_layNeeds 105 = .ok (.getfield 31, 3) := by decide +kernel
theorem dX8_layNeeds_108 : decode cX8_layNeeds 108 = .ok (.bipush 12, 2) := by decide +kernel
theorem dX8_layNeeds_110 : decode cX8_layNeeds 110 = .ok (.iload_n 3, 1) := by decide +kernel
theorem dX8_layNeeds_111 : decode cX8_layNeeds 111 = .ok (.imul, 1) := by decide +kernel
theorem dX8_layNeeds_112 : decode cX8_layNeeds 112 = .ok (.iload_n 1, 1) := by decide +kernel
theorem dX8_layNeeds_113 : decode cX8_layNeeds 113 = .ok (.iadd, 1) := by decide +kernel
theorem dX8_layNeeds_114 : decode cX8_layNeeds 114 = .ok (.iaload, 1) := by decide +kernel
theorem dX8_layNeeds_115 : decode cX8_layNeeds 115 = .ok (.aload_n 0, 1) := by decide +kernel
theorem dX8_layNeeds_116 : decode cX8_layNeeds 116 = .ok (.getfield 31, 3) := by decide +kernel
theorem dX8_layNeeds_119 : decode cX8_layNeeds 119 = .ok (.bipush 12, 2) := by decide +kernel
theorem dX8_layNeeds_121 : decode cX8_layNeeds 121 = .ok (.iload_n 1, 1) := by decide +kernel
theorem dX8_layNeeds_122 : decode cX8_layNeeds 122 = .ok (.imul, 1) := by decide +kernel
theorem dX8_layNeeds_123 : decode cX8_layNeeds 123 = .ok (.iload 4, 2) := by decide +kernel
theorem dX8_layNeeds_125 : decode cX8_layNeeds 125 = .ok (.iadd, 1) := by decide +kernel
theorem dX8_layNeeds_126 : decode cX8_layNeeds 126 = .ok (.iaload, 1) := by decide +kernel
theorem dX8_layNeeds_127 : decode cX8_layNeeds 127 = .ok (.iadd, 1) := by decide +kernel
theorem dX8_layNeeds_128 : decode cX8_layNeeds 128 = .ok (.istore 6, 2) := by decide +kernel
theorem dX8_layNeeds_130 : decode cX8_layNeeds 130 = .ok (.aload_n 0, 1) := by decide +kernel
theorem dX8_layNeeds_131 : decode cX8_layNeeds 131 = .ok (.getfield 59, 3) := by decide +kernel
theorem dX8_layNeeds_134 : decode cX8_layNeeds 134 = .ok (.bipush 12, 2) := by decide +kernel
theorem dX8_layNeeds_136 : decode cX8_layNeeds 136 = .ok (.iload_n 3, 1) := by decide +kernel
theorem dX8_layNeeds_137 : decode cX8_layNeeds 137 = .ok (.imul, 1) := by decide +kernel
theorem dX8_layNeeds_138 : decode cX8_layNeeds 138 = .ok (.iload_n 1, 1) := by decide +kernel
theorem dX8_layNeeds_139 : decode cX8_layNeeds 139 = .ok (.iadd, 1) := by decide +kernel
theorem dX8_layNeeds_140 : decode cX8_layNeeds 140 = .ok (.iaload, 1) := by decide +kernel
theorem dX8_layNeeds_141 : decode cX8_layNeeds 141 = .ok (.aload_n 0, 1) := by decide +kernel
theorem dX8_layNeeds_142 : decode cX8_layNeeds 142 = .ok (.getfield 59, 3) := by decide +kernel
theorem dX8_layNeeds_145 : decode cX8_layNeeds 145 = .ok (.bipush 12, 2) := by decide +kernel
theorem dX8_layNeeds_147 : decode cX8_layNeeds 147 = .ok (.iload_n 1, 1) := by decide +kernel
theorem dX8_layNeeds_148 : decode cX8_layNeeds 148 = .ok (.imul, 1) := by decide +kernel
theorem dX8_layNeeds_149 : decode cX8_layNeeds 149 = .ok (.iload 4, 2) := by decide +kernel
theorem dX8_layNeeds_151 : decode cX8_layNeeds 151 = .ok (.iadd, 1) := by decide +kernel
theorem dX8_layNeeds_152 : decode cX8_layNeeds 152 = .ok (.iaload, 1) := by decide +kernel
theorem dX8_layNeeds_153 : decode cX8_layNeeds 153 = .ok (.iadd, 1) := by decide +kernel
theorem dX8_layNeeds_154 : decode cX8_layNeeds 154 = .ok (.iload 6, 2) := by decide +kernel
theorem dX8_layNeeds_156 : decode cX8_layNeeds 156 = .ok (.if_icmp .lt 24, 3) := by decide +kernel
theorem dX8_layNeeds_159 : decode cX8_layNeeds 159 = .ok (.aload_n 0, 1) := by decide +kernel
theorem dX8_layNeeds_160 : decode cX8_layNeeds 160 = .ok (.getfield 56, 3) := by decide +kernel
theorem dX8_layNeeds_163 : decode cX8_layNeeds 163 = .ok (.bipush 12, 2) := by decide +kernel
theorem dX8_layNeeds_165 : decode cX8_layNeeds 165 = .ok (.iload_n 3, 1) := by decide +kernel
theorem dX8_layNeeds_166 : decode cX8_layNeeds 166 = .ok (.imul, 1) := by decide +kernel
theorem dX8_layNeeds_167 : decode cX8_layNeeds 167 = .ok (.iload 4, 2) := by decide +kernel
theorem dX8_layNeeds_169 : decode cX8_layNeeds 169 = .ok (.iadd, 1) := by decide +kernel
theorem dX8_layNeeds_170 : decode cX8_layNeeds 170 = .ok (.iaload, 1) := by decide +kernel
theorem dX8_layNeeds_171 : decode cX8_layNeeds 171 = .ok (.iload 6, 2) := by decide +kernel
theorem dX8_layNeeds_173 : decode cX8_layNeeds 173 = .ok (.if_icmp .le 7, 3) := by decide +kernel
theorem dX8_layNeeds_176 : decode cX8_layNeeds 176 = .ok (.iconst 1, 1) := by decide +kernel
theorem dX8_layNeeds_177 : decode cX8_layNeeds 177 = .ok (.goto 4, 3) := by decide +kernel
theorem dX8_layNeeds_180 : decode cX8_layNeeds 180 = .ok (.iconst 0, 1) := by decide +kernel
theorem dX8_layNeeds_181 : decode cX8_layNeeds 181 = .ok (.istore 7, 2) := by decide +kernel
theorem dX8_layNeeds_183 : decode cX8_layNeeds 183 = .ok (.aload_n 0, 1) := by decide +kernel
theorem dX8_layNeeds_184 : decode cX8_layNeeds 184 = .ok (.getfield 62, 3) := by decide +kernel
theorem dX8_layNeeds_187 : decode cX8_layNeeds 187 = .ok (.bipush 12, 2) := by decide +kernel
theorem dX8_layNeeds_189 : decode cX8_layNeeds 189 = .ok (.iload_n 3, 1) := by decide +kernel
theorem dX8_layNeeds_190 : decode cX8_layNeeds 190 = .ok (.imul, 1) := by decide +kernel
theorem dX8_layNeeds_191 : decode cX8_layNeeds 191 = .ok (.iload 4, 2) := by decide +kernel
theorem dX8_layNeeds_193 : decode cX8_layNeeds 193 = .ok (.iadd, 1) := by decide +kernel
theorem dX8_layNeeds_194 : decode cX8_layNeeds 194 = .ok (.iload 5, 2) := by decide +kernel
theorem dX8_layNeeds_196 : decode cX8_layNeeds 196 = .ok (.ifCond .eq 19, 3) := by decide +kernel
theorem dX8_layNeeds_199 : decode cX8_layNeeds 199 = .ok (.iload 6, 2) := by decide +kernel
theorem dX8_layNeeds_201 : decode cX8_layNeeds 201 = .ok (.ldc 136, 2) := by decide +kernel
theorem dX8_layNeeds_203 : decode cX8_layNeeds 203 = .ok (.if_icmp .ge 12, 3) := by decide +kernel
theorem dX8_layNeeds_206 : decode cX8_layNeeds 206 = .ok (.iload 7, 2) := by decide +kernel
theorem dX8_layNeeds_208 : decode cX8_layNeeds 208 = .ok (.ifCond .eq 7, 3) := by decide +kernel
theorem dX8_layNeeds_211 : decode cX8_layNeeds 211 = .ok (.iconst 1, 1) := by decide +kernel
theorem dX8_layNeeds_212 : decode cX8_layNeeds 212 = .ok (.goto 4, 3) := by decide +kernel
theorem dX8_layNeeds_215 : decode cX8_layNeeds 215 = .ok (.iconst 0, 1) := by decide +kernel
theorem dX8_layNeeds_216 : decode cX8_layNeeds 216 = .ok (.bastore, 1) := by decide +kernel
theorem dX8_layNeeds_217 : decode cX8_layNeeds 217 = .ok (.iload_n 2, 1) := by decide +kernel
theorem dX8_layNeeds_218 : decode cX8_layNeeds 218 = .ok (.aload_n 0, 1) := by decide +kernel
theorem dX8_layNeeds_219 : decode cX8_layNeeds 219 = .ok (.getfield 62, 3) := by decide +kernel
theorem dX8_layNeeds_222 : decode cX8_layNeeds 222 = .ok (.bipush 12, 2) := by decide +kernel
theorem dX8_layNeeds_224 : decode cX8_layNeeds 224 = .ok (.iload_n 3, 1) := by decide +kernel
theorem dX8_layNeeds_225 : decode cX8_layNeeds 225 = .ok (.imul, 1) := by decide +kernel
theorem dX8_layNeeds_226 : decode cX8_layNeeds 226 = .ok (.iload 4, 2) := by decide +kernel
theorem dX8_layNeeds_228 : decode cX8_layNeeds 228 = .ok (.iadd, 1) := by decide +kernel
theorem dX8_layNeeds_229 : decode cX8_layNeeds 229 = .ok (.baload, 1) := by decide +kernel
theorem dX8_layNeeds_230 : decode cX8_layNeeds 230 = .ok (.ifCond .eq 7, 3) := by decide +kernel
theorem dX8_layNeeds_233 : decode cX8_layNeeds 233 = .ok (.iconst 1, 1) := by decide +kernel
theorem dX8_layNeeds_234 : decode cX8_layNeeds 234 = .ok (.goto 4, 3) := by decide +kernel
theorem dX8_layNeeds_237 : decode cX8_layNeeds 237 = .ok (.iconst 0, 1) := by decide +kernel
theorem dX8_layNeeds_238 : decode cX8_layNeeds 238 = .ok (.iadd, 1) := by decide +kernel
theorem dX8_layNeeds_239 : decode cX8_layNeeds 239 = .ok (.istore_n 2, 1) := by decide +kernel
theorem dX8_layNeeds_240 : decode cX8_layNeeds 240 = .ok (.iinc 4 1, 3) := by decide +kernel
theorem dX8_layNeeds_243 : decode cX8_layNeeds 243 = .ok (.goto (-191), 3) := by decide +kernel
theorem dX8_layNeeds_246 : decode cX8_layNeeds 246 = .ok (.iinc 3 1, 3) := by decide +kernel
theorem dX8_layNeeds_249 : decode cX8_layNeeds 249 = .ok (.goto (-208), 3) := by decide +kernel
theorem dX8_layNeeds_252 : decode cX8_layNeeds 252 = .ok (.iload_n 2, 1) := by decide +kernel
theorem dX8_layNeeds_253 : decode cX8_layNeeds 253 = .ok (.ireturn, 1) := by decide +kernel
theorem dX8_rankNow_0 : decode cX8_rankNow 0 = .ok (.aload_n 0, 1) := by decide +kernel
theorem dX8_rankNow_1 : decode cX8_rankNow 1 = .ok (.iload_n 1, 1) := by decide +kernel
theorem dX8_rankNow_2 : decode cX8_rankNow 2 = .ok (.invokevirtual 141, 3) := by decide +kernel
theorem dX8_rankNow_5 : decode cX8_rankNow 5 = .ok (.pop, 1) := by decide +kernel
theorem dX8_rankNow_6 : decode cX8_rankNow 6 = .ok (.iconst 0, 1) := by decide +kernel
theorem dX8_rankNow_7 : decode cX8_rankNow 7 = .ok (.istore_n 3, 1) := by decide +kernel
theorem dX8_rankNow_8 : decode cX8_rankNow 8 = .ok (.iload_n 3, 1) := by decide +kernel
theorem dX8_rankNow_9 : decode cX8_rankNow 9 = .ok (.aload_n 0, 1) := by decide +kernel
theorem dX8_rankNow_10 : decode cX8_rankNow 10 = .ok (.getfield 120, 3) := by decide +kernel
theorem dX8_rankNow_13 : decode cX8_rankNow 13 = .ok (.if_icmp .ge 91, 3) := by decide +kernel
theorem dX8_rankNow_16 : decode cX8_rankNow 16 = .ok (.iconst 0, 1) := by decide +kernel
theorem dX8_rankNow_17 : decode cX8_rankNow 17 = .ok (.istore 4, 2) := by decide +kernel
theorem dX8_rankNow_19 : decode cX8_rankNow 19 = .ok (.iload 4, 2) := by decide +kernel
theorem dX8_rankNow_21 : decode cX8_rankNow 21 = .ok (.aload_n 0, 1) := by decide +kernel
theorem dX8_rankNow_22 : decode cX8_rankNow 22 = .ok (.getfield 120, 3) := by decide +kernel
theorem dX8_rankNow_25 : decode cX8_rankNow 25 = .ok (.if_icmp .ge 73, 3) := by decide +kernel
theorem dX8_rankNow_28 : decode cX8_rankNow 28 = .ok (.aload_n 0, 1) := by decide +kernel
theorem dX8_rankNow_29 : decode cX8_rankNow 29 = .ok (.getfield 62, 3) := by decide +kernel
theorem dX8_rankNow_32 : decode cX8_rankNow 32 = .ok (.bipush 12, 2) := by decide +kernel
theorem dX8_rankNow_34 : decode cX8_rankNow 34 = .ok (.iload_n 3, 1) := by decide +kernel
theorem dX8_rankNow_35 : decode cX8_rankNow 35 = .ok (.imul, 1) := by decide +kernel
theorem dX8_rankNow_36 : decode cX8_rankNow 36 = .ok (.iload 4, 2) := by decide +kernel
theorem dX8_rankNow_38 : decode cX8_rankNow 38 = .ok (.iadd, 1) := by decide +kernel
theorem dX8_rankNow_39 : decode cX8_rankNow 39 = .ok (.baload, 1) := by decide +kernel
theorem dX8_rankNow_40 : decode cX8_rankNow 40 = .ok (.ifCond .eq 52, 3) := by decide +kernel
theorem dX8_rankNow_43 : decode cX8_rankNow 43 = .ok (.aload_n 0, 1) := by decide +kernel
theorem dX8_rankNow_44 : decode cX8_rankNow 44 = .ok (.getfield 31, 3) := by decide +kernel
theorem dX8_rankNow_47 : decode cX8_rankNow 47 = .ok (.bipush 12, 2) := by decide +kernel
theorem dX8_rankNow_49 : decode cX8_rankNow 49 = .ok (.iload_n 3, 1) := by decide +kernel
theorem dX8_rankNow_50 : decode cX8_rankNow 50 = .ok (.imul, 1) := by decide +kernel
theorem dX8_rankNow_51 : decode cX8_rankNow 51 = .ok (.iload 4, 2) := by decide +kernel
theorem dX8_rankNow_53 : decode cX8_rankNow 53 = .ok (.iadd, 1) := by decide +kernel
theorem dX8_rankNow_54 : decode cX8_rankNow 54 = .ok (.aload_n 0, 1) := by decide +kernel
theorem dX8_rankNow_55 : decode cX8_rankNow 55 = .ok (.getfield 31, 3) := by decide +kernel
theorem dX8_rankNow_58 : decode cX8_rankNow 58 = .ok (.bipush 12, 2) := by decide +kernel
theorem dX8_rankNow_60 : decode cX8_rankNow 60 = .ok (.iload_n 3, 1) := by decide +kernel
theorem dX8_rankNow_61 : decode cX8_rankNow 61 = .ok (.imul, 1) := by decide +kernel
theorem dX8_rankNow_62 : decode cX8_rankNow 62 = .ok (.iload_n 1, 1) := by decide +kernel
theorem dX8_rankNow_63 : decode cX8_rankNow 63 = .ok (.iadd, 1) := by decide +kernel
theorem dX8_rankNow_64 : decode cX8_rankNow 64 = .ok (.iaload, 1) := by decide +kernel
theorem dX8_rankNow_65 : decode cX8_rankNow 65 = .ok (.aload_n 0, 1) := by decide +kernel
theorem dX8_rankNow_66 : decode cX8_rankNow 66 = .ok (.getfield 31, 3) := by decide +kernel
theorem dX8_rankNow_69 : decode cX8_rankNow 69 = .ok (.bipush 12, 2) := by decide +kernel
theorem dX8_rankNow_71 : decode cX8_rankNow 71 = .ok (.iload_n 1, 1) := by decide +kernel
theorem dX8_rankNow_72 : decode cX8_rankNow 72 = .ok (.imul, 1) := by decide +kernel
theorem dX8_rankNow_73 : decode cX8_rankNow 73 = .ok (.iload 4, 2) := by decide +kernel
theorem dX8_rankNow_75 : decode cX8_rankNow 75 = .ok (.iadd, 1) := by decide +kernel
theorem dX8_rankNow_76 : decode cX8_rankNow 76 = .ok (.iaload, 1) := by decide +kernel
theorem dX8_rankNow_77 : decode cX8_rankNow 77 = .ok (.iadd, 1) := by decide +kernel
theorem dX8_rankNow_78 : decode cX8_rankNow 78 = .ok (.iastore, 1) := by decide +kernel
theorem dX8_rankNow_79 : decode cX8_rankNow 79 = .ok (.aload_n 0, 1) := by decide +kernel
theorem dX8_rankNow_80 : decode cX8_rankNow 80 = .ok (.getfield 34, 3) := by decide +kernel
theorem dX8_rankNow_83 : decode cX8_rankNow 83 = .ok (.bipush 12, 2) := by decide +kernel
theorem dX8_rankNow_85 : decode cX8_rankNow 85 = .ok (.iload_n 3, 1) := by decide +kernel
theorem dX8_rankNow_86 : decode cX8_rankNow 86 = .ok (.imul, 1) := by decide +kernel
theorem dX8_rankNow_87 : decode cX8_rankNow 87 = .ok (.iload 4, 2) := by decide +kernel
theorem dX8_rankNow_89 : decode cX8_rankNow 89 = .ok (.iadd, 1) := by decide +kernel
theorem dX8_rankNow_90 : decode cX8_rankNow 90 = .ok (.iload_n 1, 1) := by decide +kernel
theorem dX8_rankNow_91 : decode cX8_rankNow 91 = .ok (.iastore, 1) := by decide +kernel
theorem dX8_rankNow_92 : decode cX8_rankNow 92 = .ok (.iinc 4 1, 3) := by decide +kernel
theorem dX8_rankNow_95 : decode cX8_rankNow 95 = .ok (.goto (-76), 3) := by decide +kernel
theorem dX8_rankNow_98 : decode cX8_rankNow 98 = .ok (.iinc 3 1, 3) := by decide +kernel
theorem dX8_rankNow_101 : decode cX8_rankNow 101 = .ok (.goto (-93), 3) := by decide +kernel
theorem dX8_rankNow_104 : decode cX8_rankNow 104 = .ok (.aload_n 0, 1) := by decide +kernel
theorem dX8_rankNow_105 : decode cX8_rankNow 105 = .ok (.getfield 52, 3) := by decide +kernel
theorem dX8_rankNow_108 : decode cX8_rankNow 108 = .ok (.iload_n 1, 1) := by decide +kernel
theorem dX8_rankNow_109 : decode cX8_rankNow 109 = .ok (.iconst 0, 1) := by decide +kernel
theorem dX8_rankNow_110 : decode cX8_rankNow 110 = .ok (.bastore, 1) := by decide +kernel
theorem dX8_rankNow_111 : decode cX8_rankNow 111 = .ok (.aload_n 0, 1) := by decide +kernel
theorem dX8_rankNow_112 : decode cX8_rankNow 112 = .ok (.getfield 25, 3) := by decide +kernel
theorem dX8_rankNow_115 : decode cX8_rankNow 115 = .ok (.iload_n 1, 1) := by decide +kernel
theorem dX8_rankNow_116 : decode cX8_rankNow 116 = .ok (.iload_n 2, 1) := by decide +kernel
theorem dX8_rankNow_117 : decode cX8_rankNow 117 = .ok (.iastore, 1) := by decide +kernel
theorem dX8_rankNow_118 : decode cX8_rankNow 118 = .ok (.aload_n 0, 1) := by decide +kernel
theorem dX8_rankNow_119 : decode cX8_rankNow 119 = .ok (.getfield 28, 3) := by decide +kernel
theorem dX8_rankNow_122 : decode cX8_rankNow 122 = .ok (.iload_n 2, 1) := by decide +kernel
theorem dX8_rankNow_123 : decode cX8_rankNow 123 = .ok (.iload_n 1, 1) := by decide +kernel
theorem dX8_rankNow_124 : decode cX8_rankNow 124 = .ok (.iastore, 1) := by decide +kernel
theorem dX8_rankNow_125 : decode cX8_rankNow 125 = .ok (.return_, 1) := by decide +kernel
theorem dX8_arcsAt_0 : decode cX8_arcsAt 0 = .ok (.iconst 0, 1) := by decide +kernel
theorem dX8_arcsAt_1 : decode cX8_arcsAt 1 = .ok (.istore_n 2, 1) := by decide +kernel
theorem dX8_arcsAt_2 : decode cX8_arcsAt 2 = .ok (.iconst 0, 1) := by decide +kernel
theorem dX8_arcsAt_3 : decode cX8_arcsAt 3 = .ok (.istore_n 3, 1) := by decide +kernel
theorem dX8_arcsAt_4 : decode cX8_arcsAt 4 = .ok (.iload_n 3, 1) := by decide +kernel
theorem dX8_arcsAt_5 : decode cX8_arcsAt 5 = .ok (.aload_n 0, 1) := by decide +kernel
theorem dX8_arcsAt_6 : decode cX8_arcsAt 6 = .ok (.getfield 120, 3) := by decide +kernel
theorem dX8_arcsAt_9 : decode cX8_arcsAt 9 = .ok (.if_icmp .ge 85, 3) := by decide +kernel
theorem dX8_arcsAt_12 : decode cX8_arcsAt 12 = .ok (.iload_n 2, 1) := by decide +kernel
theorem dX8_arcsAt_13 : decode cX8_arcsAt 13 = .ok (.iload_n 3, 1) := by decide +kernel
theorem dX8_arcsAt_14 : decode cX8_arcsAt 14 = .ok (.iload_n 1, 1) := by decide +kernel
theorem dX8_arcsAt_15 : decode cX8_arcsAt 15 = .ok (.if_icmp .eq 32, 3) := by decide +kernel
theorem dX8_arcsAt_18 : decode cX8_arcsAt 18 = .ok (.aload_n 0, 1) := by decide +kernel
theorem dX8_arcsAt_19 : decode cX8_arcsAt 19 = .ok (.getfield 52, 3) := by decide +kernel
theorem dX8_arcsAt_22 : decode cX8_arcsAt 22 = .ok (.iload_n 3, 1) := by decide +kernel
theorem dX8_arcsAt_23 : decode cX8_arcsAt 23 = .ok (.baload, 1) := by decide +kernel
theorem dX8_arcsAt_24 : decode cX8_arcsAt 24 = .ok (.ifCond .eq 23, 3) := by decide +kernel
theorem dX8_arcsAt_27 : decode cX8_arcsAt 27 = .ok (.aload_n 0, 1) := by decide +kernel
theorem dX8_arcsAt_28 : decode cX8_arcsAt 28 = .ok (.getfield 31, 3) := by decide +kernel
theorem dX8_arcsAt_31 : decode cX8_arcsAt 31 = .ok (.bipush 12, 2) := by decide +kernel
theorem dX8_arcsAt_33 : decode cX8_arcsAt 33 = .ok (.iload_n 3, 1) := by decide +kernel
theorem dX8_arcsAt_34 : decode cX8_arcsAt 34 = .ok (.imul, 1) := by decide +kernel
theorem dX8_arcsAt_35 : decode cX8_arcsAt 35 = .ok (.iload_n 1, 1) := by decide +kernel
theorem dX8_arcsAt_36 : decode cX8_arcsAt 36 = .ok (.iadd, 1) := by decide +kernel
theorem dX8_arcsAt_37 : decode cX8_arcsAt 37 = .ok (.iaload, 1) := by decide +kernel
theorem dX8_arcsAt_38 : decode cX8_arcsAt 38 = .ok (.ldc 136, 2) := by decide +kernel
theorem dX8_arcsAt_40 : decode cX8_arcsAt 40 = .ok (.if_icmp .ge 7, 3) := by decide +kernel
theorem dX8_arcsAt_43 : decode cX8_arcsAt 43 = .ok (.iconst 1, 1) := by decide +kernel
theorem dX8_arcsAt_44 : decode cX8_arcsAt 44 = .ok (.goto 4, 3) := by decide +kernel
theorem dX8_arcsAt_47 : decode cX8_arcsAt 47 = .ok (.iconst 0, 1) := by decide +kernel
theorem dX8_arcsAt_48 : decode cX8_arcsAt 48 = .ok (.iadd, 1) := by decide +kernel
theorem dX8_arcsAt_49 : decode cX8_arcsAt 49 = .ok (.istore_n 2, 1) := by decide +kernel
theorem dX8_arcsAt_50 : decode cX8_arcsAt 50 = .ok (.iload_n 2, 1) := by decide +kernel
theorem dX8_arcsAt_51 : decode cX8_arcsAt 51 = .ok (.iload_n 3, 1) := by decide +kernel
theorem dX8_arcsAt_52 : decode cX8_arcsAt 52 = .ok (.iload_n 1, 1) := by decide +kernel
theorem dX8_arcsAt_53 : decode cX8_arcsAt 53 = .ok (.if_icmp .eq 32, 3) := by decide +kernel
theorem dX8_arcsAt_56 : decode cX8_arcsAt 56 = .ok (.aload_n 0, 1) := by decide +kernel
theorem dX8_arcsAt_57 : decode cX8_arcsAt 57 = .ok (.getfield 52, 3) := by decide +kernel
theorem dX8_arcsAt_60 : decode cX8_arcsAt 60 = .ok (.iload_n 3, 1) := by decide +kernel
theorem dX8_arcsAt_61 : decode cX8_arcsAt 61 = .ok (.baload, 1) := by decide +kernel
theorem dX8_arcsAt_62 : decode cX8_arcsAt 62 = .ok (.ifCond .eq 23, 3) := by decide +kernel
theorem dX8_arcsAt_65 : decode cX8_arcsAt 65 = .ok (.aload_n 0, 1) := by decide +kernel
theorem dX8_arcsAt_66 : decode cX8_arcsAt 66 = .ok (.getfield 31, 3) := by decide +kernel
theorem dX8_arcsAt_69 : decode cX8_arcsAt 69 = .ok (.bipush 12, 2) := by decide +kernel
theorem dX8_arcsAt_71 : decode cX8_arcsAt 71 = .ok (.iload_n 1, 1) := by decide +kernel
theorem dX8_arcsAt_72 : decode cX8_arcsAt 72 = .ok (.imul, 1) := by decide +kernel
theorem dX8_arcsAt_73 : decode cX8_arcsAt 73 = .ok (.iload_n 3, 1) := by decide +kernel
theorem dX8_arcsAt_74 : decode cX8_arcsAt 74 = .ok (.iadd, 1) := by decide +kernel
theorem dX8_arcsAt_75 : decode cX8_arcsAt 75 = .ok (.iaload, 1) := by decide +kernel
theorem dX8_arcsAt_76 : decode cX8_arcsAt 76 = .ok (.ldc 136, 2) := by decide +kernel
theorem dX8_arcsAt_78 : decode cX8_arcsAt 78 = .ok (.if_icmp .ge 7, 3) := by decide +kernel
theorem dX8_arcsAt_81 : decode cX8_arcsAt 81 = .ok (.iconst 1, 1) := by decide +kernel
theorem dX8_arcsAt_82 : decode cX8_arcsAt 82 = .ok (.goto 4, 3) := by decide +kernel
theorem dX8_arcsAt_85 : decode cX8_arcsAt 85 = .ok (.iconst 0, 1) := by decide +kernel
theorem dX8_arcsAt_86 : decode cX8_arcsAt 86 = .ok (.iadd, 1) := by decide +kernel
theorem dX8_arcsAt_87 : decode cX8_arcsAt 87 = .ok (.istore_n 2, 1) := by decide +kernel
theorem dX8_arcsAt_88 : decode cX8_arcsAt 88 = .ok (.iinc 3 1, 3) := by decide +kernel
theorem dX8_arcsAt_91 : decode cX8_arcsAt 91 = .ok (.goto (-87), 3) := by decide +kernel
theorem dX8_arcsAt_94 : decode cX8_arcsAt 94 = .ok (.iload_n 2, 1) := by decide +kernel
theorem dX8_arcsAt_95 : decode cX8_arcsAt 95 = .ok (.ireturn, 1) := by decide +kernel
theorem dX8_nextRoad_0 : decode cX8_nextRoad 0 = .ok (.iconst (-1), 1) := by decide +kernel
theorem dX8_nextRoad_1 : decode cX8_nextRoad 1 = .ok (.istore_n 1, 1) := by decide +kernel
theorem dX8_nextRoad_2 : decode cX8_nextRoad 2 = .ok (.ldc 136, 2) := by decide +kernel
theorem dX8_nextRoad_4 : decode cX8_nextRoad 4 = .ok (.istore_n 2, 1) := by decide +kernel
theorem dX8_nextRoad_5 : decode cX8_nextRoad 5 = .ok (.iconst 0, 1) := by decide +kernel
theorem dX8_nextRoad_6 : decode cX8_nextRoad 6 = .ok (.istore_n 3, 1) := by decide +kernel
theorem dX8_nextRoad_7 : decode cX8_nextRoad 7 = .ok (.iload_n 3, 1) := by decide +kernel
theorem dX8_nextRoad_8 : decode cX8_nextRoad 8 = .ok (.aload_n 0, 1) := by decide +kernel
theorem dX8_nextRoad_9 : decode cX8_nextRoad 9 = .ok (.getfield 120, 3) := by decide +kernel
theorem dX8_nextRoad_12 : decode cX8_nextRoad 12 = .ok (.if_icmp .ge 56, 3) := by decide +kernel
theorem dX8_nextRoad_15 : decode cX8_nextRoad 15 = .ok (.aload_n 0, 1) := by decide +kernel
theorem dX8_nextRoad_16 : decode cX8_nextRoad 16 = .ok (.getfield 52, 3) := by decide +kernel
theorem dX8_nextRoad_19 : decode cX8_nextRoad 19 = .ok (.iload_n 3, 1) := by decide +kernel
theorem dX8_nextRoad_20 : decode cX8_nextRoad 20 = .ok (.baload, 1) := by decide +kernel
theorem dX8_nextRoad_21 : decode cX8_nextRoad 21 = .ok (.ifCond .eq 41, 3) := by decide +kernel
theorem dX8_nextRoad_24 : decode cX8_nextRoad 24 = .ok (.aload_n 0, 1) := by decide +kernel
theorem dX8_nextRoad_25 : decode cX8_nextRoad 25 = .ok (.iload_n 3, 1) := by decide +kernel
theorem dX8_nextRoad_26 : decode cX8_nextRoad 26 = .ok (.invokevirtual 141, 3) := by decide +kernel
theorem dX8_nextRoad_29 : decode cX8_nextRoad 29 = .ok (.aload_n 0, 1) := by decide +kernel
theorem dX8_nextRoad_30 : decode cX8_nextRoad 30 = .ok (.iload_n 3, 1) := by decide +kernel
theorem dX8_nextRoad_31 : decode cX8_nextRoad 31 = .ok (.invokevirtual 145, 3) := by decide +kernel
theorem dX8_nextRoad_34 : decode cX8_nextRoad 34 = .ok (.isub, 1) := by decide +kernel
theorem dX8_nextRoad_35 : decode cX8_nextRoad 35 = .ok (.istore 4, 2) := by decide +kernel
theorem dX8_nextRoad_37 : decode cX8_nextRoad 37 = .ok (.iload 4, 2) := by decide +kernel
theorem dX8_nextRoad_39 : decode cX8_nextRoad 39 = .ok (.iload_n 2, 1) := by decide +kernel
theorem dX8_nextRoad_40 : decode cX8_nextRoad 40 = .ok (.if_icmp .ge 7, 3) := by decide +kernel
theorem dX8_nextRoad_43 : decode cX8_nextRoad 43 = .ok (.iload_n 3, 1) := by decide +kernel
theorem dX8_nextRoad_44 : decode cX8_nextRoad 44 = .ok (.goto 4, 3) := by decide +kernel
theorem dX8_nextRoad_47 : decode cX8_nextRoad 47 = .ok (.iload_n 1, 1) := by decide +kernel
theorem dX8_nextRoad_48 : decode cX8_nextRoad 48 = .ok (.istore_n 1, 1) := by decide +kernel
theorem dX8_nextRoad_49 : decode cX8_nextRoad 49 = .ok (.iload 4, 2) := by decide +kernel
theorem dX8_nextRoad_51 : decode cX8_nextRoad 51 = .ok (.iload_n 2, 1) := by decide +kernel
theorem dX8_nextRoad_52 : decode cX8_nextRoad 52 = .ok (.if_icmp .ge 8, 3) := by decide +kernel
theorem dX8_nextRoad_55 : decode cX8_nextRoad 55 = .ok (.iload 4, 2) := by decide +kernel
theorem dX8_nextRoad_57 : decode cX8_nextRoad 57 = .ok (.goto 4, 3) := by decide +kernel
theorem dX8_nextRoad_60 : decode cX8_nextRoad 60 = .ok (.iload_n 2, 1) := by decide +kernel
theorem dX8_nextRoad_61 : decode cX8_nextRoad 61 = .ok (.istore_n 2, 1) := by decide +kernel
theorem dX8_nextRoad_62 : decode cX8_nextRoad 62 = .ok (.iinc 3 1, 3) := by decide +kernel
theorem dX8_nextRoad_65 : decode cX8_nextRoad 65 = .ok (.goto (-58), 3) := by decide +kernel
theorem dX8_nextRoad_68 : decode cX8_nextRoad 68 = .ok (.iload_n 1, 1) := by decide +kernel
theorem dX8_nextRoad_69 : decode cX8_nextRoad 69 = .ok (.ireturn, 1) := by decide +kernel
theorem dX8_allLeft_0 : decode cX8_allLeft 0 = .ok (.iconst 0, 1) := by decide +kernel
theorem dX8_allLeft_1 : decode cX8_allLeft 1 = .ok (.istore_n 1, 1) := by decide +kernel
theorem dX8_allLeft_2 : decode cX8_allLeft 2 = .ok (.iload_n 1, 1) := by decide +kernel
theorem dX8_allLeft_3 : decode cX8_allLeft 3 = .ok (.aload_n 0, 1) := by decide +kernel
theorem dX8_allLeft_4 : decode cX8_allLeft 4 = .ok (.getfield 120, 3) := by decide +kernel
theorem dX8_allLeft_7 : decode cX8_allLeft 7 = .ok (.if_icmp .ge 16, 3) := by decide +kernel
theorem dX8_allLeft_10 : decode cX8_allLeft 10 = .ok (.aload_n 0, 1) := by decide +kernel
theorem dX8_allLeft_11 : decode cX8_allLeft 11 = .ok (.getfield 52, 3) := by decide +kernel
theorem dX8_allLeft_14 : decode cX8_allLeft 14 = .ok (.iload_n 1, 1) := by decide +kernel
theorem dX8_allLeft_15 : decode cX8_allLeft 15 = .ok (.iconst 1, 1) := by decide +kernel
theorem dX8_allLeft_16 : decode cX8_allLeft 16 = .ok (.bastore, 1) := by decide +kernel
theorem dX8_allLeft_17 : decode cX8_allLeft 17 = .ok (.iinc 1 1, 3) := by decide +kernel
theorem dX8_allLeft_20 : decode cX8_allLeft 20 = .ok (.goto (-18), 3) := by decide +kernel
theorem dX8_allLeft_23 : decode cX8_allLeft 23 = .ok (.aload_n 0, 1) := by decide +kernel
theorem dX8_allLeft_24 : decode cX8_allLeft 24 = .ok (.invokevirtual 148, 3) := by decide +kernel
theorem dX8_allLeft_27 : decode cX8_allLeft 27 = .ok (.return_, 1) := by decide +kernel
theorem dX8_findOrder_0 : decode cX8_findOrder 0 = .ok (.aload_n 0, 1) := by decide +kernel
theorem dX8_findOrder_1 : decode cX8_findOrder 1 = .ok (.invokevirtual 151, 3) := by decide +kernel
theorem dX8_findOrder_4 : decode cX8_findOrder 4 = .ok (.iconst 0, 1) := by decide +kernel
theorem dX8_findOrder_5 : decode cX8_findOrder 5 = .ok (.istore_n 1, 1) := by decide +kernel
theorem dX8_findOrder_6 : decode cX8_findOrder 6 = .ok (.iload_n 1, 1) := by decide +kernel
theorem dX8_findOrder_7 : decode cX8_findOrder 7 = .ok (.aload_n 0, 1) := by decide +kernel
theorem dX8_findOrder_8 : decode cX8_findOrder 8 = .ok (.getfield 120, 3) := by decide +kernel
theorem dX8_findOrder_11 : decode cX8_findOrder 11 = .ok (.if_icmp .ge 18, 3) := by decide +kernel
theorem dX8_findOrder_14 : decode cX8_findOrder 14 = .ok (.aload_n 0, 1) := by decide +kernel
theorem dX8_findOrder_15 : decode cX8_findOrder 15 = .ok (.aload_n 0, 1) := by decide +kernel
theorem dX8_findOrder_16 : decode cX8_findOrder 16 = .ok (.invokevirtual 154, 3) := by decide +kernel
theorem dX8_findOrder_19 : decode cX8_findOrder 19 = .ok (.iload_n 1, 1) := by decide +kernel
theorem dX8_findOrder_20 : decode cX8_findOrder 20 = .ok (.invokevirtual 157, 3) := by decide +kernel
theorem dX8_findOrder_23 : decode cX8_findOrder 23 = .ok (.iinc 1 1, 3) := by decide +kernel
theorem dX8_findOrder_26 : decode cX8_findOrder 26 = .ok (.goto (-20), 3) := by decide +kernel
theorem dX8_findOrder_29 : decode cX8_findOrder 29 = .ok (.return_, 1) := by decide +kernel
theorem dX8_layArcs_0 : decode cX8_layArcs 0 = .ok (.aload_n 0, 1) := by decide +kernel
theorem dX8_layArcs_1 : decode cX8_layArcs 1 = .ok (.invokevirtual 151, 3) := by decide +kernel
theorem dX8_layArcs_4 : decode cX8_layArcs 4 = .ok (.iconst 0, 1) := by decide +kernel
theorem dX8_layArcs_5 : decode cX8_layArcs 5 = .ok (.istore_n 1, 1) := by decide +kernel
theorem dX8_layArcs_6 : decode cX8_layArcs 6 = .ok (.iload_n 1, 1) := by decide +kernel
theorem dX8_layArcs_7 : decode cX8_layArcs 7 = .ok (.aload_n 0, 1) := by decide +kernel
theorem dX8_layArcs_8 : decode cX8_layArcs 8 = .ok (.getfield 120, 3) := by decide +kernel
theorem dX8_layArcs_11 : decode cX8_layArcs 11 = .ok (.if_icmp .ge 20, 3) := by decide +kernel
theorem dX8_layArcs_14 : decode cX8_layArcs 14 = .ok (.aload_n 0, 1) := by decide +kernel
theorem dX8_layArcs_15 : decode cX8_layArcs 15 = .ok (.aload_n 0, 1) := by decide +kernel
theorem dX8_layArcs_16 : decode cX8_layArcs 16 = .ok (.getfield 28, 3) := by decide +kernel
theorem dX8_layArcs_19 : decode cX8_layArcs 19 = .ok (.iload_n 1, 1) := by decide +kernel
theorem dX8_layArcs_20 : decode cX8_layArcs 20 = .ok (.iaload, 1) := by decide +kernel
theorem dX8_layArcs_21 : decode cX8_layArcs 21 = .ok (.iload_n 1, 1) := by decide +kernel
theorem dX8_layArcs_22 : decode cX8_layArcs 22 = .ok (.invokevirtual 157, 3) := by decide +kernel
theorem dX8_layArcs_25 : decode cX8_layArcs 25 = .ok (.iinc 1 1, 3) := by decide +kernel
theorem dX8_layArcs_28 : decode cX8_layArcs 28 = .ok (.goto (-22), 3) := by decide +kernel
theorem dX8_layArcs_31 : decode cX8_layArcs 31 = .ok (.return_, 1) := by decide +kernel
theorem dX8_layLeasts_0 : decode cX8_layLeasts 0 = .ok (.iconst 0, 1) := by decide +kernel
theorem dX8_layLeasts_1 : decode cX8_layLeasts 1 = .ok (.istore_n 1, 1) := by decide +kernel
theorem dX8_layLeasts_2 : decode cX8_layLeasts 2 = .ok (.iload_n 1, 1) := by decide +kernel
theorem dX8_layLeasts_3 : decode cX8_layLeasts 3 = .ok (.aload_n 0, 1) := by decide +kernel
theorem dX8_layLeasts_4 : decode cX8_layLeasts 4 = .ok (.getfield 120, 3) := by decide +kernel
theorem dX8_layLeasts_7 : decode cX8_layLeasts 7 = .ok (.if_icmp .ge 84, 3) := by decide +kernel
theorem dX8_layLeasts_10 : decode cX8_layLeasts 10 = .ok (.iconst 0, 1) := by decide +kernel
theorem dX8_layLeasts_11 : decode cX8_layLeasts 11 = .ok (.istore_n 2, 1) := by decide +kernel
theorem dX8_layLeasts_12 : decode cX8_layLeasts 12 = .ok (.iload_n 2, 1) := by decide +kernel
theorem dX8_layLeasts_13 : decode cX8_layLeasts 13 = .ok (.aload_n 0, 1) := by decide +kernel
theorem dX8_layLeasts_14 : decode cX8_layLeasts 14 = .ok (.getfield 120, 3) := by decide +kernel
theorem dX8_layLeasts_17 : decode cX8_layLeasts 17 = .ok (.if_icmp .ge 68, 3) := by decide +kernel
theorem dX8_layLeasts_20 : decode cX8_layLeasts 20 = .ok (.aload_n 0, 1) := by decide +kernel
theorem dX8_layLeasts_21 : decode cX8_layLeasts 21 = .ok (.iload_n 1, 1) := by decide +kernel
theorem dX8_layLeasts_22 : decode cX8_layLeasts 22 = .ok (.iload_n 2, 1) := by decide +kernel
theorem dX8_layLeasts_23 : decode cX8_layLeasts 23 = .ok (.invokevirtual 132, 3) := by decide +kernel
theorem dX8_layLeasts_26 : decode cX8_layLeasts 26 = .ok (.ifCond .eq 29, 3) := by decide +kernel
theorem dX8_layLeasts_29 : decode cX8_layLeasts 29 = .ok (.bipush 16, 2) := by decide +kernel
theorem dX8_layLeasts_31 : decode cX8_layLeasts 31 = .ok (.aload_n 0, 1) := by decide +kernel
theorem dX8_layLeasts_32 : decode cX8_layLeasts 32 = .ok (.getfield 22, 3) := by decide +kernel
theorem dX8_layLeasts_35 : decode cX8_layLeasts 35 = .ok (.bipush 12, 2) := by decide +kernel
theorem dX8_layLeasts_37 : decode cX8_layLeasts 37 = .ok (.iload_n 1, 1) := by decide +kernel
theorem dX8_layLeasts_38 : decode cX8_layLeasts 38 = .ok (.imul, 1) := by decide +kernel
theorem dX8_layLeasts_39 : decode cX8_layLeasts 39 = .ok (.iload_n 2, 1) := by decide +kernel
theorem dX8_layLeasts_40 : decode cX8_layLeasts 40 = .ok (.iadd, 1) := by decide +kernel
theorem dX8_layLeasts_41 : decode cX8_layLeasts 41 = .ok (.iaload, 1) := by decide +kernel
theorem dX8_layLeasts_42 : decode cX8_layLeasts 42 = .ok (.aload_n 0, 1) := by decide +kernel
theorem dX8_layLeasts_43 : decode cX8_layLeasts 43 = .ok (.getfield 19, 3) := by decide +kernel
theorem dX8_layLeasts_46 : decode cX8_layLeasts 46 = .ok (.iload_n 2, 1) := by decide +kernel
theorem dX8_layLeasts_47 : decode cX8_layLeasts 47 = .ok (.iaload, 1) := by decide +kernel
theorem dX8_layLeasts_48 : decode cX8_layLeasts 48 = .ok (.iadd, 1) := by decide +kernel
theorem dX8_layLeasts_49 : decode cX8_layLeasts 49 = .ok (.imul, 1) := by decide +kernel
theorem dX8_layLeasts_50 : decode cX8_layLeasts 50 = .ok (.iconst 1, 1) := by decide +kernel
theorem dX8_layLeasts_51 : decode cX8_layLeasts 51 = .ok (.iadd, 1) := by decide +kernel
theorem dX8_layLeasts_52 : decode cX8_layLeasts 52 = .ok (.goto 5, 3) := by decide +kernel
theorem dX8_layLeasts_55 : decode cX8_layLeasts 55 = .ok (.ldc 136, 2) := by decide +kernel
theorem dX8_layLeasts_57 : decode cX8_layLeasts 57 = .ok (.istore_n 3, 1) := by decide +kernel
theorem dX8_layLeasts_58 : decode cX8_layLeasts 58 = .ok (.aload_n 0, 1) := by decide +kernel
theorem dX8_layLeasts_59 : decode cX8_layLeasts 59 = .ok (.getfield 37, 3) := by decide +kernel
theorem dX8_layLeasts_62 : decode cX8_layLeasts 62 = .ok (.bipush 12, 2) := by decide +kernel
theorem dX8_layLeasts_64 : decode cX8_layLeasts 64 = .ok (.iload_n 1, 1) := by decide +kernel
theorem dX8_layLeasts_65 : decode cX8_layLeasts 65 = .ok (.imul, 1) := by decide +kernel
theorem dX8_layLeasts_66 : decode cX8_layLeasts 66 = .ok (.iload_n 2, 1) := by decide +kernel
theorem dX8_layLeasts_67 : decode cX8_layLeasts 67 = .ok (.iadd, 1) := by decide +kernel
theorem dX8_layLeasts_68 : decode cX8_layLeasts 68 = .ok (.iload_n 1, 1) := by decide +kernel
theorem dX8_layLeasts_69 : decode cX8_layLeasts 69 = .ok (.iload_n 2, 1) := by decide +kernel
theorem dX8_layLeasts_70 : decode cX8_layLeasts 70 = .ok (.if_icmp .ne 7, 3) := by decide +kernel
theorem dX8_layLeasts_73 : decode cX8_layLeasts 73 = .ok (.iconst 0, 1) := by decide +kernel
theorem dX8_layLeasts_74 : decode cX8_layLeasts 74 = .ok (.goto 4, 3) := by decide +kernel
theorem dX8_layLeasts_77 : decode cX8_layLeasts 77 = .ok (.iload_n 3, 1) := by decide +kernel
theorem dX8_layLeasts_78 : decode cX8_layLeasts 78 = .ok (.iastore, 1) := by decide +kernel
theorem dX8_layLeasts_79 : decode cX8_layLeasts 79 = .ok (.iinc 2 1, 3) := by decide +kernel
theorem dX8_layLeasts_82 : decode cX8_layLeasts 82 = .ok (.goto (-70), 3) := by decide +kernel
theorem dX8_layLeasts_85 : decode cX8_layLeasts 85 = .ok (.iinc 1 1, 3) := by decide +kernel
theorem dX8_layLeasts_88 : decode cX8_layLeasts 88 = .ok (.goto (-86), 3) := by decide +kernel
theorem dX8_layLeasts_91 : decode cX8_layLeasts 91 = .ok (.iconst 0, 1) := by decide +kernel
theorem dX8_layLeasts_92 : decode cX8_layLeasts 92 = .ok (.istore_n 1, 1) := by decide +kernel
theorem dX8_layLeasts_93 : decode cX8_layLeasts 93 = .ok (.iload_n 1, 1) := by decide +kernel
theorem dX8_layLeasts_94 : decode cX8_layLeasts 94 = .ok (.aload_n 0, 1) := by decide +kernel
theorem dX8_layLeasts_95 : decode cX8_layLeasts 95 = .ok (.getfield 120, 3) := by decide +kernel
theorem dX8_layLeasts_98 : decode cX8_layLeasts 98 = .ok (.if_icmp .ge 109, 3) := by decide +kernel
theorem dX8_layLeasts_101 : decode cX8_layLeasts 101 = .ok (.iconst 0, 1) := by decide +kernel
theorem dX8_layLeasts_102 : decode cX8_layLeasts 102 = .ok (.istore_n 2, 1) := by decide +kernel
theorem dX8_layLeasts_103 : decode cX8_layLeasts 103 = .ok (.iload_n 2, 1) := by decide +kernel
theorem dX8_layLeasts_104 : decode cX8_layLeasts 104 = .ok (.aload_n 0, 1) := by decide +kernel
theorem dX8_layLeasts_105 : decode cX8_layLeasts 105 = .ok (.getfield 120, 3) := by decide +kernel
theorem dX8_layLeasts_108 : decode cX8_layLeasts 108 = .ok (.if_icmp .ge 93, 3) := by decide +kernel
theorem dX8_layLeasts_111 : decode cX8_layLeasts 111 = .ok (.iconst 0, 1) := by decide +kernel
theorem dX8_layLeasts_112 : decode cX8_layLeasts 112 = .ok (.istore_n 3, 1) := by decide +kernel
theorem dX8_layLeasts_113 : decode cX8_layLeasts 113 = .ok (.iload_n 3, 1) := by decide +kernel
theorem dX8_layLeasts_114 : decode cX8_layLeasts 114 = .ok (.aload_n 0, 1) := by decide +kernel
theorem dX8_layLeasts_115 : decode cX8_layLeasts 115 = .ok (.getfield 120, 3) := by decide +kernel
theorem dX8_layLeasts_118 : decode cX8_layLeasts 118 = .ok (.if_icmp .ge 77, 3) := by decide +kernel
theorem dX8_layLeasts_121 : decode cX8_layLeasts 121 = .ok (.aload_n 0, 1) := by decide +kernel
theorem dX8_layLeasts_122 : decode cX8_layLeasts 122 = .ok (.getfield 37, 3) := by decide +kernel
theorem dX8_layLeasts_125 : decode cX8_layLeasts 125 = .ok (.bipush 12, 2) := by decide +kernel
theorem dX8_layLeasts_127 : decode cX8_layLeasts 127 = .ok (.iload_n 2, 1) := by decide +kernel
theorem dX8_layLeasts_128 : decode cX8_layLeasts 128 = .ok (.imul, 1) := by decide +kernel
theorem dX8_layLeasts_129 : decode cX8_layLeasts 129 = .ok (.iload_n 1, 1) := by decide +kernel
theorem dX8_layLeasts_130 : decode cX8_layLeasts 130 = .ok (.iadd, 1) := by decide +kernel
theorem dX8_layLeasts_131 : decode cX8_layLeasts 131 = .ok (.iaload, 1) := by decide +kernel
theorem dX8_layLeasts_132 : decode cX8_layLeasts 132 = .ok (.aload_n 0, 1) := by decide +kernel
theorem dX8_layLeasts_133 : decode cX8_layLeasts 133 = .ok (.getfield 37, 3) := by decide +kernel
theorem dX8_layLeasts_136 : decode cX8_layLeasts 136 = .ok (.bipush 12, 2) := by decide +kernel
theorem dX8_layLeasts_138 : decode cX8_layLeasts 138 = .ok (.iload_n 1, 1) := by decide +kernel
theorem dX8_layLeasts_139 : decode cX8_layLeasts 139 = .ok (.imul, 1) := by decide +kernel
theorem dX8_layLeasts_140 : decode cX8_layLeasts 140 = .ok (.iload_n 3, 1) := by decide +kernel
theorem dX8_layLeasts_141 : decode cX8_layLeasts 141 = .ok (.iadd, 1) := by decide +kernel
theorem dX8_layLeasts_142 : decode cX8_layLeasts 142 = .ok (.iaload, 1) := by decide +kernel
theorem dX8_layLeasts_143 : decode cX8_layLeasts 143 = .ok (.iadd, 1) := by decide +kernel
theorem dX8_layLeasts_144 : decode cX8_layLeasts 144 = .ok (.istore 4, 2) := by decide +kernel
theorem dX8_layLeasts_146 : decode cX8_layLeasts 146 = .ok (.aload_n 0, 1) := by decide +kernel
theorem dX8_layLeasts_147 : decode cX8_layLeasts 147 = .ok (.getfield 37, 3) := by decide +kernel
theorem dX8_layLeasts_150 : decode cX8_layLeasts 150 = .ok (.bipush 12, 2) := by decide +kernel
theorem dX8_layLeasts_152 : decode cX8_layLeasts 152 = .ok (.iload_n 2, 1) := by decide +kernel
theorem dX8_layLeasts_153 : decode cX8_layLeasts 153 = .ok (.imul, 1) := by decide +kernel
theorem dX8_layLeasts_154 : decode cX8_layLeasts 154 = .ok (.iload_n 3, 1) := by decide +kernel
theorem dX8_layLeasts_155 : decode cX8_layLeasts 155 = .ok (.iadd, 1) := by decide +kernel
theorem dX8_layLeasts_156 : decode cX8_layLeasts 156 = .ok (.iload 4, 2) := by decide +kernel
theorem dX8_layLeasts_158 : decode cX8_layLeasts 158 = .ok (.aload_n 0, 1) := by decide +kernel
theorem dX8_layLeasts_159 : decode cX8_layLeasts 159 = .ok (.getfield 37, 3) := by decide +kernel
theorem dX8_layLeasts_162 : decode cX8_layLeasts 162 = .ok (.bipush 12, 2) := by decide +kernel
theorem dX8_layLeasts_164 : decode cX8_layLeasts 164 = .ok (.iload_n 2, 1) := by decide +kernel
theorem dX8_layLeasts_165 : decode cX8_layLeasts 165 = .ok (.imul, 1) := by decide +kernel
theorem dX8_layLeasts_166 : decode cX8_layLeasts 166 = .ok (.iload_n 3, 1) := by decide +kernel
theorem dX8_layLeasts_167 : decode cX8_layLeasts 167 = .ok (.iadd, 1) := by decide +kernel
theorem dX8_layLeasts_168 : decode cX8_layLeasts 168 = .ok (.iaload, 1) := by decide +kernel
theorem dX8_layLeasts_169 : decode cX8_layLeasts 169 = .ok (.if_icmp .ge 8, 3) := by decide +kernel
theorem dX8_layLeasts_172 : decode cX8_layLeasts 172 = .ok (.iload 4, 2) := by decide +kernel
theorem dX8_layLeasts_174 : decode cX8_layLeasts 174 = .ok (.goto 14, 3) := by decide +kernel
theorem dX8_layLeasts_177 : decode cX8_layLeasts 177 = .ok (.aload_n 0, 1) := by decide +kernel
theorem dX8_layLeasts_178 : decode cX8_layLeasts 178 = .ok (.getfield 37, 3) := by decide +kernel
theorem dX8_layLeasts_181 : decode cX8_layLeasts 181 = .ok (.bipush 12, 2) := by decide +kernel
theorem dX8_layLeasts_183 : decode cX8_layLeasts 183 = .ok (.iload_n 2, 1) := by decide +kernel
theorem dX8_layLeasts_184 : decode cX8_layLeasts 184 = .ok (.imul, 1) := by decide +kernel
theorem dX8_layLeasts_185 : decode cX8_layLeasts 185 = .ok (.iload_n 3, 1) := by decide +kernel
theorem dX8_layLeasts_186 : decode cX8_layLeasts 186 = .ok (.iadd, 1) := by decide +kernel
theorem dX8_layLeasts_187 : decode cX8_layLeasts 187 = .ok (.iaload, 1) := by decide +kernel
theorem dX8_layLeasts_188 : decode cX8_layLeasts 188 = .ok (.iastore, 1) := by decide +kernel
theorem dX8_layLeasts_189 : decode cX8_layLeasts 189 = .ok (.iinc 3 1, 3) := by decide +kernel
theorem dX8_layLeasts_192 : decode cX8_layLeasts 192 = .ok (.goto (-79), 3) := by decide +kernel
theorem dX8_layLeasts_195 : decode cX8_layLeasts 195 = .ok (.iinc 2 1, 3) := by decide +kernel
theorem dX8_layLeasts_198 : decode cX8_layLeasts 198 = .ok (.goto (-95), 3) := by decide +kernel
theorem dX8_layLeasts_201 : decode cX8_layLeasts 201 = .ok (.iinc 1 1, 3) := by decide +kernel
theorem dX8_layLeasts_204 : decode cX8_layLeasts 204 = .ok (.goto (-111), 3) := by decide +kernel
theorem dX8_layLeasts_207 : decode cX8_layLeasts 207 = .ok (.return_, 1) := by decide +kernel
theorem dX8_nextOn_0 : decode cX8_nextOn 0 = .ok (.iconst 0, 1) := by decide +kernel
theorem dX8_nextOn_1 : decode cX8_nextOn 1 = .ok (.istore_n 3, 1) := by decide +kernel
theorem dX8_nextOn_2 : decode cX8_nextOn 2 = .ok (.iload_n 3, 1) := by decide +kernel
theorem dX8_nextOn_3 : decode cX8_nextOn 3 = .ok (.iload_n 1, 1) := by decide +kernel
theorem dX8_nextOn_4 : decode cX8_nextOn 4 = .ok (.if_icmp .eq 61, 3) := by decide +kernel
theorem dX8_nextOn_7 : decode cX8_nextOn 7 = .ok (.aload_n 0, 1) := by decide +kernel
theorem dX8_nextOn_8 : decode cX8_nextOn 8 = .ok (.iload_n 1, 1) := by decide +kernel
theorem dX8_nextOn_9 : decode cX8_nextOn 9 = .ok (.iload_n 3, 1) := by decide +kernel
theorem dX8_nextOn_10 : decode cX8_nextOn 10 = .ok (.invokevirtual 132, 3) := by decide +kernel
theorem dX8_nextOn_13 : decode cX8_nextOn 13 = .ok (.ifCond .eq 52, 3) := by decide +kernel
theorem dX8_nextOn_16 : decode cX8_nextOn 16 = .ok (.bipush 16, 2) := by decide +kernel
theorem dX8_nextOn_18 : decode cX8_nextOn 18 = .ok (.aload_n 0, 1) := by decide +kernel
theorem dX8_nextOn_19 : decode cX8_nextOn 19 = .ok (.getfield 22, 3) := by decide +kernel
theorem dX8_nextOn_22 : decode cX8_nextOn 22 = .ok (.bipush 12, 2) := by decide +kernel
theorem dX8_nextOn_24 : decode cX8_nextOn 24 = .ok (.iload_n 1, 1) := by decide +kernel
theorem dX8_nextOn_25 : decode cX8_nextOn 25 = .ok (.imul, 1) := by decide +kernel
theorem dX8_nextOn_26 : decode cX8_nextOn 26 = .ok (.iload_n 3, 1) := by decide +kernel
theorem dX8_nextOn_27 : decode cX8_nextOn 27 = .ok (.iadd, 1) := by decide +kernel
theorem dX8_nextOn_28 : decode cX8_nextOn 28 = .ok (.iaload, 1) := by decide +kernel
theorem dX8_nextOn_29 : decode cX8_nextOn 29 = .ok (.aload_n 0, 1) := by decide +kernel
theorem dX8_nextOn_30 : decode cX8_nextOn 30 = .ok (.getfield 19, 3) := by decide +kernel
theorem dX8_nextOn_33 : decode cX8_nextOn 33 = .ok (.iload_n 3, 1) := by decide +kernel
theorem dX8_nextOn_34 : decode cX8_nextOn 34 = .ok (.iaload, 1) := by decide +kernel
theorem dX8_nextOn_35 : decode cX8_nextOn 35 = .ok (.iadd, 1) := by decide +kernel
theorem dX8_nextOn_36 : decode cX8_nextOn 36 = .ok (.imul, 1) := by decide +kernel
theorem dX8_nextOn_37 : decode cX8_nextOn 37 = .ok (.iconst 1, 1) := by decide +kernel
theorem dX8_nextOn_38 : decode cX8_nextOn 38 = .ok (.iadd, 1) := by decide +kernel
theorem dX8_nextOn_39 : decode cX8_nextOn 39 = .ok (.aload_n 0, 1) := by decide +kernel
theorem dX8_nextOn_40 : decode cX8_nextOn 40 = .ok (.getfield 37, 3) := by decide +kernel
theorem dX8_nextOn_43 : decode cX8_nextOn 43 = .ok (.bipush 12, 2) := by decide +kernel
theorem dX8_nextOn_45 : decode cX8_nextOn 45 = .ok (.iload_n 3, 1) := by decide +kernel
theorem dX8_nextOn_46 : decode cX8_nextOn 46 = .ok (.imul, 1) := by decide +kernel
theorem dX8_nextOn_47 : decode cX8_nextOn 47 = .ok (.iload_n 2, 1) := by decide +kernel
theorem dX8_nextOn_48 : decode cX8_nextOn 48 = .ok (.iadd, 1) := by decide +kernel
theorem dX8_nextOn_49 : decode cX8_nextOn 49 = .ok (.iaload, 1) := by decide +kernel
theorem dX8_nextOn_50 : decode cX8_nextOn 50 = .ok (.iadd, 1) := by decide +kernel
theorem dX8_nextOn_51 : decode cX8_nextOn 51 = .ok (.aload_n 0, 1) := by decide +kernel
theorem dX8_nextOn_52 : decode cX8_nextOn 52 = .ok (.getfield 37, 3) := by decide +kernel
theorem dX8_nextOn_55 : decode cX8_nextOn 55 = .ok (.bipush 12, 2) := by decide +kernel
theorem dX8_nextOn_57 : decode cX8_nextOn 57 = .ok (.iload_n 1, 1) := by decide +kernel
theorem dX8_nextOn_58 : decode cX8_nextOn 58 = .ok (.imul, 1) := by decide +kernel
theorem dX8_nextOn_59 : decode cX8_nextOn 59 = .ok (.iload_n 2, 1) := by decide +kernel
theorem dX8_nextOn_60 : decode cX8_nextOn 60 = .ok (.iadd, 1) := by decide +kernel
theorem dX8_nextOn_61 : decode cX8_nextOn 61 = .ok (.iaload, 1) := by decide +kernel
theorem dX8_nextOn_62 : decode cX8_nextOn 62 = .ok (.if_icmp .eq 9, 3) := by decide +kernel
theorem dX8_nextOn_65 : decode cX8_nextOn 65 = .ok (.iinc 3 1, 3) := by decide +kernel
theorem dX8_nextOn_68 : decode cX8_nextOn 68 = .ok (.goto (-66), 3) := by decide +kernel
theorem dX8_nextOn_71 : decode cX8_nextOn 71 = .ok (.iload_n 3, 1) := by decide +kernel
theorem dX8_nextOn_72 : decode cX8_nextOn 72 = .ok (.ireturn, 1) := by decide +kernel
theorem dX8_layWays_0 : decode cX8_layWays 0 = .ok (.aload_n 0, 1) := by decide +kernel
theorem dX8_layWays_1 : decode cX8_layWays 1 = .ok (.invokevirtual 161, 3) := by decide +kernel
theorem dX8_layWays_4 : decode cX8_layWays 4 = .ok (.iconst 0, 1) := by decide +kernel
theorem dX8_layWays_5 : decode cX8_layWays 5 = .ok (.istore_n 1, 1) := by decide +kernel
theorem dX8_layWays_6 : decode cX8_layWays 6 = .ok (.iload_n 1, 1) := by decide +kernel
theorem dX8_layWays_7 : decode cX8_layWays 7 = .ok (.aload_n 0, 1) := by decide +kernel
theorem dX8_layWays_8 : decode cX8_layWays 8 = .ok (.getfield 120, 3) := by decide +kernel
theorem dX8_layWays_11 : decode cX8_layWays 11 = .ok (.if_icmp .ge 16, 3) := by decide +kernel
theorem dX8_layWays_14 : decode cX8_layWays 14 = .ok (.aload_n 0, 1) := by decide +kernel
theorem dX8_layWays_15 : decode cX8_layWays 15 = .ok (.getfield 40, 3) := by decide +kernel
theorem dX8_layWays_18 : decode cX8_layWays 18 = .ok (.iload_n 1, 1) := by decide +kernel
theorem dX8_layWays_19 : decode cX8_layWays 19 = .ok (.iconst 0, 1) := by decide +kernel
theorem dX8_layWays_20 : decode cX8_layWays 20 = .ok (.iastore, 1) := by decide +kernel
theorem dX8_layWays_21 : decode cX8_layWays 21 = .ok (.iinc 1 1, 3) := by decide +kernel
theorem dX8_layWays_24 : decode cX8_layWays 24 = .ok (.goto (-18), 3) := by decide +kernel
theorem dX8_layWays_27 : decode cX8_layWays 27 = .ok (.iconst 0, 1) := by decide +kernel
theorem dX8_layWays_28 : decode cX8_layWays 28 = .ok (.istore_n 1, 1) := by decide +kernel
theorem dX8_layWays_29 : decode cX8_layWays 29 = .ok (.iload_n 1, 1) := by decide +kernel
theorem dX8_layWays_30 : decode cX8_layWays 30 = .ok (.aload_n 0, 1) := by decide +kernel
theorem dX8_layWays_31 : decode cX8_layWays 31 = .ok (.getfield 120, 3) := by decide +kernel
theorem dX8_layWays_34 : decode cX8_layWays 34 = .ok (.if_icmp .ge 82, 3) := by decide +kernel
theorem dX8_layWays_37 : decode cX8_layWays 37 = .ok (.iconst 0, 1) := by decide +kernel
theorem dX8_layWays_38 : decode cX8_layWays 38 = .ok (.istore_n 2, 1) := by decide +kernel
theorem dX8_layWays_39 : decode cX8_layWays 39 = .ok (.iload_n 2, 1) := by decide +kernel
theorem dX8_layWays_40 : decode cX8_layWays 40 = .ok (.aload_n 0, 1) := by decide +kernel
theorem dX8_layWays_41 : decode cX8_layWays 41 = .ok (.getfield 120, 3) := by decide +kernel
theorem dX8_layWays_44 : decode cX8_layWays 44 = .ok (.if_icmp .ge 66, 3) := by decide +kernel
theorem dX8_layWays_47 : decode cX8_layWays 47 = .ok (.iload_n 1, 1) := by decide +kernel
theorem dX8_layWays_48 : decode cX8_layWays 48 = .ok (.iload_n 2, 1) := by decide +kernel
theorem dX8_layWays_49 : decode cX8_layWays 49 = .ok (.if_icmp .eq 19, 3) := by decide +kernel
theorem dX8_layWays_52 : decode cX8_layWays 52 = .ok (.aload_n 0, 1) := by decide +kernel
theorem dX8_layWays_53 : decode cX8_layWays 53 = .ok (.getfield 37, 3) := by decide +kernel
theorem dX8_layWays_56 : decode cX8_layWays 56 = .ok (.bipush 12, 2) := by decide +kernel
theorem dX8_layWays_58 : decode cX8_layWays 58 = .ok (.iload_n 1, 1) := by decide +kernel
theorem dX8_layWays_59 : decode cX8_layWays 59 = .ok (.imul, 1) := by decide +kernel
theorem dX8_layWays_60 : decode cX8_layWays 60 = .ok (.iload_n 2, 1) := by decide +kernel
theorem dX8_layWays_61 : decode cX8_layWays 61 = .ok (.iadd, 1) := by decide +kernel
theorem dX8_layWays_62 : decode cX8_layWays 62 = .ok (.iaload, 1) := by decide +kernel
theorem dX8_layWays_63 : decode cX8_layWays 63 = .ok (.ldc 136, 2) := by decide +kernel
theorem dX8_layWays_65 : decode cX8_layWays 65 = .ok (.if_icmp .lt 7, 3) := by decide +kernel
theorem dX8_layWays_68 : decode cX8_layWays 68 = .ok (.iload_n 2, 1) := by decide +kernel
theorem dX8_layWays_69 : decode cX8_layWays 69 = .ok (.goto 9, 3) := by decide +kernel
theorem dX8_layWays_72 : decode cX8_layWays 72 = .ok (.aload_n 0, 1) := by decide +kernel
theorem dX8_layWays_73 : decode cX8_layWays 73 = .ok (.iload_n 1, 1) := by decide +kernel
theorem dX8_layWays_74 : decode cX8_layWays 74 = .ok (.iload_n 2, 1) := by decide +kernel
theorem dX8_layWays_75 : decode cX8_layWays 75 = .ok (.invokevirtual 164, 3) := by decide +kernel
theorem dX8_layWays_78 : decode cX8_layWays 78 = .ok (.istore_n 3, 1) := by decide +kernel
theorem dX8_layWays_79 : decode cX8_layWays 79 = .ok (.iload_n 3, 1) := by decide +kernel
theorem dX8_layWays_80 : decode cX8_layWays 80 = .ok (.iload_n 2, 1) := by decide +kernel
theorem dX8_layWays_81 : decode cX8_layWays 81 = .ok (.if_icmp .eq 23, 3) := by decide +kernel
theorem dX8_layWays_84 : decode cX8_layWays 84 = .ok (.aload_n 0, 1) := by decide +kernel
theorem dX8_layWays_85 : decode cX8_layWays 85 = .ok (.getfield 40, 3) := by decide +kernel
theorem dX8_layWays_88 : decode cX8_layWays 88 = .ok (.iload_n 3, 1) := by decide +kernel
theorem dX8_layWays_89 : decode cX8_layWays 89 = .ok (.dup2, 1) := by decide +kernel
theorem dX8_layWays_90 : decode cX8_layWays 90 = .ok (.iaload, 1) := by decide +kernel
theorem dX8_layWays_91 : decode cX8_layWays 91 = .ok (.iconst 1, 1) := by decide +kernel
theorem dX8_layWays_92 : decode cX8_layWays 92 = .ok (.iadd, 1) := by decide +kernel
theorem dX8_layWays_93 : decode cX8_layWays 93 = .ok (.iastore, 1) := by decide +kernel
theorem dX8_layWays_94 : decode cX8_layWays 94 = .ok (.aload_n 0, 1) := by decide +kernel
theorem dX8_layWays_95 : decode cX8_layWays 95 = .ok (.iload_n 3, 1) := by decide +kernel
theorem dX8_layWays_96 : decode cX8_layWays 96 = .ok (.iload_n 2, 1) := by decide +kernel
theorem dX8_layWays_97 : decode cX8_layWays 97 = .ok (.invokevirtual 164, 3) := by decide +kernel
theorem dX8_layWays_100 : decode cX8_layWays 100 = .ok (.istore_n 3, 1) := by decide +kernel
theorem dX8_layWays_101 : decode cX8_layWays 101 = .ok (.goto (-22), 3) := by decide +kernel
theorem dX8_layWays_104 : decode cX8_layWays 104 = .ok (.iinc 2 1, 3) := by decide +kernel
theorem dX8_layWays_107 : decode cX8_layWays 107 = .ok (.goto (-68), 3) := by decide +kernel
theorem dX8_layWays_110 : decode cX8_layWays 110 = .ok (.iinc 1 1, 3) := by decide +kernel
theorem dX8_layWays_113 : decode cX8_layWays 113 = .ok (.goto (-84), 3) := by decide +kernel
theorem dX8_layWays_116 : decode cX8_layWays 116 = .ok (.return_, 1) := by decide +kernel
theorem dX8_isRoad_0 : decode cX8_isRoad 0 = .ok (.iload_n 1, 1) := by decide +kernel
theorem dX8_isRoad_1 : decode cX8_isRoad 1 = .ok (.iconst 0, 1) := by decide +kernel
theorem dX8_isRoad_2 : decode cX8_isRoad 2 = .ok (.aload_n 0, 1) := by decide +kernel
theorem dX8_isRoad_3 : decode cX8_isRoad 3 = .ok (.getfield 120, 3) := by decide +kernel
theorem dX8_isRoad_6 : decode cX8_isRoad 6 = .ok (.iconst 1, 1) := by decide +kernel
theorem dX8_isRoad_7 : decode cX8_isRoad 7 = .ok (.isub, 1) := by decide +kernel
theorem dX8_isRoad_8 : decode cX8_isRoad 8 = .ok (.invokestatic 89, 3) := by decide +kernel
theorem dX8_isRoad_11 : decode cX8_isRoad 11 = .ok (.ireturn, 1) := by decide +kernel
theorem dX8_areRoads_0 : decode cX8_areRoads 0 = .ok (.aload_n 0, 1) := by decide +kernel
theorem dX8_areRoads_1 : decode cX8_areRoads 1 = .ok (.iload_n 1, 1) := by decide +kernel
theorem dX8_areRoads_2 : decode cX8_areRoads 2 = .ok (.invokevirtual 168, 3) := by decide +kernel
theorem dX8_areRoads_5 : decode cX8_areRoads 5 = .ok (.ifCond .eq 15, 3) := by decide +kernel
theorem dX8_areRoads_8 : decode cX8_areRoads 8 = .ok (.aload_n 0, 1) := by decide +kernel
theorem dX8_areRoads_9 : decode cX8_areRoads 9 = .ok (.iload_n 2, 1) := by decide +kernel
theorem dX8_areRoads_10 : decode cX8_areRoads 10 = .ok (.invokevirtual 168, 3) := by decide +kernel
theorem dX8_areRoads_13 : decode cX8_areRoads 13 = .ok (.ifCond .eq 7, 3) := by decide +kernel
theorem dX8_areRoads_16 : decode cX8_areRoads 16 = .ok (.iconst 1, 1) := by decide +kernel
theorem dX8_areRoads_17 : decode cX8_areRoads 17 = .ok (.goto 4, 3) := by decide +kernel
theorem dX8_areRoads_20 : decode cX8_areRoads 20 = .ok (.iconst 0, 1) := by decide +kernel
theorem dX8_areRoads_21 : decode cX8_areRoads 21 = .ok (.ireturn, 1) := by decide +kernel
theorem dX8_isTurn_0 : decode cX8_isTurn 0 = .ok (.aload_n 0, 1) := by decide +kernel
theorem dX8_isTurn_1 : decode cX8_isTurn 1 = .ok (.getfield 16, 3) := by decide +kernel
theorem dX8_isTurn_4 : decode cX8_isTurn 4 = .ok (.iload_n 1, 1) := by decide +kernel
theorem dX8_isTurn_5 : decode cX8_isTurn 5 = .ok (.iaload, 1) := by decide +kernel
theorem dX8_isTurn_6 : decode cX8_isTurn 6 = .ok (.aload_n 0, 1) := by decide +kernel
theorem dX8_isTurn_7 : decode cX8_isTurn 7 = .ok (.getfield 13, 3) := by decide +kernel
theorem dX8_isTurn_10 : decode cX8_isTurn 10 = .ok (.iload_n 2, 1) := by decide +kernel
theorem dX8_isTurn_11 : decode cX8_isTurn 11 = .ok (.iaload, 1) := by decide +kernel
theorem dX8_isTurn_12 : decode cX8_isTurn 12 = .ok (.if_icmp .ne 7, 3) := by decide +kernel
theorem dX8_isTurn_15 : decode cX8_isTurn 15 = .ok (.iconst 1, 1) := by decide +kernel
theorem dX8_isTurn_16 : decode cX8_isTurn 16 = .ok (.goto 4, 3) := by decide +kernel
theorem dX8_isTurn_19 : decode cX8_isTurn 19 = .ok (.iconst 0, 1) := by decide +kernel
theorem dX8_isTurn_20 : decode cX8_isTurn 20 = .ok (.ireturn, 1) := by decide +kernel
theorem dX8_alter_0 : decode cX8_alter 0 = .ok (.aload_n 0, 1) := by decide +kernel
theorem dX8_alter_1 : decode cX8_alter 1 = .ok (.dup, 1) := by decide +kernel
theorem dX8_alter_2 : decode cX8_alter 2 = .ok (.getfield 171, 3) := by decide +kernel
theorem dX8_alter_5 : decode cX8_alter 5 = .ok (.iconst 1, 1) := by decide +kernel
theorem dX8_alter_6 : decode cX8_alter 6 = .ok (.iadd, 1) := by decide +kernel
theorem dX8_alter_7 : decode cX8_alter 7 = .ok (.putfield 171, 3) := by decide +kernel
theorem dX8_alter_10 : decode cX8_alter 10 = .ok (.aload_n 0, 1) := by decide +kernel
theorem dX8_alter_11 : decode cX8_alter 11 = .ok (.invokevirtual 174, 3) := by decide +kernel
theorem dX8_alter_14 : decode cX8_alter 14 = .ok (.aload_n 0, 1) := by decide +kernel
theorem dX8_alter_15 : decode cX8_alter 15 = .ok (.invokevirtual 126, 3) := by decide +kernel
theorem dX8_alter_18 : decode cX8_alter 18 = .ok (.return_, 1) := by decide +kernel
theorem dX8_stretch_0 : decode cX8_stretch 0 = .ok (.aload_n 0, 1) := by decide +kernel
theorem dX8_stretch_1 : decode cX8_stretch 1 = .ok (.iload_n 1, 1) := by decide +kernel
theorem dX8_stretch_2 : decode cX8_stretch 2 = .ok (.invokevirtual 168, 3) := by decide +kernel
theorem dX8_stretch_5 : decode cX8_stretch 5 = .ok (.ifCond .ne 6, 3) := by decide +kernel
theorem dX8_stretch_8 : decode cX8_stretch 8 = .ok (.bipush (-101), 2) := by decide +kernel
theorem dX8_stretch_10 : decode cX8_stretch 10 = .ok (.ireturn, 1) := by decide +kernel
theorem dX8_stretch_11 : decode cX8_stretch 11 = .ok (.iload_n 2, 1) := by decide +kernel
theorem dX8_stretch_12 : decode cX8_stretch 12 = .ok (.iconst 1, 1) := by decide +kernel
theorem dX8_stretch_13 : decode cX8_stretch 13 = .ok (.bipush 99, 2) := by decide +kernel
theorem dX8_stretch_15 : decode cX8_stretch 15 = .ok (.invokestatic 89, 3) := by decide +kernel
theorem dX8_stretch_18 : decode cX8_stretch 18 = .ok (.ifCond .ne 6, 3) := by decide +kernel
theorem dX8_stretch_21 : decode cX8_stretch 21 = .ok (.bipush (-102), 2) := by decide +kernel
theorem dX8_stretch_23 : decode cX8_stretch 23 = .ok (.ireturn, 1) := by decide +kernel
theorem dX8_stretch_24 : decode cX8_stretch 24 = .ok (.aload_n 0, 1) := by decide +kernel
theorem dX8_stretch_25 : decode cX8_stretch 25 = .ok (.getfield 19, 3) := by decide +kernel
theorem dX8_stretch_28 : decode cX8_stretch 28 = .ok (.iload_n 1, 1) := by decide +kernel
theorem dX8_stretch_29 : decode cX8_stretch 29 = .ok (.iaload, 1) := by decide +kernel
theorem dX8_stretch_30 : decode cX8_stretch 30 = .ok (.istore_n 3, 1) := by decide +kernel
theorem dX8_stretch_31 : decode cX8_stretch 31 = .ok (.aload_n 0, 1) := by decide +kernel
theorem dX8_stretch_32 : decode cX8_stretch 32 = .ok (.getfield 19, 3) := by decide +kernel
theorem dX8_stretch_35 : decode cX8_stretch 35 = .ok (.iload_n 1, 1) := by decide +kernel
theorem dX8_stretch_36 : decode cX8_stretch 36 = .ok (.iload_n 2, 1) := by decide +kernel
theorem dX8_stretch_37 : decode cX8_stretch 37 = .ok (.iastore, 1) := by decide +kernel
theorem dX8_stretch_38 : decode cX8_stretch 38 = .ok (.aload_n 0, 1) := by decide +kernel
theorem dX8_stretch_39 : decode cX8_stretch 39 = .ok (.invokevirtual 177, 3) := by decide +kernel
theorem dX8_stretch_42 : decode cX8_stretch 42 = .ok (.iload_n 3, 1) := by decide +kernel
theorem dX8_stretch_43 : decode cX8_stretch 43 = .ok (.ireturn, 1) := by decide +kernel
theorem dX8_turn_0 : decode cX8_turn 0 = .ok (.aload_n 0, 1) := by decide +kernel
theorem dX8_turn_1 : decode cX8_turn 1 = .ok (.iload_n 1, 1) := by decide +kernel
theorem dX8_turn_2 : decode cX8_turn 2 = .ok (.iload_n 2, 1) := by decide +kernel
theorem dX8_turn_3 : decode cX8_turn 3 = .ok (.invokevirtual 180, 3) := by decide +kernel
theorem dX8_turn_6 : decode cX8_turn 6 = .ok (.ifCond .ne 6, 3) := by decide +kernel
theorem dX8_turn_9 : decode cX8_turn 9 = .ok (.bipush (-101), 2) := by decide +kernel
theorem dX8_turn_11 : decode cX8_turn 11 = .ok (.ireturn, 1) := by decide +kernel
theorem dX8_turn_12 : decode cX8_turn 12 = .ok (.aload_n 0, 1) := by decide +kernel
theorem dX8_turn_13 : decode cX8_turn 13 = .ok (.iload_n 1, 1) := by decide +kernel
theorem dX8_turn_14 : decode cX8_turn 14 = .ok (.iload_n 2, 1) := by decide +kernel
theorem dX8_turn_15 : decode cX8_turn 15 = .ok (.invokevirtual 183, 3) := by decide +kernel
theorem dX8_turn_18 : decode cX8_turn 18 = .ok (.ifCond .ne 6, 3) := by decide +kernel
theorem dX8_turn_21 : decode cX8_turn 21 = .ok (.bipush (-103), 2) := by decide +kernel
theorem dX8_turn_23 : decode cX8_turn 23 = .ok (.ireturn, 1) := by decide +kernel
theorem dX8_turn_24 : decode cX8_turn 24 = .ok (.iload_n 3, 1) := by decide +kernel
theorem dX8_turn_25 : decode cX8_turn 25 = .ok (.bipush (-5), 2) := by decide +kernel
theorem dX8_turn_27 : decode cX8_turn 27 = .ok (.if_icmp .eq 16, 3) := by decide +kernel
theorem dX8_turn_30 : decode cX8_turn 30 = .ok (.iload_n 3, 1) := by decide +kernel
theorem dX8_turn_31 : decode cX8_turn 31 = .ok (.iconst 0, 1) := by decide +kernel
theorem dX8_turn_32 : decode cX8_turn 32 = .ok (.bipush 50, 2) := by decide +kernel
theorem dX8_turn_34 : decode cX8_turn 34 = .ok (.invokestatic 89, 3) := by decide +kernel
theorem dX8_turn_37 : decode cX8_turn 37 = .ok (.ifCond .ne 6, 3) := by decide +kernel
theorem dX8_turn_40 : decode cX8_turn 40 = .ok (.bipush (-102), 2) := by decide +kernel
theorem dX8_turn_42 : decode cX8_turn 42 = .ok (.ireturn, 1) := by decide +kernel
theorem dX8_turn_43 : decode cX8_turn 43 = .ok (.aload_n 0, 1) := by decide +kernel
theorem dX8_turn_44 : decode cX8_turn 44 = .ok (.getfield 22, 3) := by decide +kernel
theorem dX8_turn_47 : decode cX8_turn 47 = .ok (.bipush 12, 2) := by decide +kernel
theorem dX8_turn_49 : decode cX8_turn 49 = .ok (.iload_n 1, 1) := by decide +kernel
theorem dX8_turn_50 : decode cX8_turn 50 = .ok (.imul, 1) := by decide +kernel
theorem dX8_turn_51 : decode cX8_turn 51 = .ok (.iload_n 2, 1) := by decide +kernel
theorem dX8_turn_52 : decode cX8_turn 52 = .ok (.iadd, 1) := by decide +kernel
theorem dX8_turn_53 : decode cX8_turn 53 = .ok (.iaload, 1) := by decide +kernel
theorem dX8_turn_54 : decode cX8_turn 54 = .ok (.istore 4, 2) := by decide +kernel
theorem dX8_turn_56 : decode cX8_turn 56 = .ok (.aload_n 0, 1) := by decide +kernel
theorem dX8_turn_57 : decode cX8_turn 57 = .ok (.getfield 22, 3) := by decide +kernel
theorem dX8_turn_60 : decode cX8_turn 60 = .ok (.bipush 12, 2) := by decide +kernel
theorem dX8_turn_62 : decode cX8_turn 62 = .ok (.iload_n 1, 1) := by decide +kernel
theorem dX8_turn_63 : decode cX8_turn 63 = .ok (.imul, 1) := by decide +kernel
theorem dX8_turn_64 : decode cX8_turn 64 = .ok (.iload_n 2, 1) := by decide +kernel
theorem dX8_turn_65 : decode cX8_turn 65 = .ok (.iadd, 1) := by decide +kernel
theorem dX8_turn_66 : decode cX8_turn 66 = .ok (.iload_n 3, 1) := by decide +kernel
theorem dX8_turn_67 : decode cX8_turn 67 = .ok (.iastore, 1) := by decide +kernel
theorem dX8_turn_68 : decode cX8_turn 68 = .ok (.aload_n 0, 1) := by decide +kernel
theorem dX8_turn_69 : decode cX8_turn 69 = .ok (.invokevirtual 177, 3) := by decide +kernel
theorem dX8_turn_72 : decode cX8_turn 72 = .ok (.iload 4, 2) := by decide +kernel
theorem dX8_turn_74 : decode cX8_turn 74 = .ok (.ireturn, 1) := by decide +kernel
theorem dX8_rank_0 : decode cX8_rank 0 = .ok (.iconst 0, 1) := by decide +kernel
theorem dX8_rank_1 : decode cX8_rank 1 = .ok (.istore_n 1, 1) := by decide +kernel
theorem dX8_rank_2 : decode cX8_rank 2 = .ok (.iload_n 1, 1) := by decide +kernel
theorem dX8_rank_3 : decode cX8_rank 3 = .ok (.aload_n 0, 1) := by decide +kernel
theorem dX8_rank_4 : decode cX8_rank 4 = .ok (.getfield 120, 3) := by decide +kernel
theorem dX8_rank_7 : decode cX8_rank 7 = .ok (.if_icmp .ge 21, 3) := by decide +kernel
theorem dX8_rank_10 : decode cX8_rank 10 = .ok (.aload_n 0, 1) := by decide +kernel
theorem dX8_rank_11 : decode cX8_rank 11 = .ok (.getfield 65, 3) := by decide +kernel
theorem dX8_rank_14 : decode cX8_rank 14 = .ok (.iload_n 1, 1) := by decide +kernel
theorem dX8_rank_15 : decode cX8_rank 15 = .ok (.aload_n 0, 1) := by decide +kernel
theorem dX8_rank_16 : decode cX8_rank 16 = .ok (.getfield 25, 3) := by decide +kernel
theorem dX8_rank_19 : decode cX8_rank 19 = .ok (.iload_n 1, 1) := by decide +kernel
theorem dX8_rank_20 : decode cX8_rank 20 = .ok (.iaload, 1) := by decide +kernel
theorem dX8_rank_21 : decode cX8_rank 21 = .ok (.iastore, 1) := by decide +kernel
theorem dX8_rank_22 : decode cX8_rank 22 = .ok (.iinc 1 1, 3) := by decide +kernel
theorem dX8_rank_25 : decode cX8_rank 25 = .ok (.goto (-23), 3) := by decide +kernel
theorem dX8_rank_28 : decode cX8_rank 28 = .ok (.aload_n 0, 1) := by decide +kernel
theorem dX8_rank_29 : decode cX8_rank 29 = .ok (.invokevirtual 123, 3) := by decide +kernel
theorem dX8_rank_32 : decode cX8_rank 32 = .ok (.aload_n 0, 1) := by decide +kernel
theorem dX8_rank_33 : decode cX8_rank 33 = .ok (.dup, 1) := by decide +kernel
theorem dX8_rank_34 : decode cX8_rank 34 = .ok (.getfield 186, 3) := by decide +kernel
theorem dX8_rank_37 : decode cX8_rank 37 = .ok (.iconst 1, 1) := by decide +kernel
theorem dX8_rank_38 : decode cX8_rank 38 = .ok (.iadd, 1) := by decide +kernel
theorem dX8_rank_39 : decode cX8_rank 39 = .ok (.putfield 186, 3) := by decide +kernel
theorem dX8_rank_42 : decode cX8_rank 42 = .ok (.iconst 0, 1) := by decide +kernel
theorem dX8_rank_43 : decode cX8_rank 43 = .ok (.istore_n 1, 1) := by decide +kernel
theorem dX8_rank_44 : decode cX8_rank 44 = .ok (.iconst 0, 1) := by decide +kernel
theorem dX8_rank_45 : decode cX8_rank 45 = .ok (.istore_n 2, 1) := by decide +kernel
theorem dX8_rank_46 : decode cX8_rank 46 = .ok (.iload_n 2, 1) := by decide +kernel
theorem dX8_rank_47 : decode cX8_rank 47 = .ok (.aload_n 0, 1) := by decide +kernel
theorem dX8_rank_48 : decode cX8_rank 48 = .ok (.getfield 120, 3) := by decide +kernel
theorem dX8_rank_51 : decode cX8_rank 51 = .ok (.if_icmp .ge 32, 3) := by decide +kernel
theorem dX8_rank_54 : decode cX8_rank 54 = .ok (.iload_n 1, 1) := by decide +kernel
theorem dX8_rank_55 : decode cX8_rank 55 = .ok (.aload_n 0, 1) := by decide +kernel
theorem dX8_rank_56 : decode cX8_rank 56 = .ok (.getfield 65, 3) := by decide +kernel
theorem dX8_rank_59 : decode cX8_rank 59 = .ok (.iload_n 2, 1) := by decide +kernel
theorem dX8_rank_60 : decode cX8_rank 60 = .ok (.iaload, 1) := by decide +kernel
theorem dX8_rank_61 : decode cX8_rank 61 = .ok (.aload_n 0, 1) := by decide +kernel
theorem dX8_rank_62 : decode cX8_rank 62 = .ok (.getfield 25, 3) := by decide +kernel
theorem dX8_rank_65 : decode cX8_rank 65 = .ok (.iload_n 2, 1) := by decide +kernel
theorem dX8_rank_66 : decode cX8_rank 66 = .ok (.iaload, 1) := by decide +kernel
theorem dX8_rank_67 : decode cX8_rank 67 = .ok (.if_icmp .ne 7, 3) := by decide +kernel
theorem dX8_rank_70 : decode cX8_rank 70 = .ok (.iconst 0, 1) := by decide +kernel
theorem dX8_rank_71 : decode cX8_rank 71 = .ok (.goto 4, 3) := by decide +kernel
theorem dX8_rank_74 : decode cX8_rank 74 = .ok (.iconst 1, 1) := by decide +kernel
theorem dX8_rank_75 : decode cX8_rank 75 = .ok (.iadd, 1) := by decide +kernel
theorem dX8_rank_76 : decode cX8_rank 76 = .ok (.istore_n 1, 1) := by decide +kernel
theorem dX8_rank_77 : decode cX8_rank 77 = .ok (.iinc 2 1, 3) := by decide +kernel
theorem dX8_rank_80 : decode cX8_rank 80 = .ok (.goto (-34), 3) := by decide +kernel
theorem dX8_rank_83 : decode cX8_rank 83 = .ok (.iload_n 1, 1) := by decide +kernel
theorem dX8_rank_84 : decode cX8_rank 84 = .ok (.ireturn, 1) := by decide +kernel
theorem dX8_middleOf_0 : decode cX8_middleOf 0 = .ok (.iconst 0, 1) := by decide +kernel
theorem dX8_middleOf_1 : decode cX8_middleOf 1 = .ok (.istore_n 2, 1) := by decide +kernel
theorem dX8_middleOf_2 : decode cX8_middleOf 2 = .ok (.iconst 0, 1) := by decide +kernel
theorem dX8_middleOf_3 : decode cX8_middleOf 3 = .ok (.istore_n 3, 1) := by decide +kernel
theorem dX8_middleOf_4 : decode cX8_middleOf 4 = .ok (.iload_n 3, 1) := by decide +kernel
theorem dX8_middleOf_5 : decode cX8_middleOf 5 = .ok (.aload_n 0, 1) := by decide +kernel
theorem dX8_middleOf_6 : decode cX8_middleOf 6 = .ok (.getfield 120, 3) := by decide +kernel
theorem dX8_middleOf_9 : decode cX8_middleOf 9 = .ok (.aload_n 0, 1) := by decide +kernel
theorem dX8_middleOf_10 : decode cX8_middleOf 10 = .ok (.getfield 120, 3) := by decide +kernel
theorem dX8_middleOf_13 : decode cX8_middleOf 13 = .ok (.imul, 1) := by decide +kernel
theorem dX8_middleOf_14 : decode cX8_middleOf 14 = .ok (.if_icmp .ge 58, 3) := by decide +kernel
theorem dX8_middleOf_17 : decode cX8_middleOf 17 = .ok (.bipush 12, 2) := by decide +kernel
theorem dX8_middleOf_19 : decode cX8_middleOf 19 = .ok (.iload_n 3, 1) := by decide +kernel
theorem dX8_middleOf_20 : decode cX8_middleOf 20 = .ok (.aload_n 0, 1) := by decide +kernel
theorem dX8_middleOf_21 : decode cX8_middleOf 21 = .ok (.getfield 120, 3) := by decide +kernel
theorem dX8_middleOf_24 : decode cX8_middleOf 24 = .ok (.idiv, 1) := by decide +kernel
theorem dX8_middleOf_25 : decode cX8_middleOf 25 = .ok (.imul, 1) := by decide +kernel
theorem dX8_middleOf_26 : decode cX8_middleOf 26 = .ok (.iload_n 3, 1) := by decide +kernel
theorem dX8_middleOf_27 : decode cX8_middleOf 27 = .ok (.aload_n 0, 1) := by decide +kernel
theorem dX8_middleOf_28 : decode cX8_middleOf 28 = .ok (.getfield 120, 3) := by decide +kernel
theorem dX8_middleOf_31 : decode cX8_middleOf 31 = .ok (.irem, 1) := by decide +kernel
theorem dX8_middleOf_32 : decode cX8_middleOf 32 = .ok (.iadd, 1) := by decide +kernel
theorem dX8_middleOf_33 : decode cX8_middleOf 33 = .ok (.istore 4, 2) := by decide +kernel
theorem dX8_middleOf_35 : decode cX8_middleOf 35 = .ok (.iload_n 2, 1) := by decide +kernel
theorem dX8_middleOf_36 : decode cX8_middleOf 36 = .ok (.aload_n 0, 1) := by decide +kernel
theorem dX8_middleOf_37 : decode cX8_middleOf 37 = .ok (.getfield 31, 3) := by decide +kernel
theorem dX8_middleOf_40 : decode cX8_middleOf 40 = .ok (.iload 4, 2) := by decide +kernel
theorem dX8_middleOf_42 : decode cX8_middleOf 42 = .ok (.iaload, 1) := by decide +kernel
theorem dX8_middleOf_43 : decode cX8_middleOf 43 = .ok (.ldc 136, 2) := by decide +kernel
theorem dX8_middleOf_45 : decode cX8_middleOf 45 = .ok (.if_icmp .ge 18, 3) := by decide +kernel
theorem dX8_middleOf_48 : decode cX8_middleOf 48 = .ok (.aload_n 0, 1) := by decide +kernel
theorem dX8_middleOf_49 : decode cX8_middleOf 49 = .ok (.getfield 34, 3) := by decide +kernel
theorem dX8_middleOf_52 : decode cX8_middleOf 52 = .ok (.iload 4, 2) := by decide +kernel
theorem dX8_middleOf_54 : decode cX8_middleOf 54 = .ok (.iaload, 1) := by decide +kernel
theorem dX8_middleOf_55 : decode cX8_middleOf 55 = .ok (.iload_n 1, 1) := by decide +kernel
theorem dX8_middleOf_56 : decode cX8_middleOf 56 = .ok (.if_icmp .ne 7, 3) := by decide +kernel
theorem dX8_middleOf_59 : decode cX8_middleOf 59 = .ok (.iconst 1, 1) := by decide +kernel
theorem dX8_middleOf_60 : decode cX8_middleOf 60 = .ok (.goto 4, 3) := by decide +kernel
theorem dX8_middleOf_63 : decode cX8_middleOf 63 = .ok (.iconst 0, 1) := by decide +kernel
theorem dX8_middleOf_64 : decode cX8_middleOf 64 = .ok (.iadd, 1) := by decide +kernel
theorem dX8_middleOf_65 : decode cX8_middleOf 65 = .ok (.istore_n 2, 1) := by decide +kernel
theorem dX8_middleOf_66 : decode cX8_middleOf 66 = .ok (.iinc 3 1, 3) := by decide +kernel
theorem dX8_middleOf_69 : decode cX8_middleOf 69 = .ok (.goto (-65), 3) := by decide +kernel
theorem dX8_middleOf_72 : decode cX8_middleOf 72 = .ok (.iload_n 2, 1) := by decide +kernel
theorem dX8_middleOf_73 : decode cX8_middleOf 73 = .ok (.ireturn, 1) := by decide +kernel
theorem dX8_roadNow_0 : decode cX8_roadNow 0 = .ok (.iload_n 2, 1) := by decide +kernel
theorem dX8_roadNow_1 : decode cX8_roadNow 1 = .ok (.tableswitch 69 0 4 #[35, 42, 49, 56, 63], 35) := by decide +kernel
theorem dX8_roadNow_36 : decode cX8_roadNow 36 = .ok (.aload_n 0, 1) := by decide +kernel
theorem dX8_roadNow_37 : decode cX8_roadNow 37 = .ok (.getfield 13, 3) := by decide +kernel
theorem dX8_roadNow_40 : decode cX8_roadNow 40 = .ok (.iload_n 1, 1) := by decide +kernel
theorem dX8_roadNow_41 : decode cX8_roadNow 41 = .ok (.iaload, 1) := by decide +kernel
theorem dX8_roadNow_42 : decode cX8_roadNow 42 = .ok (.ireturn, 1) := by decide +kernel
theorem dX8_roadNow_43 : decode cX8_roadNow 43 = .ok (.aload_n 0, 1) := by decide +kernel
theorem dX8_roadNow_44 : decode cX8_roadNow 44 = .ok (.getfield 16, 3) := by decide +kernel
theorem dX8_roadNow_47 : decode cX8_roadNow 47 = .ok (.iload_n 1, 1) := by decide +kernel
theorem dX8_roadNow_48 : decode cX8_roadNow 48 = .ok (.iaload, 1) := by decide +kernel
theorem dX8_roadNow_49 : decode cX8_roadNow 49 = .ok (.ireturn, 1) := by decide +kernel
theorem dX8_roadNow_50 : decode cX8_roadNow 50 = .ok (.aload_n 0, 1) := by decide +kernel
theorem dX8_roadNow_51 : decode cX8_roadNow 51 = .ok (.getfield 19, 3) := by decide +kernel
theorem dX8_roadNow_54 : decode cX8_roadNow 54 = .ok (.iload_n 1, 1) := by decide +kernel
theorem dX8_roadNow_55 : decode cX8_roadNow 55 = .ok (.iaload, 1) := by decide +kernel
theorem dX8_roadNow_56 : decode cX8_roadNow 56 = .ok (.ireturn, 1) := by decide +kernel
theorem dX8_roadNow_57 : decode cX8_roadNow 57 = .ok (.aload_n 0, 1) := by decide +kernel
theorem dX8_roadNow_58 : decode cX8_roadNow 58 = .ok (.getfield 25, 3) := by decide +kernel
theorem dX8_roadNow_61 : decode cX8_roadNow 61 = .ok (.iload_n 1, 1) := by decide +kernel
theorem dX8_roadNow_62 : decode cX8_roadNow 62 = .ok (.iaload, 1) := by decide +kernel
theorem dX8_roadNow_63 : decode cX8_roadNow 63 = .ok (.ireturn, 1) := by decide +kernel
theorem dX8_roadNow_64 : decode cX8_roadNow 64 = .ok (.aload_n 0, 1) := by decide +kernel
theorem dX8_roadNow_65 : decode cX8_roadNow 65 = .ok (.iload_n 1, 1) := by decide +kernel
theorem dX8_roadNow_66 : decode cX8_roadNow 66 = .ok (.invokevirtual 189, 3) := by decide +kernel
theorem dX8_roadNow_69 : decode cX8_roadNow 69 = .ok (.ireturn, 1) := by decide +kernel
theorem dX8_roadNow_70 : decode cX8_roadNow 70 = .ok (.aload_n 0, 1) := by decide +kernel
theorem dX8_roadNow_71 : decode cX8_roadNow 71 = .ok (.getfield 40, 3) := by decide +kernel
theorem dX8_roadNow_74 : decode cX8_roadNow 74 = .ok (.iload_n 1, 1) := by decide +kernel
theorem dX8_roadNow_75 : decode cX8_roadNow 75 = .ok (.iaload, 1) := by decide +kernel
theorem dX8_roadNow_76 : decode cX8_roadNow 76 = .ok (.ireturn, 1) := by decide +kernel
theorem dX8_road_0 : decode cX8_road 0 = .ok (.aload_n 0, 1) := by decide +kernel
theorem dX8_road_1 : decode cX8_road 1 = .ok (.iload_n 1, 1) := by decide +kernel
theorem dX8_road_2 : decode cX8_road 2 = .ok (.invokevirtual 168, 3) := by decide +kernel
theorem dX8_road_5 : decode cX8_road 5 = .ok (.ifCond .ne 6, 3) := by decide +kernel
theorem dX8_road_8 : decode cX8_road 8 = .ok (.bipush (-101), 2) := by decide +kernel
theorem dX8_road_10 : decode cX8_road 10 = .ok (.ireturn, 1) := by decide +kernel
theorem dX8_road_11 : decode cX8_road 11 = .ok (.iload_n 2, 1) := by decide +kernel
theorem dX8_road_12 : decode cX8_road 12 = .ok (.iconst 0, 1) := by decide +kernel
theorem dX8_road_13 : decode cX8_road 13 = .ok (.iconst 5, 1) := by decide +kernel
theorem dX8_road_14 : decode cX8_road 14 = .ok (.invokestatic 89, 3) := by decide +kernel
theorem dX8_road_17 : decode cX8_road 17 = .ok (.ifCond .eq 12, 3) := by decide +kernel
theorem dX8_road_20 : decode cX8_road 20 = .ok (.aload_n 0, 1) := by decide +kernel
theorem dX8_road_21 : decode cX8_road 21 = .ok (.iload_n 1, 1) := by decide +kernel
theorem dX8_road_22 : decode cX8_road 22 = .ok (.iload_n 2, 1) := by decide +kernel
theorem dX8_road_23 : decode cX8_road 23 = .ok (.invokevirtual 192, 3) := by decide +kernel
theorem dX8_road_26 : decode cX8_road 26 = .ok (.goto 5, 3) := by decide +kernel
theorem dX8_road_29 : decode cX8_road 29 = .ok (.bipush (-102), 2) := by decide +kernel
theorem dX8_road_31 : decode cX8_road 31 = .ok (.ireturn, 1) := by decide +kernel
theorem dX8_cost_0 : decode cX8_cost 0 = .ok (.aload_n 0, 1) := by decide +kernel
theorem dX8_cost_1 : decode cX8_cost 1 = .ok (.iload_n 1, 1) := by decide +kernel
theorem dX8_cost_2 : decode cX8_cost 2 = .ok (.iload_n 2, 1) := by decide +kernel
theorem dX8_cost_3 : decode cX8_cost 3 = .ok (.invokevirtual 180, 3) := by decide +kernel
theorem dX8_cost_6 : decode cX8_cost 6 = .ok (.ifCond .ne 6, 3) := by decide +kernel
theorem dX8_cost_9 : decode cX8_cost 9 = .ok (.bipush (-101), 2) := by decide +kernel
theorem dX8_cost_11 : decode cX8_cost 11 = .ok (.ireturn, 1) := by decide +kernel
theorem dX8_cost_12 : decode cX8_cost 12 = .ok (.aload_n 0, 1) := by decide +kernel
theorem dX8_cost_13 : decode cX8_cost 13 = .ok (.iload_n 1, 1) := by decide +kernel
theorem dX8_cost_14 : decode cX8_cost 14 = .ok (.iload_n 2, 1) := by decide +kernel
theorem dX8_cost_15 : decode cX8_cost 15 = .ok (.invokevirtual 183, 3) := by decide +kernel
theorem dX8_cost_18 : decode cX8_cost 18 = .ok (.ifCond .eq 17, 3) := by decide +kernel
theorem dX8_cost_21 : decode cX8_cost 21 = .ok (.aload_n 0, 1) := by decide +kernel
theorem dX8_cost_22 : decode cX8_cost 22 = .ok (.getfield 22, 3) := by decide +kernel
theorem dX8_cost_25 : decode cX8_cost 25 = .ok (.bipush 12, 2) := by decide +kernel
theorem dX8_cost_27 : decode cX8_cost 27 = .ok (.iload_n 1, 1) := by decide +kernel
theorem dX8_cost_28 : decode cX8_cost 28 = .ok (.imul, 1) := by decide +kernel
theorem dX8_cost_29 : decode cX8_cost 29 = .ok (.iload_n 2, 1) := by decide +kernel
theorem dX8_cost_30 : decode cX8_cost 30 = .ok (.iadd, 1) := by decide +kernel
theorem dX8_cost_31 : decode cX8_cost 31 = .ok (.iaload, 1) := by decide +kernel
theorem dX8_cost_32 : decode cX8_cost 32 = .ok (.goto 5, 3) := by decide +kernel
theorem dX8_cost_35 : decode cX8_cost 35 = .ok (.bipush (-103), 2) := by decide +kernel
theorem dX8_cost_37 : decode cX8_cost 37 = .ok (.ireturn, 1) := by decide +kernel
theorem dX8_order_0 : decode cX8_order 0 = .ok (.aload_n 0, 1) := by decide +kernel
theorem dX8_order_1 : decode cX8_order 1 = .ok (.iload_n 1, 1) := by decide +kernel
theorem dX8_order_2 : decode cX8_order 2 = .ok (.invokevirtual 168, 3) := by decide +kernel
theorem dX8_order_5 : decode cX8_order 5 = .ok (.ifCond .eq 12, 3) := by decide +kernel
theorem dX8_order_8 : decode cX8_order 8 = .ok (.aload_n 0, 1) := by decide +kernel
theorem dX8_order_9 : decode cX8_order 9 = .ok (.getfield 28, 3) := by decide +kernel
theorem dX8_order_12 : decode cX8_order 12 = .ok (.iload_n 1, 1) := by decide +kernel
theorem dX8_order_13 : decode cX8_order 13 = .ok (.iaload, 1) := by decide +kernel
theorem dX8_order_14 : decode cX8_order 14 = .ok (.goto 5, 3) := by decide +kernel
theorem dX8_order_17 : decode cX8_order 17 = .ok (.bipush (-101), 2) := by decide +kernel
theorem dX8_order_19 : decode cX8_order 19 = .ok (.ireturn, 1) := by decide +kernel
theorem dX8_leastNow_0 : decode cX8_leastNow 0 = .ok (.aload_n 0, 1) := by decide +kernel
theorem dX8_leastNow_1 : decode cX8_leastNow 1 = .ok (.getfield 37, 3) := by decide +kernel
theorem dX8_leastNow_4 : decode cX8_leastNow 4 = .ok (.bipush 12, 2) := by decide +kernel
theorem dX8_leastNow_6 : decode cX8_leastNow 6 = .ok (.iload_n 1, 1) := by decide +kernel
theorem dX8_leastNow_7 : decode cX8_leastNow 7 = .ok (.imul, 1) := by decide +kernel
theorem dX8_leastNow_8 : decode cX8_leastNow 8 = .ok (.iload_n 2, 1) := by decide +kernel
theorem dX8_leastNow_9 : decode cX8_leastNow 9 = .ok (.iadd, 1) := by decide +kernel
theorem dX8_leastNow_10 : decode cX8_leastNow 10 = .ok (.iaload, 1) := by decide +kernel
theorem dX8_leastNow_11 : decode cX8_leastNow 11 = .ok (.istore_n 3, 1) := by decide +kernel
theorem dX8_leastNow_12 : decode cX8_leastNow 12 = .ok (.iload_n 3, 1) := by decide +kernel
theorem dX8_leastNow_13 : decode cX8_leastNow 13 = .ok (.ldc 136, 2) := by decide +kernel
theorem dX8_leastNow_15 : decode cX8_leastNow 15 = .ok (.if_icmp .lt 7, 3) := by decide +kernel
theorem dX8_leastNow_18 : decode cX8_leastNow 18 = .ok (.iconst (-1), 1) := by decide +kernel
theorem dX8_leastNow_19 : decode cX8_leastNow 19 = .ok (.goto 7, 3) := by decide +kernel
theorem dX8_leastNow_22 : decode cX8_leastNow 22 = .ok (.iload_n 3, 1) := by decide +kernel
theorem dX8_leastNow_23 : decode cX8_leastNow 23 = .ok (.bipush 16, 2) := by decide +kernel
theorem dX8_leastNow_25 : decode cX8_leastNow 25 = .ok (.idiv, 1) := by decide +kernel
theorem dX8_leastNow_26 : decode cX8_leastNow 26 = .ok (.ireturn, 1) := by decide +kernel
theorem dX8_least_0 : decode cX8_least 0 = .ok (.aload_n 0, 1) := by decide +kernel
theorem dX8_least_1 : decode cX8_least 1 = .ok (.iload_n 1, 1) := by decide +kernel
theorem dX8_least_2 : decode cX8_least 2 = .ok (.iload_n 2, 1) := by decide +kernel
theorem dX8_least_3 : decode cX8_least 3 = .ok (.invokevirtual 180, 3) := by decide +kernel
theorem dX8_least_6 : decode cX8_least 6 = .ok (.ifCond .eq 12, 3) := by decide +kernel
theorem dX8_least_9 : decode cX8_least 9 = .ok (.aload_n 0, 1) := by decide +kernel
theorem dX8_least_10 : decode cX8_least 10 = .ok (.iload_n 1, 1) := by decide +kernel
theorem dX8_least_11 : decode cX8_least 11 = .ok (.iload_n 2, 1) := by decide +kernel
theorem dX8_least_12 : decode cX8_least 12 = .ok (.invokevirtual 195, 3) := by decide +kernel
theorem dX8_least_15 : decode cX8_least 15 = .ok (.goto 5, 3) := by decide +kernel
theorem dX8_least_18 : decode cX8_least 18 = .ok (.bipush (-101), 2) := by decide +kernel
theorem dX8_least_20 : decode cX8_least 20 = .ok (.ireturn, 1) := by decide +kernel
theorem dX8_way_0 : decode cX8_way 0 = .ok (.aload_n 0, 1) := by decide +kernel
theorem dX8_way_1 : decode cX8_way 1 = .ok (.iload_n 1, 1) := by decide +kernel
theorem dX8_way_2 : decode cX8_way 2 = .ok (.iload_n 2, 1) := by decide +kernel
theorem dX8_way_3 : decode cX8_way 3 = .ok (.invokevirtual 180, 3) := by decide +kernel
theorem dX8_way_6 : decode cX8_way 6 = .ok (.ifCond .ne 6, 3) := by decide +kernel
theorem dX8_way_9 : decode cX8_way 9 = .ok (.bipush (-101), 2) := by decide +kernel
theorem dX8_way_11 : decode cX8_way 11 = .ok (.ireturn, 1) := by decide +kernel
theorem dX8_way_12 : decode cX8_way 12 = .ok (.aload_n 0, 1) := by decide +kernel
theorem dX8_way_13 : decode cX8_way 13 = .ok (.getfield 37, 3) := by decide +kernel
theorem dX8_way_16 : decode cX8_way 16 = .ok (.bipush 12, 2) := by decide +kernel
theorem dX8_way_18 : decode cX8_way 18 = .ok (.iload_n 1, 1) := by decide +kernel
theorem dX8_way_19 : decode cX8_way 19 = .ok (.imul, 1) := by decide +kernel
theorem dX8_way_20 : decode cX8_way 20 = .ok (.iload_n 2, 1) := by decide +kernel
theorem dX8_way_21 : decode cX8_way 21 = .ok (.iadd, 1) := by decide +kernel
theorem dX8_way_22 : decode cX8_way 22 = .ok (.iaload, 1) := by decide +kernel
theorem dX8_way_23 : decode cX8_way 23 = .ok (.istore 4, 2) := by decide +kernel
theorem dX8_way_25 : decode cX8_way 25 = .ok (.iload 4, 2) := by decide +kernel
theorem dX8_way_27 : decode cX8_way 27 = .ok (.ldc 136, 2) := by decide +kernel
theorem dX8_way_29 : decode cX8_way 29 = .ok (.if_icmp .ge 16, 3) := by decide +kernel
theorem dX8_way_32 : decode cX8_way 32 = .ok (.iload_n 3, 1) := by decide +kernel
theorem dX8_way_33 : decode cX8_way 33 = .ok (.iconst 0, 1) := by decide +kernel
theorem dX8_way_34 : decode cX8_way 34 = .ok (.iload 4, 2) := by decide +kernel
theorem dX8_way_36 : decode cX8_way 36 = .ok (.bipush 16, 2) := by decide +kernel
theorem dX8_way_38 : decode cX8_way 38 = .ok (.irem, 1) := by decide +kernel
theorem dX8_way_39 : decode cX8_way 39 = .ok (.invokestatic 89, 3) := by decide +kernel
theorem dX8_way_42 : decode cX8_way 42 = .ok (.ifCond .ne 5, 3) := by decide +kernel
theorem dX8_way_45 : decode cX8_way 45 = .ok (.iconst (-1), 1) := by decide +kernel
theorem dX8_way_46 : decode cX8_way 46 = .ok (.ireturn, 1) := by decide +kernel
theorem dX8_way_47 : decode cX8_way 47 = .ok (.iload_n 1, 1) := by decide +kernel
theorem dX8_way_48 : decode cX8_way 48 = .ok (.istore 5, 2) := by decide +kernel
theorem dX8_way_50 : decode cX8_way 50 = .ok (.iconst 0, 1) := by decide +kernel
theorem dX8_way_51 : decode cX8_way 51 = .ok (.istore 6, 2) := by decide +kernel
theorem dX8_way_53 : decode cX8_way 53 = .ok (.iload 6, 2) := by decide +kernel
theorem dX8_way_55 : decode cX8_way 55 = .ok (.iload_n 3, 1) := by decide +kernel
theorem dX8_way_56 : decode cX8_way 56 = .ok (.if_icmp .ge 18, 3) := by decide +kernel
theorem dX8_way_59 : decode cX8_way 59 = .ok (.aload_n 0, 1) := by decide +kernel
theorem dX8_way_60 : decode cX8_way 60 = .ok (.iload 5, 2) := by decide +kernel
theorem dX8_way_62 : decode cX8_way 62 = .ok (.iload_n 2, 1) := by decide +kernel
theorem dX8_way_63 : decode cX8_way 63 = .ok (.invokevirtual 164, 3) := by decide +kernel
theorem dX8_way_66 : decode cX8_way 66 = .ok (.istore 5, 2) := by decide +kernel
theorem dX8_way_68 : decode cX8_way 68 = .ok (.iinc 6 1, 3) := by decide +kernel
theorem dX8_way_71 : decode cX8_way 71 = .ok (.goto (-18), 3) := by decide +kernel
theorem dX8_way_74 : decode cX8_way 74 = .ok (.iload 5, 2) := by decide +kernel
theorem dX8_way_76 : decode cX8_way 76 = .ok (.ireturn, 1) := by decide +kernel
theorem dX8_layUnpacked_0 : decode cX8_layUnpacked 0 = .ok (.aload_n 0, 1) := by decide +kernel
theorem dX8_layUnpacked_1 : decode cX8_layUnpacked 1 = .ok (.getfield 74, 3) := by decide +kernel
theorem dX8_layUnpacked_4 : decode cX8_layUnpacked 4 = .ok (.iconst 0, 1) := by decide +kernel
theorem dX8_layUnpacked_5 : decode cX8_layUnpacked 5 = .ok (.iload_n 1, 1) := by decide +kernel
theorem dX8_layUnpacked_6 : decode cX8_layUnpacked 6 = .ok (.iastore, 1) := by decide +kernel
theorem dX8_layUnpacked_7 : decode cX8_layUnpacked 7 = .ok (.aload_n 0, 1) := by decide +kernel
theorem dX8_layUnpacked_8 : decode cX8_layUnpacked 8 = .ok (.iconst 1, 1) := by decide +kernel
theorem dX8_layUnpacked_9 : decode cX8_layUnpacked 9 = .ok (.putfield 198, 3) := by decide +kernel
theorem dX8_layUnpacked_12 : decode cX8_layUnpacked 12 = .ok (.aload_n 0, 1) := by decide +kernel
theorem dX8_layUnpacked_13 : decode cX8_layUnpacked 13 = .ok (.getfield 68, 3) := by decide +kernel
theorem dX8_layUnpacked_16 : decode cX8_layUnpacked 16 = .ok (.iconst 0, 1) := by decide +kernel
theorem dX8_layUnpacked_17 : decode cX8_layUnpacked 17 = .ok (.iload_n 1, 1) := by decide +kernel
theorem dX8_layUnpacked_18 : decode cX8_layUnpacked 18 = .ok (.iastore, 1) := by decide +kernel
theorem dX8_layUnpacked_19 : decode cX8_layUnpacked 19 = .ok (.aload_n 0, 1) := by decide +kernel
theorem dX8_layUnpacked_20 : decode cX8_layUnpacked 20 = .ok (.getfield 71, 3) := by decide +kernel
theorem dX8_layUnpacked_23 : decode cX8_layUnpacked 23 = .ok (.iconst 0, 1) := by decide +kernel
theorem dX8_layUnpacked_24 : decode cX8_layUnpacked 24 = .ok (.iload_n 2, 1) := by decide +kernel
theorem dX8_layUnpacked_25 : decode cX8_layUnpacked 25 = .ok (.iastore, 1) := by decide +kernel
theorem dX8_layUnpacked_26 : decode cX8_layUnpacked 26 = .ok (.iconst 1, 1) := by decide +kernel
theorem dX8_layUnpacked_27 : decode cX8_layUnpacked 27 = .ok (.istore_n 3, 1) := by decide +kernel
theorem dX8_layUnpacked_28 : decode cX8_layUnpacked 28 = .ok (.iload_n 3, 1) := by decide +kernel
theorem dX8_layUnpacked_29 : decode cX8_layUnpacked 29 = .ok (.ifCond .le 109, 3) := by decide +kernel
theorem dX8_layUnpacked_32 : decode cX8_layUnpacked 32 = .ok (.iinc 3 (-1), 3) := by decide +kernel
theorem dX8_layUnpacked_35 : decode cX8_layUnpacked 35 = .ok (.aload_n 0, 1) := by decide +kernel
theorem dX8_layUnpacked_36 : decode cX8_layUnpacked 36 = .ok (.getfield 68, 3) := by decide +kernel
theorem dX8_layUnpacked_39 : decode cX8_layUnpacked 39 = .ok (.iload_n 3, 1) := by decide +kernel
theorem dX8_layUnpacked_40 : decode cX8_layUnpacked 40 = .ok (.iaload, 1) := by decide +kernel
theorem dX8_layUnpacked_41 : decode cX8_layUnpacked 41 = .ok (.istore 4, 2) := by decide +kernel
theorem dX8_layUnpacked_43 : decode cX8_layUnpacked 43 = .ok (.aload_n 0, 1) := by decide +kernel
theorem dX8_layUnpacked_44 : decode cX8_layUnpacked 44 = .ok (.getfield 71, 3) := by decide +kernel
theorem dX8_layUnpacked_47 : decode cX8_layUnpacked 47 = .ok (.iload_n 3, 1) := by decide +kernel
theorem dX8_layUnpacked_48 : decode cX8_layUnpacked 48 = .ok (.iaload, 1) := by decide +kernel
theorem dX8_layUnpacked_49 : decode cX8_layUnpacked 49 = .ok (.istore 5, 2) := by decide +kernel
theorem dX8_layUnpacked_51 : decode cX8_layUnpacked 51 = .ok (.aload_n 0, 1) := by decide +kernel
theorem dX8_layUnpacked_52 : decode cX8_layUnpacked 52 = .ok (.getfield 34, 3) := by decide +kernel
theorem dX8_layUnpacked_55 : decode cX8_layUnpacked 55 = .ok (.bipush 12, 2) := by decide +kernel
theorem dX8_layUnpacked_57 : decode cX8_layUnpacked 57 = .ok (.iload 4, 2) := by decide +kernel
theorem dX8_layUnpacked_59 : decode cX8_layUnpacked 59 = .ok (.imul, 1) := by decide +kernel
theorem dX8_layUnpacked_60 : decode cX8_layUnpacked 60 = .ok (.iload 5, 2) := by decide +kernel
theorem dX8_layUnpacked_62 : decode cX8_layUnpacked 62 = .ok (.iadd, 1) := by decide +kernel
theorem dX8_layUnpacked_63 : decode cX8_layUnpacked 63 = .ok (.iaload, 1) := by decide +kernel
theorem dX8_layUnpacked_64 : decode cX8_layUnpacked 64 = .ok (.istore 6, 2) := by decide +kernel
theorem dX8_layUnpacked_66 : decode cX8_layUnpacked 66 = .ok (.iload 6, 2) := by decide +kernel
theorem dX8_layUnpacked_68 : decode cX8_layUnpacked 68 = .ok (.iconst (-1), 1) := by decide +kernel
theorem dX8_layUnpacked_69 : decode cX8_layUnpacked 69 = .ok (.if_icmp .ne 27, 3) := by decide +kernel
theorem dX8_layUnpacked_72 : decode cX8_layUnpacked 72 = .ok (.aload_n 0, 1) := by decide +kernel
theorem dX8_layUnpacked_73 : decode cX8_layUnpacked 73 = .ok (.getfield 74, 3) := by decide +kernel
theorem dX8_layUnpacked_76 : decode cX8_layUnpacked 76 = .ok (.aload_n 0, 1) := by decide +kernel
theorem dX8_layUnpacked_77 : decode cX8_layUnpacked 77 = .ok (.getfield 198, 3) := by decide +kernel
theorem dX8_layUnpacked_80 : decode cX8_layUnpacked 80 = .ok (.iload 5, 2) := by decide +kernel
theorem dX8_layUnpacked_82 : decode cX8_layUnpacked 82 = .ok (.iastore, 1) := by decide +kernel
theorem dX8_layUnpacked_83 : decode cX8_layUnpacked 83 = .ok (.aload_n 0, 1) := by decide +kernel
theorem dX8_layUnpacked_84 : decode cX8_layUnpacked 84 = .ok (.dup, 1) := by decide +kernel
theorem dX8_layUnpacked_85 : decode cX8_layUnpacked 85 = .ok (.getfield 198, 3) := by decide +kernel
theorem dX8_layUnpacked_88 : decode cX8_layUnpacked 88 = .ok (.iconst 1, 1) := by decide +kernel
theorem dX8_layUnpacked_89 : decode cX8_layUnpacked 89 = .ok (.iadd, 1) := by decide +kernel
theorem dX8_layUnpacked_90 : decode cX8_layUnpacked 90 = .ok (.putfield 198, 3) := by decide +kernel
theorem dX8_layUnpacked_93 : decode cX8_layUnpacked 93 = .ok (.goto 42, 3) := by decide +kernel
theorem dX8_layUnpacked_96 : decode cX8_layUnpacked 96 = .ok (.aload_n 0, 1) := by decide +kernel
theorem dX8_layUnpacked_97 : decode cX8_layUnpacked 97 = .ok (.getfield 68, 3) := by decide +kernel
theorem dX8_layUnpacked_100 : decode cX8_layUnpacked 100 = .ok (.iload_n 3, 1) := by decide +kernel
theorem dX8_layUnpacked_101 : decode cX8_layUnpacked 101 = .ok (.iload 6, 2) := by decide +kernel
theorem dX8_layUnpacked_103 : decode cX8_layUnpacked 103 = .ok (.iastore, 1) := by decide +kernel
theorem dX8_layUnpacked_104 : decode cX8_layUnpacked 104 = .ok (.aload_n 0, 1) := by decide +kernel
theorem dX8_layUnpacked_105 : decode cX8_layUnpacked 105 = .ok (.getfield 71, 3) := by decide +kernel
theorem dX8_layUnpacked_108 : decode cX8_layUnpacked 108 = .ok (.iload_n 3, 1) := by decide +kernel
theorem dX8_layUnpacked_109 : decode cX8_layUnpacked 109 = .ok (.iload 5, 2) := by decide +kernel
theorem dX8_layUnpacked_111 : decode cX8_layUnpacked 111 = .ok (.iastore, 1) := by decide +kernel
theorem dX8_layUnpacked_112 : decode cX8_layUnpacked 112 = .ok (.aload_n 0, 1) := by decide +kernel
theorem dX8_layUnpacked_113 : decode cX8_layUnpacked 113 = .ok (.getfield 68, 3) := by decide +kernel
theorem dX8_layUnpacked_116 : decode cX8_layUnpacked 116 = .ok (.iload_n 3, 1) := by decide +kernel
theorem dX8_layUnpacked_117 : decode cX8_layUnpacked 117 = .ok (.iconst 1, 1) := by decide +kernel
theorem dX8_layUnpacked_118 : decode cX8_layUnpacked 118 = .ok (.iadd, 1) := by decide +kernel
theorem dX8_layUnpacked_119 : decode cX8_layUnpacked 119 = .ok (.iload 4, 2) := by decide +kernel
theorem dX8_layUnpacked_121 : decode cX8_layUnpacked 121 = .ok (.iastore, 1) := by decide +kernel
theorem dX8_layUnpacked_122 : decode cX8_layUnpacked 122 = .ok (.aload_n 0, 1) := by decide +kernel
theorem dX8_layUnpacked_123 : decode cX8_layUnpacked 123 = .ok (.getfield 71, 3) := by decide +kernel
theorem dX8_layUnpacked_126 : decode cX8_layUnpacked 126 = .ok (.iload_n 3, 1) := by decide +kernel
theorem dX8_layUnpacked_127 : decode cX8_layUnpacked 127 = .ok (.iconst 1, 1) := by decide +kernel
theorem dX8_layUnpacked_128 : decode cX8_layUnpacked 128 = .ok (.iadd, 1) := by decide +kernel
theorem dX8_layUnpacked_129 : decode cX8_layUnpacked 129 = .ok (.iload 6, 2) := by decide +kernel
theorem dX8_layUnpacked_131 : decode cX8_layUnpacked 131 = .ok (.iastore, 1) := by decide +kernel
theorem dX8_layUnpacked_132 : decode cX8_layUnpacked 132 = .ok (.iinc 3 2, 3) := by decide +kernel
theorem dX8_layUnpacked_135 : decode cX8_layUnpacked 135 = .ok (.goto (-107), 3) := by decide +kernel
theorem dX8_layUnpacked_138 : decode cX8_layUnpacked 138 = .ok (.return_, 1) := by decide +kernel
theorem dX8_arcNow_0 : decode cX8_arcNow 0 = .ok (.bipush 12, 2) := by decide +kernel
theorem dX8_arcNow_2 : decode cX8_arcNow 2 = .ok (.iload_n 1, 1) := by decide +kernel
theorem dX8_arcNow_3 : decode cX8_arcNow 3 = .ok (.imul, 1) := by decide +kernel
theorem dX8_arcNow_4 : decode cX8_arcNow 4 = .ok (.iload_n 2, 1) := by decide +kernel
theorem dX8_arcNow_5 : decode cX8_arcNow 5 = .ok (.iadd, 1) := by decide +kernel
theorem dX8_arcNow_6 : decode cX8_arcNow 6 = .ok (.istore 4, 2) := by decide +kernel
theorem dX8_arcNow_8 : decode cX8_arcNow 8 = .ok (.aload_n 0, 1) := by decide +kernel
theorem dX8_arcNow_9 : decode cX8_arcNow 9 = .ok (.getfield 31, 3) := by decide +kernel
theorem dX8_arcNow_12 : decode cX8_arcNow 12 = .ok (.iload 4, 2) := by decide +kernel
theorem dX8_arcNow_14 : decode cX8_arcNow 14 = .ok (.iaload, 1) := by decide +kernel
theorem dX8_arcNow_15 : decode cX8_arcNow 15 = .ok (.ldc 136, 2) := by decide +kernel
theorem dX8_arcNow_17 : decode cX8_arcNow 17 = .ok (.if_icmp .lt 5, 3) := by decide +kernel
theorem dX8_arcNow_20 : decode cX8_arcNow 20 = .ok (.iconst (-1), 1) := by decide +kernel
theorem dX8_arcNow_21 : decode cX8_arcNow 21 = .ok (.ireturn, 1) := by decide +kernel
theorem dX8_arcNow_22 : decode cX8_arcNow 22 = .ok (.iload_n 3, 1) := by decide +kernel
theorem dX8_arcNow_23 : decode cX8_arcNow 23 = .ok (.iconst 3, 1) := by decide +kernel
theorem dX8_arcNow_24 : decode cX8_arcNow 24 = .ok (.if_icmp .ne 14, 3) := by decide +kernel
theorem dX8_arcNow_27 : decode cX8_arcNow 27 = .ok (.aload_n 0, 1) := by decide +kernel
theorem dX8_arcNow_28 : decode cX8_arcNow 28 = .ok (.iload_n 1, 1) := by decide +kernel
theorem dX8_arcNow_29 : decode cX8_arcNow 29 = .ok (.iload_n 2, 1) := by decide +kernel
theorem dX8_arcNow_30 : decode cX8_arcNow 30 = .ok (.invokevirtual 201, 3) := by decide +kernel
theorem dX8_arcNow_33 : decode cX8_arcNow 33 = .ok (.aload_n 0, 1) := by decide +kernel
theorem dX8_arcNow_34 : decode cX8_arcNow 34 = .ok (.getfield 198, 3) := by decide +kernel
theorem dX8_arcNow_37 : decode cX8_arcNow 37 = .ok (.ireturn, 1) := by decide +kernel
theorem dX8_arcNow_38 : decode cX8_arcNow 38 = .ok (.iload_n 3, 1) := by decide +kernel
theorem dX8_arcNow_39 : decode cX8_arcNow 39 = .ok (.ifCond .ne 13, 3) := by decide +kernel
theorem dX8_arcNow_42 : decode cX8_arcNow 42 = .ok (.aload_n 0, 1) := by decide +kernel
theorem dX8_arcNow_43 : decode cX8_arcNow 43 = .ok (.getfield 31, 3) := by decide +kernel
theorem dX8_arcNow_46 : decode cX8_arcNow 46 = .ok (.iload 4, 2) := by decide +kernel
theorem dX8_arcNow_48 : decode cX8_arcNow 48 = .ok (.iaload, 1) := by decide +kernel
theorem dX8_arcNow_49 : decode cX8_arcNow 49 = .ok (.goto 38, 3) := by decide +kernel
theorem dX8_arcNow_52 : decode cX8_arcNow 52 = .ok (.iload_n 3, 1) := by decide +kernel
theorem dX8_arcNow_53 : decode cX8_arcNow 53 = .ok (.iconst 1, 1) := by decide +kernel
theorem dX8_arcNow_54 : decode cX8_arcNow 54 = .ok (.if_icmp .ne 13, 3) := by decide +kernel
theorem dX8_arcNow_57 : decode cX8_arcNow 57 = .ok (.aload_n 0, 1) := by decide +kernel
theorem dX8_arcNow_58 : decode cX8_arcNow 58 = .ok (.getfield 34, 3) := by decide +kernel
theorem dX8_arcNow_61 : decode cX8_arcNow 61 = .ok (.iload 4, 2) := by decide +kernel
theorem dX8_arcNow_63 : decode cX8_arcNow 63 = .ok (.iaload, 1) := by decide +kernel
theorem dX8_arcNow_64 : decode cX8_arcNow 64 = .ok (.goto 23, 3) := by decide +kernel
theorem dX8_arcNow_67 : decode cX8_arcNow 67 = .ok (.aload_n 0, 1) := by decide +kernel
theorem dX8_arcNow_68 : decode cX8_arcNow 68 = .ok (.getfield 25, 3) := by decide +kernel
theorem dX8_arcNow_71 : decode cX8_arcNow 71 = .ok (.iload_n 2, 1) := by decide +kernel
theorem dX8_arcNow_72 : decode cX8_arcNow 72 = .ok (.iaload, 1) := by decide +kernel
theorem dX8_arcNow_73 : decode cX8_arcNow 73 = .ok (.aload_n 0, 1) := by decide +kernel
theorem dX8_arcNow_74 : decode cX8_arcNow 74 = .ok (.getfield 25, 3) := by decide +kernel
theorem dX8_arcNow_77 : decode cX8_arcNow 77 = .ok (.iload_n 1, 1) := by decide +kernel
theorem dX8_arcNow_78 : decode cX8_arcNow 78 = .ok (.iaload, 1) := by decide +kernel
theorem dX8_arcNow_79 : decode cX8_arcNow 79 = .ok (.if_icmp .le 7, 3) := by decide +kernel
theorem dX8_arcNow_82 : decode cX8_arcNow 82 = .ok (.iconst 1, 1) := by decide +kernel
theorem dX8_arcNow_83 : decode cX8_arcNow 83 = .ok (.goto 4, 3) := by decide +kernel
theorem dX8_arcNow_86 : decode cX8_arcNow 86 = .ok (.iconst 0, 1) := by decide +kernel
theorem dX8_arcNow_87 : decode cX8_arcNow 87 = .ok (.ireturn, 1) := by decide +kernel
theorem dX8_arc_0 : decode cX8_arc 0 = .ok (.aload_n 0, 1) := by decide +kernel
theorem dX8_arc_1 : decode cX8_arc 1 = .ok (.iload_n 1, 1) := by decide +kernel
theorem dX8_arc_2 : decode cX8_arc 2 = .ok (.iload_n 2, 1) := by decide +kernel
theorem dX8_arc_3 : decode cX8_arc 3 = .ok (.invokevirtual 180, 3) := by decide +kernel
theorem dX8_arc_6 : decode cX8_arc 6 = .ok (.ifCond .ne 6, 3) := by decide +kernel
theorem dX8_arc_9 : decode cX8_arc 9 = .ok (.bipush (-101), 2) := by decide +kernel
theorem dX8_arc_11 : decode cX8_arc 11 = .ok (.ireturn, 1) := by decide +kernel
theorem dX8_arc_12 : decode cX8_arc 12 = .ok (.iload_n 3, 1) := by decide +kernel
theorem dX8_arc_13 : decode cX8_arc 13 = .ok (.iconst 0, 1) := by decide +kernel
theorem dX8_arc_14 : decode cX8_arc 14 = .ok (.iconst 3, 1) := by decide +kernel
theorem dX8_arc_15 : decode cX8_arc 15 = .ok (.invokestatic 89, 3) := by decide +kernel
theorem dX8_arc_18 : decode cX8_arc 18 = .ok (.ifCond .eq 13, 3) := by decide +kernel
theorem dX8_arc_21 : decode cX8_arc 21 = .ok (.aload_n 0, 1) := by decide +kernel
theorem dX8_arc_22 : decode cX8_arc 22 = .ok (.iload_n 1, 1) := by decide +kernel
theorem dX8_arc_23 : decode cX8_arc 23 = .ok (.iload_n 2, 1) := by decide +kernel
theorem dX8_arc_24 : decode cX8_arc 24 = .ok (.iload_n 3, 1) := by decide +kernel
theorem dX8_arc_25 : decode cX8_arc 25 = .ok (.invokevirtual 204, 3) := by decide +kernel
theorem dX8_arc_28 : decode cX8_arc 28 = .ok (.goto 5, 3) := by decide +kernel
theorem dX8_arc_31 : decode cX8_arc 31 = .ok (.bipush (-102), 2) := by decide +kernel
theorem dX8_arc_33 : decode cX8_arc 33 = .ok (.ireturn, 1) := by decide +kernel
theorem dX8_unpacked_0 : decode cX8_unpacked 0 = .ok (.aload_n 0, 1) := by decide +kernel
theorem dX8_unpacked_1 : decode cX8_unpacked 1 = .ok (.iload_n 1, 1) := by decide +kernel
theorem dX8_unpacked_2 : decode cX8_unpacked 2 = .ok (.iload_n 2, 1) := by decide +kernel
theorem dX8_unpacked_3 : decode cX8_unpacked 3 = .ok (.invokevirtual 180, 3) := by decide +kernel
theorem dX8_unpacked_6 : decode cX8_unpacked 6 = .ok (.ifCond .ne 6, 3) := by decide +kernel
theorem dX8_unpacked_9 : decode cX8_unpacked 9 = .ok (.bipush (-101), 2) := by decide +kernel
theorem dX8_unpacked_11 : decode cX8_unpacked 11 = .ok (.ireturn, 1) := by decide +kernel
theorem dX8_unpacked_12 : decode cX8_unpacked 12 = .ok (.aload_n 0, 1) := by decide +kernel
theorem dX8_unpacked_13 : decode cX8_unpacked 13 = .ok (.getfield 31, 3) := by decide +kernel
theorem dX8_unpacked_16 : decode cX8_unpacked 16 = .ok (.bipush 12, 2) := by decide +kernel
theorem dX8_unpacked_18 : decode cX8_unpacked 18 = .ok (.iload_n 1, 1) := by decide +kernel
theorem dX8_unpacked_19 : decode cX8_unpacked 19 = .ok (.imul, 1) := by decide +kernel
theorem dX8_unpacked_20 : decode cX8_unpacked 20 = .ok (.iload_n 2, 1) := by decide +kernel
theorem dX8_unpacked_21 : decode cX8_unpacked 21 = .ok (.iadd, 1) := by decide +kernel
theorem dX8_unpacked_22 : decode cX8_unpacked 22 = .ok (.iaload, 1) := by decide +kernel
theorem dX8_unpacked_23 : decode cX8_unpacked 23 = .ok (.ldc 136, 2) := by decide +kernel
theorem dX8_unpacked_25 : decode cX8_unpacked 25 = .ok (.if_icmp .lt 5, 3) := by decide +kernel
theorem dX8_unpacked_28 : decode cX8_unpacked 28 = .ok (.iconst (-1), 1) := by decide +kernel
theorem dX8_unpacked_29 : decode cX8_unpacked 29 = .ok (.ireturn, 1) := by decide +kernel
theorem dX8_unpacked_30 : decode cX8_unpacked 30 = .ok (.aload_n 0, 1) := by decide +kernel
theorem dX8_unpacked_31 : decode cX8_unpacked 31 = .ok (.iload_n 1, 1) := by decide +kernel
theorem dX8_unpacked_32 : decode cX8_unpacked 32 = .ok (.iload_n 2, 1) := by decide +kernel
theorem dX8_unpacked_33 : decode cX8_unpacked 33 = .ok (.invokevirtual 201, 3) := by decide +kernel
theorem dX8_unpacked_36 : decode cX8_unpacked 36 = .ok (.iload_n 3, 1) := by decide +kernel
theorem dX8_unpacked_37 : decode cX8_unpacked 37 = .ok (.iconst 0, 1) := by decide +kernel
theorem dX8_unpacked_38 : decode cX8_unpacked 38 = .ok (.aload_n 0, 1) := by decide +kernel
theorem dX8_unpacked_39 : decode cX8_unpacked 39 = .ok (.getfield 198, 3) := by decide +kernel
theorem dX8_unpacked_42 : decode cX8_unpacked 42 = .ok (.iconst 1, 1) := by decide +kernel
theorem dX8_unpacked_43 : decode cX8_unpacked 43 = .ok (.isub, 1) := by decide +kernel
theorem dX8_unpacked_44 : decode cX8_unpacked 44 = .ok (.invokestatic 89, 3) := by decide +kernel
theorem dX8_unpacked_47 : decode cX8_unpacked 47 = .ok (.ifCond .eq 12, 3) := by decide +kernel
theorem dX8_unpacked_50 : decode cX8_unpacked 50 = .ok (.aload_n 0, 1) := by decide +kernel
theorem dX8_unpacked_51 : decode cX8_unpacked 51 = .ok (.getfield 74, 3) := by decide +kernel
theorem dX8_unpacked_54 : decode cX8_unpacked 54 = .ok (.iload_n 3, 1) := by decide +kernel
theorem dX8_unpacked_55 : decode cX8_unpacked 55 = .ok (.iaload, 1) := by decide +kernel
theorem dX8_unpacked_56 : decode cX8_unpacked 56 = .ok (.goto 4, 3) := by decide +kernel
theorem dX8_unpacked_59 : decode cX8_unpacked 59 = .ok (.iconst (-1), 1) := by decide +kernel
theorem dX8_unpacked_60 : decode cX8_unpacked 60 = .ok (.ireturn, 1) := by decide +kernel
theorem dX8_layRisen_0 : decode cX8_layRisen 0 = .ok (.iconst 0, 1) := by decide +kernel
theorem dX8_layRisen_1 : decode cX8_layRisen 1 = .ok (.istore_n 3, 1) := by decide +kernel
theorem dX8_layRisen_2 : decode cX8_layRisen 2 = .ok (.iload_n 3, 1) := by decide +kernel
theorem dX8_layRisen_3 : decode cX8_layRisen 3 = .ok (.aload_n 0, 1) := by decide +kernel
theorem dX8_layRisen_4 : decode cX8_layRisen 4 = .ok (.getfield 120, 3) := by decide +kernel
theorem dX8_layRisen_7 : decode cX8_layRisen 7 = .ok (.if_icmp .ge 26, 3) := by decide +kernel
theorem dX8_layRisen_10 : decode cX8_layRisen 10 = .ok (.aload_n 0, 1) := by decide +kernel
theorem dX8_layRisen_11 : decode cX8_layRisen 11 = .ok (.getfield 77, 3) := by decide +kernel
theorem dX8_layRisen_14 : decode cX8_layRisen 14 = .ok (.iload_n 3, 1) := by decide +kernel
theorem dX8_layRisen_15 : decode cX8_layRisen 15 = .ok (.iload_n 3, 1) := by decide +kernel
theorem dX8_layRisen_16 : decode cX8_layRisen 16 = .ok (.iload_n 1, 1) := by decide +kernel
theorem dX8_layRisen_17 : decode cX8_layRisen 17 = .ok (.if_icmp .ne 7, 3) := by decide +kernel
theorem dX8_layRisen_20 : decode cX8_layRisen 20 = .ok (.iconst 0, 1) := by decide +kernel
theorem dX8_layRisen_21 : decode cX8_layRisen 21 = .ok (.goto 5, 3) := by decide +kernel
theorem dX8_layRisen_24 : decode cX8_layRisen 24 = .ok (.ldc 136, 2) := by decide +kernel
theorem dX8_layRisen_26 : decode cX8_layRisen 26 = .ok (.iastore, 1) := by decide +kernel
theorem dX8_layRisen_27 : decode cX8_layRisen 27 = .ok (.iinc 3 1, 3) := by decide +kernel
theorem dX8_layRisen_30 : decode cX8_layRisen 30 = .ok (.goto (-28), 3) := by decide +kernel
theorem dX8_layRisen_33 : decode cX8_layRisen 33 = .ok (.iconst 0, 1) := by decide +kernel
theorem dX8_layRisen_34 : decode cX8_layRisen 34 = .ok (.istore_n 3, 1) := by decide +kernel
theorem dX8_layRisen_35 : decode cX8_layRisen 35 = .ok (.iload_n 3, 1) := by decide +kernel
theorem dX8_layRisen_36 : decode cX8_layRisen 36 = .ok (.aload_n 0, 1) := by decide +kernel
theorem dX8_layRisen_37 : decode cX8_layRisen 37 = .ok (.getfield 120, 3) := by decide +kernel
theorem dX8_layRisen_40 : decode cX8_layRisen 40 = .ok (.if_icmp .ge 131, 3) := by decide +kernel
theorem dX8_layRisen_43 : decode cX8_layRisen 43 = .ok (.aload_n 0, 1) := by decide +kernel
theorem dX8_layRisen_44 : decode cX8_layRisen 44 = .ok (.getfield 28, 3) := by decide +kernel
theorem dX8_layRisen_47 : decode cX8_layRisen 47 = .ok (.iload_n 2, 1) := by decide +kernel
theorem dX8_layRisen_48 : decode cX8_layRisen 48 = .ok (.ifCond .eq 7, 3) := by decide +kernel
theorem dX8_layRisen_51 : decode cX8_layRisen 51 = .ok (.iload_n 3, 1) := by decide +kernel
theorem dX8_layRisen_52 : decode cX8_layRisen 52 = .ok (.goto 11, 3) := by decide +kernel
theorem dX8_layRisen_55 : decode cX8_layRisen 55 = .ok (.aload_n 0, 1) := by decide +kernel
theorem dX8_layRisen_56 : decode cX8_layRisen 56 = .ok (.getfield 120, 3) := by decide +kernel
theorem dX8_layRisen_59 : decode cX8_layRisen 59 = .ok (.iconst 1, 1) := by decide +kernel
theorem dX8_layRisen_60 : decode cX8_layRisen 60 = .ok (.isub, 1) := by decide +kernel
theorem dX8_layRisen_61 : decode cX8_layRisen 61 = .ok (.iload_n 3, 1) := by decide +kernel
theorem dX8_layRisen_62 : decode cX8_layRisen 62 = .ok (.isub, 1) := by decide +kernel
theorem dX8_layRisen_63 : decode cX8_layRisen 63 = .ok (.iaload, 1) := by decide +kernel
theorem dX8_layRisen_64 : decode cX8_layRisen 64 = .ok (.istore 4, 2) := by decide +kernel
theorem dX8_layRisen_66 : decode cX8_layRisen 66 = .ok (.iload_n 3, 1) := by decide +kernel
theorem dX8_layRisen_67 : decode cX8_layRisen 67 = .ok (.iconst 1, 1) := by decide +kernel
theorem dX8_layRisen_68 : decode cX8_layRisen 68 = .ok (.iadd, 1) := by decide +kernel
theorem dX8_layRisen_69 : decode cX8_layRisen 69 = .ok (.istore 5, 2) := by decide +kernel
theorem dX8_layRisen_71 : decode cX8_layRisen 71 = .ok (.iload 5, 2) := by decide +kernel
theorem dX8_layRisen_73 : decode cX8_layRisen 73 = .ok (.aload_n 0, 1) := by decide +kernel
theorem dX8_layRisen_74 : decode cX8_layRisen 74 = .ok (.getfield 120, 3) := by decide +kernel
theorem dX8_layRisen_77 : decode cX8_layRisen 77 = .ok (.if_icmp .ge 88, 3) := by decide +kernel
theorem dX8_layRisen_80 : decode cX8_layRisen 80 = .ok (.aload_n 0, 1) := by decide +kernel
theorem dX8_layRisen_81 : decode cX8_layRisen 81 = .ok (.getfield 28, 3) := by decide +kernel
theorem dX8_layRisen_84 : decode cX8_layRisen 84 = .ok (.iload_n 2, 1) := by decide +kernel
theorem dX8_layRisen_85 : decode cX8_layRisen 85 = .ok (.ifCond .eq 8, 3) := by decide +kernel
theorem dX8_layRisen_88 : decode cX8_layRisen 88 = .ok (.iload 5, 2) := by decide +kernel
theorem dX8_layRisen_90 : decode cX8_layRisen 90 = .ok (.goto 12, 3) := by decide +kernel
theorem dX8_layRisen_93 : decode cX8_layRisen 93 = .ok (.aload_n 0, 1) := by decide +kernel
theorem dX8_layRisen_94 : decode cX8_layRisen 94 = .ok (.getfield 120, 3) := by decide +kernel
theorem dX8_layRisen_97 : decode cX8_layRisen 97 = .ok (.iconst 1, 1) := by decide +kernel
theorem dX8_layRisen_98 : decode cX8_layRisen 98 = .ok (.isub, 1) := by decide +kernel
theorem dX8_layRisen_99 : decode cX8_layRisen 99 = .ok (.iload 5, 2) := by decide +kernel
theorem dX8_layRisen_101 : decode cX8_layRisen 101 = .ok (.isub, 1) := by decide +kernel
theorem dX8_layRisen_102 : decode cX8_layRisen 102 = .ok (.iaload, 1) := by decide +kernel
theorem dX8_layRisen_103 : decode cX8_layRisen 103 = .ok (.istore 6, 2) := by decide +kernel
theorem dX8_layRisen_105 : decode cX8_layRisen 105 = .ok (.aload_n 0, 1) := by decide +kernel
theorem dX8_layRisen_106 : decode cX8_layRisen 106 = .ok (.getfield 77, 3) := by decide +kernel
theorem dX8_layRisen_109 : decode cX8_layRisen 109 = .ok (.iload 4, 2) := by decide +kernel
theorem dX8_layRisen_111 : decode cX8_layRisen 111 = .ok (.iaload, 1) := by decide +kernel
theorem dX8_layRisen_112 : decode cX8_layRisen 112 = .ok (.aload_n 0, 1) := by decide +kernel
theorem dX8_layRisen_113 : decode cX8_layRisen 113 = .ok (.getfield 31, 3) := by decide +kernel
theorem dX8_layRisen_116 : decode cX8_layRisen 116 = .ok (.bipush 12, 2) := by decide +kernel
theorem dX8_layRisen_118 : decode cX8_layRisen 118 = .ok (.iload 4, 2) := by decide +kernel
theorem dX8_layRisen_120 : decode cX8_layRisen 120 = .ok (.imul, 1) := by decide +kernel
theorem dX8_layRisen_121 : decode cX8_layRisen 121 = .ok (.iload 6, 2) := by decide +kernel
theorem dX8_layRisen_123 : decode cX8_layRisen 123 = .ok (.iadd, 1) := by decide +kernel
theorem dX8_layRisen_124 : decode cX8_layRisen 124 = .ok (.iaload, 1) := by decide +kernel
theorem dX8_layRisen_125 : decode cX8_layRisen 125 = .ok (.iadd, 1) := by decide +kernel
theorem dX8_layRisen_126 : decode cX8_layRisen 126 = .ok (.istore 7, 2) := by decide +kernel
theorem dX8_layRisen_128 : decode cX8_layRisen 128 = .ok (.aload_n 0, 1) := by decide +kernel
theorem dX8_layRisen_129 : decode cX8_layRisen 129 = .ok (.getfield 77, 3) := by decide +kernel
theorem dX8_layRisen_132 : decode cX8_layRisen 132 = .ok (.iload 6, 2) := by decide +kernel
theorem dX8_layRisen_134 : decode cX8_layRisen 134 = .ok (.iload 7, 2) := by decide +kernel
theorem dX8_layRisen_136 : decode cX8_layRisen 136 = .ok (.aload_n 0, 1) := by decide +kernel
theorem dX8_layRisen_137 : decode cX8_layRisen 137 = .ok (.getfield 77, 3) := by decide +kernel
theorem dX8_layRisen_140 : decode cX8_layRisen 140 = .ok (.iload 6, 2) := by decide +kernel
theorem dX8_layRisen_142 : decode cX8_layRisen 142 = .ok (.iaload, 1) := by decide +kernel
theorem dX8_layRisen_143 : decode cX8_layRisen 143 = .ok (.if_icmp .ge 8, 3) := by decide +kernel
theorem dX8_layRisen_146 : decode cX8_layRisen 146 = .ok (.iload 7, 2) := by decide +kernel
theorem dX8_layRisen_148 : decode cX8_layRisen 148 = .ok (.goto 10, 3) := by decide +kernel
theorem dX8_layRisen_151 : decode cX8_layRisen 151 = .ok (.aload_n 0, 1) := by decide +kernel
theorem dX8_layRisen_152 : decode cX8_layRisen 152 = .ok (.getfield 77, 3) := by decide +kernel
theorem dX8_layRisen_155 : decode cX8_layRisen 155 = .ok (.iload 6, 2) := by decide +kernel
theorem dX8_layRisen_157 : decode cX8_layRisen 157 = .ok (.iaload, 1) := by decide +kernel
theorem dX8_layRisen_158 : decode cX8_layRisen 158 = .ok (.iastore, 1) := by decide +kernel
theorem dX8_layRisen_159 : decode cX8_layRisen 159 = .ok (.iinc 5 1, 3) := by decide +kernel
theorem dX8_layRisen_162 : decode cX8_layRisen 162 = .ok (.goto (-91), 3) := by decide +kernel
theorem dX8_layRisen_165 : decode cX8_layRisen 165 = .ok (.iinc 3 1, 3) := by decide +kernel
theorem dX8_layRisen_168 : decode cX8_layRisen 168 = .ok (.goto (-133), 3) := by decide +kernel
theorem dX8_layRisen_171 : decode cX8_layRisen 171 = .ok (.return_, 1) := by decide +kernel
theorem dX8_risenTo_0 : decode cX8_risenTo 0 = .ok (.aload_n 0, 1) := by decide +kernel
theorem dX8_risenTo_1 : decode cX8_risenTo 1 = .ok (.iload_n 1, 1) := by decide +kernel
theorem dX8_risenTo_2 : decode cX8_risenTo 2 = .ok (.iload_n 3, 1) := by decide +kernel
theorem dX8_risenTo_3 : decode cX8_risenTo 3 = .ok (.invokevirtual 208, 3) := by decide +kernel
theorem dX8_risenTo_6 : decode cX8_risenTo 6 = .ok (.aload_n 0, 1) := by decide +kernel
theorem dX8_risenTo_7 : decode cX8_risenTo 7 = .ok (.getfield 77, 3) := by decide +kernel
theorem dX8_risenTo_10 : decode cX8_risenTo 10 = .ok (.iload_n 2, 1) := by decide +kernel
theorem dX8_risenTo_11 : decode cX8_risenTo 11 = .ok (.iaload, 1) := by decide +kernel
theorem dX8_risenTo_12 : decode cX8_risenTo 12 = .ok (.ldc 136, 2) := by decide +kernel
theorem dX8_risenTo_14 : decode cX8_risenTo 14 = .ok (.if_icmp .lt 7, 3) := by decide +kernel
theorem dX8_risenTo_17 : decode cX8_risenTo 17 = .ok (.iconst (-1), 1) := by decide +kernel
theorem dX8_risenTo_18 : decode cX8_risenTo 18 = .ok (.goto 9, 3) := by decide +kernel
theorem dX8_risenTo_21 : decode cX8_risenTo 21 = .ok (.aload_n 0, 1) := by decide +kernel
theorem dX8_risenTo_22 : decode cX8_risenTo 22 = .ok (.getfield 77, 3) := by decide +kernel
theorem dX8_risenTo_25 : decode cX8_risenTo 25 = .ok (.iload_n 2, 1) := by decide +kernel
theorem dX8_risenTo_26 : decode cX8_risenTo 26 = .ok (.iaload, 1) := by decide +kernel
theorem dX8_risenTo_27 : decode cX8_risenTo 27 = .ok (.ireturn, 1) := by decide +kernel
theorem dX8_up_0 : decode cX8_up 0 = .ok (.aload_n 0, 1) := by decide +kernel
theorem dX8_up_1 : decode cX8_up 1 = .ok (.iload_n 1, 1) := by decide +kernel
theorem dX8_up_2 : decode cX8_up 2 = .ok (.iload_n 2, 1) := by decide +kernel
theorem dX8_up_3 : decode cX8_up 3 = .ok (.invokevirtual 180, 3) := by decide +kernel
theorem dX8_up_6 : decode cX8_up 6 = .ok (.ifCond .eq 13, 3) := by decide +kernel
theorem dX8_up_9 : decode cX8_up 9 = .ok (.aload_n 0, 1) := by decide +kernel
theorem dX8_up_10 : decode cX8_up 10 = .ok (.iload_n 1, 1) := by decide +kernel
theorem dX8_up_11 : decode cX8_up 11 = .ok (.iload_n 2, 1) := by decide +kernel
theorem dX8_up_12 : decode cX8_up 12 = .ok (.iconst 1, 1) := by decide +kernel
theorem dX8_up_13 : decode cX8_up 13 = .ok (.invokevirtual 212, 3) := by decide +kernel
theorem dX8_up_16 : decode cX8_up 16 = .ok (.goto 5, 3) := by decide +kernel
theorem dX8_up_19 : decode cX8_up 19 = .ok (.bipush (-101), 2) := by decide +kernel
theorem dX8_up_21 : decode cX8_up 21 = .ok (.ireturn, 1) := by decide +kernel
theorem dX8_down_0 : decode cX8_down 0 = .ok (.aload_n 0, 1) := by decide +kernel
theorem dX8_down_1 : decode cX8_down 1 = .ok (.iload_n 1, 1) := by decide +kernel
theorem dX8_down_2 : decode cX8_down 2 = .ok (.iload_n 2, 1) := by decide +kernel
theorem dX8_down_3 : decode cX8_down 3 = .ok (.invokevirtual 180, 3) := by decide +kernel
theorem dX8_down_6 : decode cX8_down 6 = .ok (.ifCond .eq 13, 3) := by decide +kernel
theorem dX8_down_9 : decode cX8_down 9 = .ok (.aload_n 0, 1) := by decide +kernel
theorem dX8_down_10 : decode cX8_down 10 = .ok (.iload_n 1, 1) := by decide +kernel
theorem dX8_down_11 : decode cX8_down 11 = .ok (.iload_n 2, 1) := by decide +kernel
theorem dX8_down_12 : decode cX8_down 12 = .ok (.iconst 0, 1) := by decide +kernel
theorem dX8_down_13 : decode cX8_down 13 = .ok (.invokevirtual 212, 3) := by decide +kernel
theorem dX8_down_16 : decode cX8_down 16 = .ok (.goto 5, 3) := by decide +kernel
theorem dX8_down_19 : decode cX8_down 19 = .ok (.bipush (-101), 2) := by decide +kernel
theorem dX8_down_21 : decode cX8_down 21 = .ok (.ireturn, 1) := by decide +kernel
theorem dX8_meetNow_0 : decode cX8_meetNow 0 = .ok (.aload_n 0, 1) := by decide +kernel
theorem dX8_meetNow_1 : decode cX8_meetNow 1 = .ok (.iload_n 1, 1) := by decide +kernel
theorem dX8_meetNow_2 : decode cX8_meetNow 2 = .ok (.iconst 1, 1) := by decide +kernel
theorem dX8_meetNow_3 : decode cX8_meetNow 3 = .ok (.invokevirtual 208, 3) := by decide +kernel
theorem dX8_meetNow_6 : decode cX8_meetNow 6 = .ok (.iconst 0, 1) := by decide +kernel
theorem dX8_meetNow_7 : decode cX8_meetNow 7 = .ok (.istore_n 3, 1) := by decide +kernel
theorem dX8_meetNow_8 : decode cX8_meetNow 8 = .ok (.iload_n 3, 1) := by decide +kernel
theorem dX8_meetNow_9 : decode cX8_meetNow 9 = .ok (.aload_n 0, 1) := by decide +kernel
theorem dX8_meetNow_10 : decode cX8_meetNow 10 = .ok (.getfield 120, 3) := by decide +kernel
theorem dX8_meetNow_13 : decode cX8_meetNow 13 = .ok (.if_icmp .ge 21, 3) := by decide +kernel
theorem dX8_meetNow_16 : decode cX8_meetNow 16 = .ok (.aload_n 0, 1) := by decide +kernel
theorem dX8_meetNow_17 : decode cX8_meetNow 17 = .ok (.getfield 80, 3) := by decide +kernel
theorem dX8_meetNow_20 : decode cX8_meetNow 20 = .ok (.iload_n 3, 1) := by decide +kernel
theorem dX8_meetNow_21 : decode cX8_meetNow 21 = .ok (.aload_n 0, 1) := by decide +kernel
theorem dX8_meetNow_22 : decode cX8_meetNow 22 = .ok (.getfield 77, 3) := by decide +kernel
theorem dX8_meetNow_25 : decode cX8_meetNow 25 = .ok (.iload_n 3, 1) := by decide +kernel
theorem dX8_meetNow_26 : decode cX8_meetNow 26 = .ok (.iaload, 1) := by decide +kernel
theorem dX8_meetNow_27 : decode cX8_meetNow 27 = .ok (.iastore, 1) := by decide +kernel
theorem dX8_meetNow_28 : decode cX8_meetNow 28 = .ok (.iinc 3 1, 3) := by decide +kernel
theorem dX8_meetNow_31 : decode cX8_meetNow 31 = .ok (.goto (-23), 3) := by decide +kernel
theorem dX8_meetNow_34 : decode cX8_meetNow 34 = .ok (.iconst (-1), 1) := by decide +kernel
theorem dX8_meetNow_35 : decode cX8_meetNow 35 = .ok (.istore_n 3, 1) := by decide +kernel
theorem dX8_meetNow_36 : decode cX8_meetNow 36 = .ok (.ldc 136, 2) := by decide +kernel
theorem dX8_meetNow_38 : decode cX8_meetNow 38 = .ok (.istore 4, 2) := by decide +kernel
theorem dX8_meetNow_40 : decode cX8_meetNow 40 = .ok (.iconst 0, 1) := by decide +kernel
theorem dX8_meetNow_41 : decode cX8_meetNow 41 = .ok (.istore 5, 2) := by decide +kernel
theorem dX8_meetNow_43 : decode cX8_meetNow 43 = .ok (.iload 5, 2) := by decide +kernel
theorem dX8_meetNow_45 : decode cX8_meetNow 45 = .ok (.aload_n 0, 1) := by decide +kernel
theorem dX8_meetNow_46 : decode cX8_meetNow 46 = .ok (.getfield 120, 3) := by decide +kernel
theorem dX8_meetNow_49 : decode cX8_meetNow 49 = .ok (.if_icmp .ge 62, 3) := by decide +kernel
theorem dX8_meetNow_52 : decode cX8_meetNow 52 = .ok (.aload_n 0, 1) := by decide +kernel
theorem dX8_meetNow_53 : decode cX8_meetNow 53 = .ok (.iload 5, 2) := by decide +kernel
theorem dX8_meetNow_55 : decode cX8_meetNow 55 = .ok (.iconst 0, 1) := by decide +kernel
theorem dX8_meetNow_56 : decode cX8_meetNow 56 = .ok (.invokevirtual 208, 3) := by decide +kernel
theorem dX8_meetNow_59 : decode cX8_meetNow 59 = .ok (.aload_n 0, 1) := by decide +kernel
theorem dX8_meetNow_60 : decode cX8_meetNow 60 = .ok (.getfield 80, 3) := by decide +kernel
theorem dX8_meetNow_63 : decode cX8_meetNow 63 = .ok (.iload 5, 2) := by decide +kernel
theorem dX8_meetNow_65 : decode cX8_meetNow 65 = .ok (.iaload, 1) := by decide +kernel
theorem dX8_meetNow_66 : decode cX8_meetNow 66 = .ok (.aload_n 0, 1) := by decide +kernel
theorem dX8_meetNow_67 : decode cX8_meetNow 67 = .ok (.getfield 77, 3) := by decide +kernel
theorem dX8_meetNow_70 : decode cX8_meetNow 70 = .ok (.iload_n 2, 1) := by decide +kernel
theorem dX8_meetNow_71 : decode cX8_meetNow 71 = .ok (.iaload, 1) := by decide +kernel
theorem dX8_meetNow_72 : decode cX8_meetNow 72 = .ok (.iadd, 1) := by decide +kernel
theorem dX8_meetNow_73 : decode cX8_meetNow 73 = .ok (.istore 6, 2) := by decide +kernel
theorem dX8_meetNow_75 : decode cX8_meetNow 75 = .ok (.iload 6, 2) := by decide +kernel
theorem dX8_meetNow_77 : decode cX8_meetNow 77 = .ok (.iload 4, 2) := by decide +kernel
theorem dX8_meetNow_79 : decode cX8_meetNow 79 = .ok (.if_icmp .ge 8, 3) := by decide +kernel
theorem dX8_meetNow_82 : decode cX8_meetNow 82 = .ok (.iload 5, 2) := by decide +kernel
theorem dX8_meetNow_84 : decode cX8_meetNow 84 = .ok (.goto 4, 3) := by decide +kernel
theorem dX8_meetNow_87 : decode cX8_meetNow 87 = .ok (.iload_n 3, 1) := by decide +kernel
theorem dX8_meetNow_88 : decode cX8_meetNow 88 = .ok (.istore_n 3, 1) := by decide +kernel
theorem dX8_meetNow_89 : decode cX8_meetNow 89 = .ok (.iload 6, 2) := by decide +kernel
theorem dX8_meetNow_91 : decode cX8_meetNow 91 = .ok (.iload 4, 2) := by decide +kernel
theorem dX8_meetNow_93 : decode cX8_meetNow 93 = .ok (.if_icmp .ge 8, 3) := by decide +kernel
theorem dX8_meetNow_96 : decode cX8_meetNow 96 = .ok (.iload 6, 2) := by decide +kernel
theorem dX8_meetNow_98 : decode cX8_meetNow 98 = .ok (.goto 5, 3) := by decide +kernel
theorem dX8_meetNow_101 : decode cX8_meetNow 101 = .ok (.iload 4, 2) := by decide +kernel
theorem dX8_meetNow_103 : decode cX8_meetNow 103 = .ok (.istore 4, 2) := by decide +kernel
theorem dX8_meetNow_105 : decode cX8_meetNow 105 = .ok (.iinc 5 1, 3) := by decide +kernel
theorem dX8_meetNow_108 : decode cX8_meetNow 108 = .ok (.goto (-65), 3) := by decide +kernel
theorem dX8_meetNow_111 : decode cX8_meetNow 111 = .ok (.iload_n 3, 1) := by decide +kernel
theorem dX8_meetNow_112 : decode cX8_meetNow 112 = .ok (.ireturn, 1) := by decide +kernel
theorem dX8_meet_0 : decode cX8_meet 0 = .ok (.aload_n 0, 1) := by decide +kernel
theorem dX8_meet_1 : decode cX8_meet 1 = .ok (.iload_n 1, 1) := by decide +kernel
theorem dX8_meet_2 : decode cX8_meet 2 = .ok (.iload_n 2, 1) := by decide +kernel
theorem dX8_meet_3 : decode cX8_meet 3 = .ok (.invokevirtual 180, 3) := by decide +kernel
theorem dX8_meet_6 : decode cX8_meet 6 = .ok (.ifCond .eq 12, 3) := by decide +kernel
theorem dX8_meet_9 : decode cX8_meet 9 = .ok (.aload_n 0, 1) := by decide +kernel
theorem dX8_meet_10 : decode cX8_meet 10 = .ok (.iload_n 1, 1) := by decide +kernel
theorem dX8_meet_11 : decode cX8_meet 11 = .ok (.iload_n 2, 1) := by decide +kernel
theorem dX8_meet_12 : decode cX8_meet 12 = .ok (.invokevirtual 216, 3) := by decide +kernel
theorem dX8_meet_15 : decode cX8_meet 15 = .ok (.goto 5, 3) := by decide +kernel
theorem dX8_meet_18 : decode cX8_meet 18 = .ok (.bipush (-101), 2) := by decide +kernel
theorem dX8_meet_20 : decode cX8_meet 20 = .ok (.ireturn, 1) := by decide +kernel
theorem dX8_layTried_0 : decode cX8_layTried 0 = .ok (.iconst 0, 1) := by decide +kernel
theorem dX8_layTried_1 : decode cX8_layTried 1 = .ok (.istore_n 2, 1) := by decide +kernel
theorem dX8_layTried_2 : decode cX8_layTried 2 = .ok (.iload_n 2, 1) := by decide +kernel
theorem dX8_layTried_3 : decode cX8_layTried 3 = .ok (.aload_n 0, 1) := by decide +kernel
theorem dX8_layTried_4 : decode cX8_layTried 4 = .ok (.getfield 120, 3) := by decide +kernel
theorem dX8_layTried_7 : decode cX8_layTried 7 = .ok (.if_icmp .ge 99, 3) := by decide +kernel
theorem dX8_layTried_10 : decode cX8_layTried 10 = .ok (.iconst 0, 1) := by decide +kernel
theorem dX8_layTried_11 : decode cX8_layTried 11 = .ok (.istore_n 3, 1) := by decide +kernel
theorem dX8_layTried_12 : decode cX8_layTried 12 = .ok (.iload_n 3, 1) := by decide +kernel
theorem dX8_layTried_13 : decode cX8_layTried 13 = .ok (.aload_n 0, 1) := by decide +kernel
theorem dX8_layTried_14 : decode cX8_layTried 14 = .ok (.getfield 120, 3) := by decide +kernel
theorem dX8_layTried_17 : decode cX8_layTried 17 = .ok (.if_icmp .ge 83, 3) := by decide +kernel
theorem dX8_layTried_20 : decode cX8_layTried 20 = .ok (.aload_n 0, 1) := by decide +kernel
theorem dX8_layTried_21 : decode cX8_layTried 21 = .ok (.iload_n 2, 1) := by decide +kernel
theorem dX8_layTried_22 : decode cX8_layTried 22 = .ok (.iload_n 3, 1) := by decide +kernel
theorem dX8_layTried_23 : decode cX8_layTried 23 = .ok (.invokevirtual 132, 3) := by decide +kernel
theorem dX8_layTried_26 : decode cX8_layTried 26 = .ok (.ifCond .eq 17, 3) := by decide +kernel
theorem dX8_layTried_29 : decode cX8_layTried 29 = .ok (.iload_n 2, 1) := by decide +kernel
theorem dX8_layTried_30 : decode cX8_layTried 30 = .ok (.iload_n 1, 1) := by decide +kernel
theorem dX8_layTried_31 : decode cX8_layTried 31 = .ok (.if_icmp .eq 12, 3) := by decide +kernel
theorem dX8_layTried_34 : decode cX8_layTried 34 = .ok (.iload_n 3, 1) := by decide +kernel
theorem dX8_layTried_35 : decode cX8_layTried 35 = .ok (.iload_n 1, 1) := by decide +kernel
theorem dX8_layTried_36 : decode cX8_layTried 36 = .ok (.if_icmp .eq 7, 3) := by decide +kernel
theorem dX8_layTried_39 : decode cX8_layTried 39 = .ok (.iconst 1, 1) := by decide +kernel
theorem dX8_layTried_40 : decode cX8_layTried 40 = .ok (.goto 4, 3) := by decide +kernel
theorem dX8_layTried_43 : decode cX8_layTried 43 = .ok (.iconst 0, 1) := by decide +kernel
theorem dX8_layTried_44 : decode cX8_layTried 44 = .ok (.istore 4, 2) := by decide +kernel
theorem dX8_layTried_46 : decode cX8_layTried 46 = .ok (.aload_n 0, 1) := by decide +kernel
theorem dX8_layTried_47 : decode cX8_layTried 47 = .ok (.getfield 83, 3) := by decide +kernel
theorem dX8_layTried_50 : decode cX8_layTried 50 = .ok (.bipush 12, 2) := by decide +kernel
theorem dX8_layTried_52 : decode cX8_layTried 52 = .ok (.iload_n 2, 1) := by decide +kernel
theorem dX8_layTried_53 : decode cX8_layTried 53 = .ok (.imul, 1) := by decide +kernel
theorem dX8_layTried_54 : decode cX8_layTried 54 = .ok (.iload_n 3, 1) := by decide +kernel
theorem dX8_layTried_55 : decode cX8_layTried 55 = .ok (.iadd, 1) := by decide +kernel
theorem dX8_layTried_56 : decode cX8_layTried 56 = .ok (.iload_n 2, 1) := by decide +kernel
theorem dX8_layTried_57 : decode cX8_layTried 57 = .ok (.iload_n 3, 1) := by decide +kernel
theorem dX8_layTried_58 : decode cX8_layTried 58 = .ok (.if_icmp .ne 7, 3) := by decide +kernel
theorem dX8_layTried_61 : decode cX8_layTried 61 = .ok (.iconst 0, 1) := by decide +kernel
theorem dX8_layTried_62 : decode cX8_layTried 62 = .ok (.goto 31, 3) := by decide +kernel
theorem dX8_layTried_65 : decode cX8_layTried 65 = .ok (.iload 4, 2) := by decide +kernel
theorem dX8_layTried_67 : decode cX8_layTried 67 = .ok (.ifCond .eq 24, 3) := by decide +kernel
theorem dX8_layTried_70 : decode cX8_layTried 70 = .ok (.aload_n 0, 1) := by decide +kernel
theorem dX8_layTried_71 : decode cX8_layTried 71 = .ok (.getfield 22, 3) := by decide +kernel
theorem dX8_layTried_74 : decode cX8_layTried 74 = .ok (.bipush 12, 2) := by decide +kernel
theorem dX8_layTried_76 : decode cX8_layTried 76 = .ok (.iload_n 2, 1) := by decide +kernel
theorem dX8_layTried_77 : decode cX8_layTried 77 = .ok (.imul, 1) := by decide +kernel
theorem dX8_layTried_78 : decode cX8_layTried 78 = .ok (.iload_n 3, 1) := by decide +kernel
theorem dX8_layTried_79 : decode cX8_layTried 79 = .ok (.iadd, 1) := by decide +kernel
theorem dX8_layTried_80 : decode cX8_layTried 80 = .ok (.iaload, 1) := by decide +kernel
theorem dX8_layTried_81 : decode cX8_layTried 81 = .ok (.aload_n 0, 1) := by decide +kernel
theorem dX8_layTried_82 : decode cX8_layTried 82 = .ok (.getfield 19, 3) := by decide +kernel
theorem dX8_layTried_85 : decode cX8_layTried 85 = .ok (.iload_n 3, 1) := by decide +kernel
theorem dX8_layTried_86 : decode cX8_layTried 86 = .ok (.iaload, 1) := by decide +kernel
theorem dX8_layTried_87 : decode cX8_layTried 87 = .ok (.iadd, 1) := by decide +kernel
theorem dX8_layTried_88 : decode cX8_layTried 88 = .ok (.goto 5, 3) := by decide +kernel
theorem dX8_layTried_91 : decode cX8_layTried 91 = .ok (.ldc 136, 2) := by decide +kernel
theorem dX8_layTried_93 : decode cX8_layTried 93 = .ok (.iastore, 1) := by decide +kernel
theorem dX8_layTried_94 : decode cX8_layTried 94 = .ok (.iinc 3 1, 3) := by decide +kernel
theorem dX8_layTried_97 : decode cX8_layTried 97 = .ok (.goto (-85), 3) := by decide +kernel
theorem dX8_layTried_100 : decode cX8_layTried 100 = .ok (.iinc 2 1, 3) := by decide +kernel
theorem dX8_layTried_103 : decode cX8_layTried 103 = .ok (.goto (-101), 3) := by decide +kernel
theorem dX8_layTried_106 : decode cX8_layTried 106 = .ok (.iconst 0, 1) := by decide +kernel
theorem dX8_layTried_107 : decode cX8_layTried 107 = .ok (.istore_n 2, 1) := by decide +kernel
theorem dX8_layTried_108 : decode cX8_layTried 108 = .ok (.iload_n 2, 1) := by decide +kernel
theorem dX8_layTried_109 : decode cX8_layTried 109 = .ok (.aload_n 0, 1) := by decide +kernel
theorem dX8_layTried_110 : decode cX8_layTried 110 = .ok (.getfield 120, 3) := by decide +kernel
theorem dX8_layTried_113 : decode cX8_layTried 113 = .ok (.if_icmp .ge 115, 3) := by decide +kernel
theorem dX8_layTried_116 : decode cX8_layTried 116 = .ok (.iconst 0, 1) := by decide +kernel
theorem dX8_layTried_117 : decode cX8_layTried 117 = .ok (.istore_n 3, 1) := by decide +kernel
theorem dX8_layTried_118 : decode cX8_layTried 118 = .ok (.iload_n 3, 1) := by decide +kernel
theorem dX8_layTried_119 : decode cX8_layTried 119 = .ok (.aload_n 0, 1) := by decide +kernel
theorem dX8_layTried_120 : decode cX8_layTried 120 = .ok (.getfield 120, 3) := by decide +kernel
theorem dX8_layTried_123 : decode cX8_layTried 123 = .ok (.if_icmp .ge 99, 3) := by decide +kernel
theorem dX8_layTried_126 : decode cX8_layTried 126 = .ok (.iconst 0, 1) := by decide +kernel
theorem dX8_layTried_127 : decode cX8_layTried 127 = .ok (.istore 4, 2) := by decide +kernel
theorem dX8_layTried_129 : decode cX8_layTried 129 = .ok (.iload 4, 2) := by decide +kernel
theorem dX8_layTried_131 : decode cX8_layTried 131 = .ok (.aload_n 0, 1) := by decide +kernel
theorem dX8_layTried_132 : decode cX8_layTried 132 = .ok (.getfield 120, 3) := by decide +kernel
theorem dX8_layTried_135 : decode cX8_layTried 135 = .ok (.if_icmp .ge 81, 3) := by decide +kernel
theorem dX8_layTried_138 : decode cX8_layTried 138 = .ok (.aload_n 0, 1) := by decide +kernel
theorem dX8_layTried_139 : decode cX8_layTried 139 = .ok (.getfield 83, 3) := by decide +kernel
theorem dX8_layTried_142 : decode cX8_layTried 142 = .ok (.bipush 12, 2) := by decide +kernel
theorem dX8_layTried_144 : decode cX8_layTried 144 = .ok (.iload_n 3, 1) := by decide +kernel
theorem dX8_layTried_145 : decode cX8_layTried 145 = .ok (.imul, 1) := by decide +kernel
theorem dX8_layTried_146 : decode cX8_layTried 146 = .ok (.iload_n 2, 1) := by decide +kernel
theorem dX8_layTried_147 : decode cX8_layTried 147 = .ok (.iadd, 1) := by decide +kernel
theorem dX8_layTried_148 : decode cX8_layTried 148 = .ok (.iaload, 1) := by decide +kernel
theorem dX8_layTried_149 : decode cX8_layTried 149 = .ok (.aload_n 0, 1) := by decide +kernel
theorem dX8_layTried_150 : decode cX8_layTried 150 = .ok (.getfield 83, 3) := by decide +kernel
theorem dX8_layTried_153 : decode cX8_layTried 153 = .ok (.bipush 12, 2) := by decide +kernel
theorem dX8_layTried_155 : decode cX8_layTried 155 = .ok (.iload_n 2, 1) := by decide +kernel
theorem dX8_layTried_156 : decode cX8_layTried 156 = .ok (.imul, 1) := by decide +kernel
theorem dX8_layTried_157 : decode cX8_layTried 157 = .ok (.iload 4, 2) := by decide +kernel
theorem dX8_layTried_159 : decode cX8_layTried 159 = .ok (.iadd, 1) := by decide +kernel
theorem dX8_layTried_160 : decode cX8_layTried 160 = .ok (.iaload, 1) := by decide +kernel
theorem dX8_layTried_161 : decode cX8_layTried 161 = .ok (.iadd, 1) := by decide +kernel
theorem dX8_layTried_162 : decode cX8_layTried 162 = .ok (.istore 5, 2) := by decide +kernel
theorem dX8_layTried_164 : decode cX8_layTried 164 = .ok (.aload_n 0, 1) := by decide +kernel
theorem dX8_layTried_165 : decode cX8_layTried 165 = .ok (.getfield 83, 3) := by decide +kernel
theorem dX8_layTried_168 : decode cX8_layTried 168 = .ok (.bipush 12, 2) := by decide +kernel
theorem dX8_layTried_170 : decode cX8_layTried 170 = .ok (.iload_n 3, 1) := by decide +kernel
theorem dX8_layTried_171 : decode cX8_layTried 171 = .ok (.imul, 1) := by decide +kernel
theorem dX8_layTried_172 : decode cX8_layTried 172 = .ok (.iload 4, 2) := by decide +kernel
theorem dX8_layTried_174 : decode cX8_layTried 174 = .ok (.iadd, 1) := by decide +kernel
theorem dX8_layTried_175 : decode cX8_layTried 175 = .ok (.iload 5, 2) := by decide +kernel
theorem dX8_layTried_177 : decode cX8_layTried 177 = .ok (.aload_n 0, 1) := by decide +kernel
theorem dX8_layTried_178 : decode cX8_layTried 178 = .ok (.getfield 83, 3) := by decide +kernel
theorem dX8_layTried_181 : decode cX8_layTried 181 = .ok (.bipush 12, 2) := by decide +kernel
theorem dX8_layTried_183 : decode cX8_layTried 183 = .ok (.iload_n 3, 1) := by decide +kernel
theorem dX8_layTried_184 : decode cX8_layTried 184 = .ok (.imul, 1) := by decide +kernel
theorem dX8_layTried_185 : decode cX8_layTried 185 = .ok (.iload 4, 2) := by decide +kernel
theorem dX8_layTried_187 : decode cX8_layTried 187 = .ok (.iadd, 1) := by decide +kernel
theorem dX8_layTried_188 : decode cX8_layTried 188 = .ok (.iaload, 1) := by decide +kernel
theorem dX8_layTried_189 : decode cX8_layTried 189 = .ok (.if_icmp .ge 8, 3) := by decide +kernel
theorem dX8_layTried_192 : decode cX8_layTried 192 = .ok (.iload 5, 2) := by decide +kernel
theorem dX8_layTried_194 : decode cX8_layTried 194 = .ok (.goto 15, 3) := by decide +kernel
theorem dX8_layTried_197 : decode cX8_layTried 197 = .ok (.aload_n 0, 1) := by decide +kernel
theorem dX8_layTried_198 : decode cX8_layTried 198 = .ok (.getfield 83, 3) := by decide +kernel
theorem dX8_layTried_201 : decode cX8_layTried 201 = .ok (.bipush 12, 2) := by decide +kernel
theorem dX8_layTried_203 : decode cX8_layTried 203 = .ok (.iload_n 3, 1) := by decide +kernel
theorem dX8_layTried_204 : decode cX8_layTried 204 = .ok (.imul, 1) := by decide +kernel
theorem dX8_layTried_205 : decode cX8_layTried 205 = .ok (.iload 4, 2) := by decide +kernel
theorem dX8_layTried_207 : decode cX8_layTried 207 = .ok (.iadd, 1) := by decide +kernel
theorem dX8_layTried_208 : decode cX8_layTried 208 = .ok (.iaload, 1) := by decide +kernel
theorem dX8_layTried_209 : decode cX8_layTried 209 = .ok (.iastore, 1) := by decide +kernel
theorem dX8_layTried_210 : decode cX8_layTried 210 = .ok (.iinc 4 1, 3) := by decide +kernel
theorem dX8_layTried_213 : decode cX8_layTried 213 = .ok (.goto (-84), 3) := by decide +kernel
theorem dX8_layTried_216 : decode cX8_layTried 216 = .ok (.iinc 3 1, 3) := by decide +kernel
theorem dX8_layTried_219 : decode cX8_layTried 219 = .ok (.goto (-101), 3) := by decide +kernel
theorem dX8_layTried_222 : decode cX8_layTried 222 = .ok (.iinc 2 1, 3) := by decide +kernel
theorem dX8_layTried_225 : decode cX8_layTried 225 = .ok (.goto (-117), 3) := by decide +kernel
theorem dX8_layTried_228 : decode cX8_layTried 228 = .ok (.return_, 1) := by decide +kernel
theorem dX8_routeBy_0 : decode cX8_routeBy 0 = .ok (.ldc 136, 2) := by decide +kernel
theorem dX8_routeBy_2 : decode cX8_routeBy 2 = .ok (.istore 4, 2) := by decide +kernel
theorem dX8_routeBy_4 : decode cX8_routeBy 4 = .ok (.iconst 0, 1) := by decide +kernel
theorem dX8_routeBy_5 : decode cX8_routeBy 5 = .ok (.istore 5, 2) := by decide +kernel
theorem dX8_routeBy_7 : decode cX8_routeBy 7 = .ok (.iload 5, 2) := by decide +kernel
theorem dX8_routeBy_9 : decode cX8_routeBy 9 = .ok (.aload_n 0, 1) := by decide +kernel
theorem dX8_routeBy_10 : decode cX8_routeBy 10 = .ok (.getfield 120, 3) := by decide +kernel
theorem dX8_routeBy_13 : decode cX8_routeBy 13 = .ok (.if_icmp .ge 117, 3) := by decide +kernel
theorem dX8_routeBy_16 : decode cX8_routeBy 16 = .ok (.iconst 0, 1) := by decide +kernel
theorem dX8_routeBy_17 : decode cX8_routeBy 17 = .ok (.istore 6, 2) := by decide +kernel
theorem dX8_routeBy_19 : decode cX8_routeBy 19 = .ok (.iload 6, 2) := by decide +kernel
theorem dX8_routeBy_21 : decode cX8_routeBy 21 = .ok (.aload_n 0, 1) := by decide +kernel
theorem dX8_routeBy_22 : decode cX8_routeBy 22 = .ok (.getfield 120, 3) := by decide +kernel
theorem dX8_routeBy_25 : decode cX8_routeBy 25 = .ok (.if_icmp .ge 99, 3) := by decide +kernel
theorem dX8_routeBy_28 : decode cX8_routeBy 28 = .ok (.aload_n 0, 1) := by decide +kernel
theorem dX8_routeBy_29 : decode cX8_routeBy 29 = .ok (.getfield 13, 3) := by decide +kernel
theorem dX8_routeBy_32 : decode cX8_routeBy 32 = .ok (.iload 5, 2) := by decide +kernel
theorem dX8_routeBy_34 : decode cX8_routeBy 34 = .ok (.iaload, 1) := by decide +kernel
theorem dX8_routeBy_35 : decode cX8_routeBy 35 = .ok (.iload_n 1, 1) := by decide +kernel
theorem dX8_routeBy_36 : decode cX8_routeBy 36 = .ok (.if_icmp .ne 30, 3) := by decide +kernel
theorem dX8_routeBy_39 : decode cX8_routeBy 39 = .ok (.aload_n 0, 1) := by decide +kernel
theorem dX8_routeBy_40 : decode cX8_routeBy 40 = .ok (.getfield 16, 3) := by decide +kernel
theorem dX8_routeBy_43 : decode cX8_routeBy 43 = .ok (.iload 6, 2) := by decide +kernel
theorem dX8_routeBy_45 : decode cX8_routeBy 45 = .ok (.iaload, 1) := by decide +kernel
theorem dX8_routeBy_46 : decode cX8_routeBy 46 = .ok (.iload_n 2, 1) := by decide +kernel
theorem dX8_routeBy_47 : decode cX8_routeBy 47 = .ok (.if_icmp .ne 19, 3) := by decide +kernel
theorem dX8_routeBy_50 : decode cX8_routeBy 50 = .ok (.iload 5, 2) := by decide +kernel
theorem dX8_routeBy_52 : decode cX8_routeBy 52 = .ok (.iload_n 3, 1) := by decide +kernel
theorem dX8_routeBy_53 : decode cX8_routeBy 53 = .ok (.if_icmp .eq 13, 3) := by decide +kernel
theorem dX8_routeBy_56 : decode cX8_routeBy 56 = .ok (.iload 6, 2) := by decide +kernel
theorem dX8_routeBy_58 : decode cX8_routeBy 58 = .ok (.iload_n 3, 1) := by decide +kernel
theorem dX8_routeBy_59 : decode cX8_routeBy 59 = .ok (.if_icmp .eq 7, 3) := by decide +kernel
theorem dX8_routeBy_62 : decode cX8_routeBy 62 = .ok (.iconst 1, 1) := by decide +kernel
theorem dX8_routeBy_63 : decode cX8_routeBy 63 = .ok (.goto 4, 3) := by decide +kernel
theorem dX8_routeBy_66 : decode cX8_routeBy 66 = .ok (.iconst 0, 1) := by decide +kernel
theorem dX8_routeBy_67 : decode cX8_routeBy 67 = .ok (.istore 7, 2) := by decide +kernel
theorem dX8_routeBy_69 : decode cX8_routeBy 69 = .ok (.iload 7, 2) := by decide +kernel
theorem dX8_routeBy_71 : decode cX8_routeBy 71 = .ok (.ifCond .eq 27, 3) := by decide +kernel
theorem dX8_routeBy_74 : decode cX8_routeBy 74 = .ok (.aload_n 0, 1) := by decide +kernel
theorem dX8_routeBy_75 : decode cX8_routeBy 75 = .ok (.getfield 19, 3) := by decide +kernel
theorem dX8_routeBy_78 : decode cX8_routeBy 78 = .ok (.iload 5, 2) := by decide +kernel
theorem dX8_routeBy_80 : decode cX8_routeBy 80 = .ok (.iaload, 1) := by decide +kernel
theorem dX8_routeBy_81 : decode cX8_routeBy 81 = .ok (.aload_n 0, 1) := by decide +kernel
theorem dX8_routeBy_82 : decode cX8_routeBy 82 = .ok (.getfield 83, 3) := by decide +kernel
theorem dX8_routeBy_85 : decode cX8_routeBy 85 = .ok (.bipush 12, 2) := by decide +kernel
theorem dX8_routeBy_87 : decode cX8_routeBy 87 = .ok (.iload 5, 2) := by decide +kernel
theorem dX8_routeBy_89 : decode cX8_routeBy 89 = .ok (.imul, 1) := by decide +kernel
theorem dX8_routeBy_90 : decode cX8_routeBy 90 = .ok (.iload 6, 2) := by decide +kernel
theorem dX8_routeBy_92 : decode cX8_routeBy 92 = .ok (.iadd, 1) := by decide +kernel
theorem dX8_routeBy_93 : decode cX8_routeBy 93 = .ok (.iaload, 1) := by decide +kernel
theorem dX8_routeBy_94 : decode cX8_routeBy 94 = .ok (.iadd, 1) := by decide +kernel
theorem dX8_routeBy_95 : decode cX8_routeBy 95 = .ok (.goto 5, 3) := by decide +kernel
theorem dX8_routeBy_98 : decode cX8_routeBy 98 = .ok (.ldc 136, 2) := by decide +kernel
theorem dX8_routeBy_100 : decode cX8_routeBy 100 = .ok (.istore 8, 2) := by decide +kernel
theorem dX8_routeBy_102 : decode cX8_routeBy 102 = .ok (.iload 8, 2) := by decide +kernel
theorem dX8_routeBy_104 : decode cX8_routeBy 104 = .ok (.iload 4, 2) := by decide +kernel
theorem dX8_routeBy_106 : decode cX8_routeBy 106 = .ok (.if_icmp .ge 8, 3) := by decide +kernel
theorem dX8_routeBy_109 : decode cX8_routeBy 109 = .ok (.iload 8, 2) := by decide +kernel
theorem dX8_routeBy_111 : decode cX8_routeBy 111 = .ok (.goto 5, 3) := by decide +kernel
theorem dX8_routeBy_114 : decode cX8_routeBy 114 = .ok (.iload 4, 2) := by decide +kernel
theorem dX8_routeBy_116 : decode cX8_routeBy 116 = .ok (.istore 4, 2) := by decide +kernel
theorem dX8_routeBy_118 : decode cX8_routeBy 118 = .ok (.iinc 6 1, 3) := by decide +kernel
theorem dX8_routeBy_121 : decode cX8_routeBy 121 = .ok (.goto (-102), 3) := by decide +kernel
theorem dX8_routeBy_124 : decode cX8_routeBy 124 = .ok (.iinc 5 1, 3) := by decide +kernel
theorem dX8_routeBy_127 : decode cX8_routeBy 127 = .ok (.goto (-120), 3) := by decide +kernel
theorem dX8_routeBy_130 : decode cX8_routeBy 130 = .ok (.iload 4, 2) := by decide +kernel
theorem dX8_routeBy_132 : decode cX8_routeBy 132 = .ok (.ireturn, 1) := by decide +kernel
theorem dX8_routeNow_0 : decode cX8_routeNow 0 = .ok (.aload_n 0, 1) := by decide +kernel
theorem dX8_routeNow_1 : decode cX8_routeNow 1 = .ok (.iconst (-1), 1) := by decide +kernel
theorem dX8_routeNow_2 : decode cX8_routeNow 2 = .ok (.invokevirtual 219, 3) := by decide +kernel
theorem dX8_routeNow_5 : decode cX8_routeNow 5 = .ok (.aload_n 0, 1) := by decide +kernel
theorem dX8_routeNow_6 : decode cX8_routeNow 6 = .ok (.iload_n 1, 1) := by decide +kernel
theorem dX8_routeNow_7 : decode cX8_routeNow 7 = .ok (.iload_n 2, 1) := by decide +kernel
theorem dX8_routeNow_8 : decode cX8_routeNow 8 = .ok (.iconst (-1), 1) := by decide +kernel
theorem dX8_routeNow_9 : decode cX8_routeNow 9 = .ok (.invokevirtual 222, 3) := by decide +kernel
theorem dX8_routeNow_12 : decode cX8_routeNow 12 = .ok (.istore_n 3, 1) := by decide +kernel
theorem dX8_routeNow_13 : decode cX8_routeNow 13 = .ok (.iload_n 3, 1) := by decide +kernel
theorem dX8_routeNow_14 : decode cX8_routeNow 14 = .ok (.ldc 136, 2) := by decide +kernel
theorem dX8_routeNow_16 : decode cX8_routeNow 16 = .ok (.if_icmp .lt 7, 3) := by decide +kernel
theorem dX8_routeNow_19 : decode cX8_routeNow 19 = .ok (.iconst (-1), 1) := by decide +kernel
theorem dX8_routeNow_20 : decode cX8_routeNow 20 = .ok (.goto 4, 3) := by decide +kernel
theorem dX8_routeNow_23 : decode cX8_routeNow 23 = .ok (.iload_n 3, 1) := by decide +kernel
theorem dX8_routeNow_24 : decode cX8_routeNow 24 = .ok (.ireturn, 1) := by decide +kernel
theorem dX8_route_0 : decode cX8_route 0 = .ok (.iload_n 1, 1) := by decide +kernel
theorem dX8_route_1 : decode cX8_route 1 = .ok (.iconst 0, 1) := by decide +kernel
theorem dX8_route_2 : decode cX8_route 2 = .ok (.bipush 7, 2) := by decide +kernel
theorem dX8_route_4 : decode cX8_route 4 = .ok (.invokestatic 89, 3) := by decide +kernel
theorem dX8_route_7 : decode cX8_route 7 = .ok (.ifCond .eq 13, 3) := by decide +kernel
theorem dX8_route_10 : decode cX8_route 10 = .ok (.iload_n 2, 1) := by decide +kernel
theorem dX8_route_11 : decode cX8_route 11 = .ok (.iconst 0, 1) := by decide +kernel
theorem dX8_route_12 : decode cX8_route 12 = .ok (.bipush 7, 2) := by decide +kernel
theorem dX8_route_14 : decode cX8_route 14 = .ok (.invokestatic 89, 3) := by decide +kernel
theorem dX8_route_17 : decode cX8_route 17 = .ok (.ifCond .ne 6, 3) := by decide +kernel
theorem dX8_route_20 : decode cX8_route 20 = .ok (.bipush (-101), 2) := by decide +kernel
theorem dX8_route_22 : decode cX8_route 22 = .ok (.ireturn, 1) := by decide +kernel
theorem dX8_route_23 : decode cX8_route 23 = .ok (.iload_n 1, 1) := by decide +kernel
theorem dX8_route_24 : decode cX8_route 24 = .ok (.iload_n 2, 1) := by decide +kernel
theorem dX8_route_25 : decode cX8_route 25 = .ok (.if_icmp .ne 8, 3) := by decide +kernel
theorem dX8_route_28 : decode cX8_route 28 = .ok (.bipush (-103), 2) := by decide +kernel
theorem dX8_route_30 : decode cX8_route 30 = .ok (.goto 9, 3) := by decide +kernel
theorem dX8_route_33 : decode cX8_route 33 = .ok (.aload_n 0, 1) := by decide +kernel
theorem dX8_route_34 : decode cX8_route 34 = .ok (.iload_n 1, 1) := by decide +kernel
theorem dX8_route_35 : decode cX8_route 35 = .ok (.iload_n 2, 1) := by decide +kernel
theorem dX8_route_36 : decode cX8_route 36 = .ok (.invokevirtual 225, 3) := by decide +kernel
theorem dX8_route_39 : decode cX8_route 39 = .ok (.ireturn, 1) := by decide +kernel
theorem dX8_layRoutes_0 : decode cX8_layRoutes 0 = .ok (.aload_n 0, 1) := by decide +kernel
theorem dX8_layRoutes_1 : decode cX8_layRoutes 1 = .ok (.iconst (-1), 1) := by decide +kernel
theorem dX8_layRoutes_2 : decode cX8_layRoutes 2 = .ok (.invokevirtual 219, 3) := by decide +kernel
theorem dX8_layRoutes_5 : decode cX8_layRoutes 5 = .ok (.aload_n 0, 1) := by decide +kernel
theorem dX8_layRoutes_6 : decode cX8_layRoutes 6 = .ok (.iconst 0, 1) := by decide +kernel
theorem dX8_layRoutes_7 : decode cX8_layRoutes 7 = .ok (.putfield 228, 3) := by decide +kernel
theorem dX8_layRoutes_10 : decode cX8_layRoutes 10 = .ok (.aload_n 0, 1) := by decide +kernel
theorem dX8_layRoutes_11 : decode cX8_layRoutes 11 = .ok (.iconst 0, 1) := by decide +kernel
theorem dX8_layRoutes_12 : decode cX8_layRoutes 12 = .ok (.putfield 231, 3) := by decide +kernel
theorem dX8_layRoutes_15 : decode cX8_layRoutes 15 = .ok (.iconst 0, 1) := by decide +kernel
theorem dX8_layRoutes_16 : decode cX8_layRoutes 16 = .ok (.istore_n 1, 1) := by decide +kernel
theorem dX8_layRoutes_17 : decode cX8_layRoutes 17 = .ok (.iload_n 1, 1) := by decide +kernel
theorem dX8_layRoutes_18 : decode cX8_layRoutes 18 = .ok (.bipush 64, 2) := by decide +kernel
theorem dX8_layRoutes_20 : decode cX8_layRoutes 20 = .ok (.if_icmp .ge 99, 3) := by decide +kernel
theorem dX8_layRoutes_23 : decode cX8_layRoutes 23 = .ok (.aload_n 0, 1) := by decide +kernel
theorem dX8_layRoutes_24 : decode cX8_layRoutes 24 = .ok (.getfield 86, 3) := by decide +kernel
theorem dX8_layRoutes_27 : decode cX8_layRoutes 27 = .ok (.iload_n 1, 1) := by decide +kernel
theorem dX8_layRoutes_28 : decode cX8_layRoutes 28 = .ok (.iload_n 1, 1) := by decide +kernel
theorem dX8_layRoutes_29 : decode cX8_layRoutes 29 = .ok (.bipush 8, 2) := by decide +kernel
theorem dX8_layRoutes_31 : decode cX8_layRoutes 31 = .ok (.idiv, 1) := by decide +kernel
theorem dX8_layRoutes_32 : decode cX8_layRoutes 32 = .ok (.iload_n 1, 1) := by decide +kernel
theorem dX8_layRoutes_33 : decode cX8_layRoutes 33 = .ok (.bipush 8, 2) := by decide +kernel
theorem dX8_layRoutes_35 : decode cX8_layRoutes 35 = .ok (.irem, 1) := by decide +kernel
theorem dX8_layRoutes_36 : decode cX8_layRoutes 36 = .ok (.if_icmp .ne 8, 3) := by decide +kernel
theorem dX8_layRoutes_39 : decode cX8_layRoutes 39 = .ok (.ldc 136, 2) := by decide +kernel
theorem dX8_layRoutes_41 : decode cX8_layRoutes 41 = .ok (.goto 16, 3) := by decide +kernel
theorem dX8_layRoutes_44 : decode cX8_layRoutes 44 = .ok (.aload_n 0, 1) := by decide +kernel
theorem dX8_layRoutes_45 : decode cX8_layRoutes 45 = .ok (.iload_n 1, 1) := by decide +kernel
theorem dX8_layRoutes_46 : decode cX8_layRoutes 46 = .ok (.bipush 8, 2) := by decide +kernel
theorem dX8_layRoutes_48 : decode cX8_layRoutes 48 = .ok (.idiv, 1) := by decide +kernel
theorem dX8_layRoutes_49 : decode cX8_layRoutes 49 = .ok (.iload_n 1, 1) := by decide +kernel
theorem dX8_layRoutes_50 : decode cX8_layRoutes 50 = .ok (.bipush 8, 2) := by decide +kernel
theorem dX8_layRoutes_52 : decode cX8_layRoutes 52 = .ok (.irem, 1) := by decide +kernel
theorem dX8_layRoutes_53 : decode cX8_layRoutes 53 = .ok (.iconst (-1), 1) := by decide +kernel
theorem dX8_layRoutes_54 : decode cX8_layRoutes 54 = .ok (.invokevirtual 222, 3) := by decide +kernel
theorem dX8_layRoutes_57 : decode cX8_layRoutes 57 = .ok (.iastore, 1) := by decide +kernel
theorem dX8_layRoutes_58 : decode cX8_layRoutes 58 = .ok (.aload_n 0, 1) := by decide +kernel
theorem dX8_layRoutes_59 : decode cX8_layRoutes 59 = .ok (.dup, 1) := by decide +kernel
theorem dX8_layRoutes_60 : decode cX8_layRoutes 60 = .ok (.getfield 228, 3) := by decide +kernel
theorem dX8_layRoutes_63 : decode cX8_layRoutes 63 = .ok (.aload_n 0, 1) := by decide +kernel
theorem dX8_layRoutes_64 : decode cX8_layRoutes 64 = .ok (.getfield 86, 3) := by decide +kernel
theorem dX8_layRoutes_67 : decode cX8_layRoutes 67 = .ok (.iload_n 1, 1) := by decide +kernel
theorem dX8_layRoutes_68 : decode cX8_layRoutes 68 = .ok (.iaload, 1) := by decide +kernel
theorem dX8_layRoutes_69 : decode cX8_layRoutes 69 = .ok (.ldc 136, 2) := by decide +kernel
theorem dX8_layRoutes_71 : decode cX8_layRoutes 71 = .ok (.if_icmp .ge 7, 3) := by decide +kernel
theorem dX8_layRoutes_74 : decode cX8_layRoutes 74 = .ok (.iconst 1, 1) := by decide +kernel
theorem dX8_layRoutes_75 : decode cX8_layRoutes 75 = .ok (.goto 4, 3) := by decide +kernel
theorem dX8_layRoutes_78 : decode cX8_layRoutes 78 = .ok (.iconst 0, 1) := by decide +kernel
theorem dX8_layRoutes_79 : decode cX8_layRoutes 79 = .ok (.iadd, 1) := by decide +kernel
theorem dX8_layRoutes_80 : decode cX8_layRoutes 80 = .ok (.putfield 228, 3) := by decide +kernel
theorem dX8_layRoutes_83 : decode cX8_layRoutes 83 = .ok (.aload_n 0, 1) := by decide +kernel
theorem dX8_layRoutes_84 : decode cX8_layRoutes 84 = .ok (.dup, 1) := by decide +kernel
theorem dX8_layRoutes_85 : decode cX8_layRoutes 85 = .ok (.getfield 231, 3) := by decide +kernel
theorem dX8_layRoutes_88 : decode cX8_layRoutes 88 = .ok (.aload_n 0, 1) := by decide +kernel
theorem dX8_layRoutes_89 : decode cX8_layRoutes 89 = .ok (.getfield 86, 3) := by decide +kernel
theorem dX8_layRoutes_92 : decode cX8_layRoutes 92 = .ok (.iload_n 1, 1) := by decide +kernel
theorem dX8_layRoutes_93 : decode cX8_layRoutes 93 = .ok (.iaload, 1) := by decide +kernel
theorem dX8_layRoutes_94 : decode cX8_layRoutes 94 = .ok (.ldc 136, 2) := by decide +kernel
theorem dX8_layRoutes_96 : decode cX8_layRoutes 96 = .ok (.if_icmp .ge 12, 3) := by decide +kernel
theorem dX8_layRoutes_99 : decode cX8_layRoutes 99 = .ok (.aload_n 0, 1) := by decide +kernel
theorem dX8_layRoutes_100 : decode cX8_layRoutes 100 = .ok (.getfield 86, 3) := by decide +kernel
theorem dX8_layRoutes_103 : decode cX8_layRoutes 103 = .ok (.iload_n 1, 1) := by decide +kernel
theorem dX8_layRoutes_104 : decode cX8_layRoutes 104 = .ok (.iaload, 1) := by decide +kernel
theorem dX8_layRoutes_105 : decode cX8_layRoutes 105 = .ok (.goto 4, 3) := by decide +kernel
theorem dX8_layRoutes_108 : decode cX8_layRoutes 108 = .ok (.iconst 0, 1) := by decide +kernel
theorem dX8_layRoutes_109 : decode cX8_layRoutes 109 = .ok (.iadd, 1) := by decide +kernel
theorem dX8_layRoutes_110 : decode cX8_layRoutes 110 = .ok (.putfield 231, 3) := by decide +kernel
theorem dX8_layRoutes_113 : decode cX8_layRoutes 113 = .ok (.iinc 1 1, 3) := by decide +kernel
theorem dX8_layRoutes_116 : decode cX8_layRoutes 116 = .ok (.goto (-99), 3) := by decide +kernel
theorem dX8_layRoutes_119 : decode cX8_layRoutes 119 = .ok (.return_, 1) := by decide +kernel
theorem dX8_lossNow_0 : decode cX8_lossNow 0 = .ok (.aload_n 0, 1) := by decide +kernel
theorem dX8_lossNow_1 : decode cX8_lossNow 1 = .ok (.invokevirtual 234, 3) := by decide +kernel
theorem dX8_lossNow_4 : decode cX8_lossNow 4 = .ok (.aload_n 0, 1) := by decide +kernel
theorem dX8_lossNow_5 : decode cX8_lossNow 5 = .ok (.iload_n 1, 1) := by decide +kernel
theorem dX8_lossNow_6 : decode cX8_lossNow 6 = .ok (.invokevirtual 219, 3) := by decide +kernel
theorem dX8_lossNow_9 : decode cX8_lossNow 9 = .ok (.iconst 0, 1) := by decide +kernel
theorem dX8_lossNow_10 : decode cX8_lossNow 10 = .ok (.istore_n 3, 1) := by decide +kernel
theorem dX8_lossNow_11 : decode cX8_lossNow 11 = .ok (.iconst 0, 1) := by decide +kernel
theorem dX8_lossNow_12 : decode cX8_lossNow 12 = .ok (.istore 4, 2) := by decide +kernel
theorem dX8_lossNow_14 : decode cX8_lossNow 14 = .ok (.iload 4, 2) := by decide +kernel
theorem dX8_lossNow_16 : decode cX8_lossNow 16 = .ok (.bipush 64, 2) := by decide +kernel
theorem dX8_lossNow_18 : decode cX8_lossNow 18 = .ok (.if_icmp .ge 62, 3) := by decide +kernel
theorem dX8_lossNow_21 : decode cX8_lossNow 21 = .ok (.aload_n 0, 1) := by decide +kernel
theorem dX8_lossNow_22 : decode cX8_lossNow 22 = .ok (.getfield 86, 3) := by decide +kernel
theorem dX8_lossNow_25 : decode cX8_lossNow 25 = .ok (.iload 4, 2) := by decide +kernel
theorem dX8_lossNow_27 : decode cX8_lossNow 27 = .ok (.iaload, 1) := by decide +kernel
theorem dX8_lossNow_28 : decode cX8_lossNow 28 = .ok (.ldc 136, 2) := by decide +kernel
theorem dX8_lossNow_30 : decode cX8_lossNow 30 = .ok (.if_icmp .ge 44, 3) := by decide +kernel
theorem dX8_lossNow_33 : decode cX8_lossNow 33 = .ok (.aload_n 0, 1) := by decide +kernel
theorem dX8_lossNow_34 : decode cX8_lossNow 34 = .ok (.iload 4, 2) := by decide +kernel
theorem dX8_lossNow_36 : decode cX8_lossNow 36 = .ok (.bipush 8, 2) := by decide +kernel
theorem dX8_lossNow_38 : decode cX8_lossNow 38 = .ok (.idiv, 1) := by decide +kernel
theorem dX8_lossNow_39 : decode cX8_lossNow 39 = .ok (.iload 4, 2) := by decide +kernel
theorem dX8_lossNow_41 : decode cX8_lossNow 41 = .ok (.bipush 8, 2) := by decide +kernel
theorem dX8_lossNow_43 : decode cX8_lossNow 43 = .ok (.irem, 1) := by decide +kernel
theorem dX8_lossNow_44 : decode cX8_lossNow 44 = .ok (.iload_n 1, 1) := by decide +kernel
theorem dX8_lossNow_45 : decode cX8_lossNow 45 = .ok (.invokevirtual 222, 3) := by decide +kernel
theorem dX8_lossNow_48 : decode cX8_lossNow 48 = .ok (.istore 5, 2) := by decide +kernel
theorem dX8_lossNow_50 : decode cX8_lossNow 50 = .ok (.iload_n 3, 1) := by decide +kernel
theorem dX8_lossNow_51 : decode cX8_lossNow 51 = .ok (.iload 5, 2) := by decide +kernel
theorem dX8_lossNow_53 : decode cX8_lossNow 53 = .ok (.ldc 136, 2) := by decide +kernel
theorem dX8_lossNow_55 : decode cX8_lossNow 55 = .ok (.if_icmp .lt 7, 3) := by decide +kernel
theorem dX8_lossNow_58 : decode cX8_lossNow 58 = .ok (.iload_n 2, 1) := by decide +kernel
theorem dX8_lossNow_59 : decode cX8_lossNow 59 = .ok (.goto 13, 3) := by decide +kernel
theorem dX8_lossNow_62 : decode cX8_lossNow 62 = .ok (.iload 5, 2) := by decide +kernel
theorem dX8_lossNow_64 : decode cX8_lossNow 64 = .ok (.aload_n 0, 1) := by decide +kernel
theorem dX8_lossNow_65 : decode cX8_lossNow 65 = .ok (.getfield 86, 3) := by decide +kernel
theorem dX8_lossNow_68 : decode cX8_lossNow 68 = .ok (.iload 4, 2) := by decide +kernel
theorem dX8_lossNow_70 : decode cX8_lossNow 70 = .ok (.iaload, 1) := by decide +kernel
theorem dX8_lossNow_71 : decode cX8_lossNow 71 = .ok (.isub, 1) := by decide +kernel
theorem dX8_lossNow_72 : decode cX8_lossNow 72 = .ok (.iadd, 1) := by decide +kernel
theorem dX8_lossNow_73 : decode cX8_lossNow 73 = .ok (.istore_n 3, 1) := by decide +kernel
theorem dX8_lossNow_74 : decode cX8_lossNow 74 = .ok (.iinc 4 1, 3) := by decide +kernel
theorem dX8_lossNow_77 : decode cX8_lossNow 77 = .ok (.goto (-63), 3) := by decide +kernel
theorem dX8_lossNow_80 : decode cX8_lossNow 80 = .ok (.iload_n 3, 1) := by decide +kernel
theorem dX8_lossNow_81 : decode cX8_lossNow 81 = .ok (.ireturn, 1) := by decide +kernel
theorem dX8_loss_0 : decode cX8_loss 0 = .ok (.aload_n 0, 1) := by decide +kernel
theorem dX8_loss_1 : decode cX8_loss 1 = .ok (.iload_n 1, 1) := by decide +kernel
theorem dX8_loss_2 : decode cX8_loss 2 = .ok (.invokevirtual 168, 3) := by decide +kernel
theorem dX8_loss_5 : decode cX8_loss 5 = .ok (.ifCond .ne 6, 3) := by decide +kernel
theorem dX8_loss_8 : decode cX8_loss 8 = .ok (.bipush (-101), 2) := by decide +kernel
theorem dX8_loss_10 : decode cX8_loss 10 = .ok (.ireturn, 1) := by decide +kernel
theorem dX8_loss_11 : decode cX8_loss 11 = .ok (.iload_n 2, 1) := by decide +kernel
theorem dX8_loss_12 : decode cX8_loss 12 = .ok (.iconst 0, 1) := by decide +kernel
theorem dX8_loss_13 : decode cX8_loss 13 = .ok (.sipush 999, 3) := by decide +kernel
theorem dX8_loss_16 : decode cX8_loss 16 = .ok (.invokestatic 89, 3) := by decide +kernel
theorem dX8_loss_19 : decode cX8_loss 19 = .ok (.ifCond .eq 12, 3) := by decide +kernel
theorem dX8_loss_22 : decode cX8_loss 22 = .ok (.aload_n 0, 1) := by decide +kernel
theorem dX8_loss_23 : decode cX8_loss 23 = .ok (.iload_n 1, 1) := by decide +kernel
theorem dX8_loss_24 : decode cX8_loss 24 = .ok (.iload_n 2, 1) := by decide +kernel
theorem dX8_loss_25 : decode cX8_loss 25 = .ok (.invokevirtual 237, 3) := by decide +kernel
theorem dX8_loss_28 : decode cX8_loss 28 = .ok (.goto 5, 3) := by decide +kernel
theorem dX8_loss_31 : decode cX8_loss 31 = .ok (.bipush (-102), 2) := by decide +kernel
theorem dX8_loss_33 : decode cX8_loss 33 = .ok (.ireturn, 1) := by decide +kernel
theorem dX8_busiest_0 : decode cX8_busiest 0 = .ok (.iconst (-1), 1) := by decide +kernel
theorem dX8_busiest_1 : decode cX8_busiest 1 = .ok (.istore_n 1, 1) := by decide +kernel
theorem dX8_busiest_2 : decode cX8_busiest 2 = .ok (.iconst 0, 1) := by decide +kernel
theorem dX8_busiest_3 : decode cX8_busiest 3 = .ok (.istore_n 2, 1) := by decide +kernel
theorem dX8_busiest_4 : decode cX8_busiest 4 = .ok (.iload_n 2, 1) := by decide +kernel
theorem dX8_busiest_5 : decode cX8_busiest 5 = .ok (.aload_n 0, 1) := by decide +kernel
theorem dX8_busiest_6 : decode cX8_busiest 6 = .ok (.getfield 120, 3) := by decide +kernel
theorem dX8_busiest_9 : decode cX8_busiest 9 = .ok (.if_icmp .ge 35, 3) := by decide +kernel
theorem dX8_busiest_12 : decode cX8_busiest 12 = .ok (.iload_n 1, 1) := by decide +kernel
theorem dX8_busiest_13 : decode cX8_busiest 13 = .ok (.iconst (-1), 1) := by decide +kernel
theorem dX8_busiest_14 : decode cX8_busiest 14 = .ok (.if_icmp .eq 18, 3) := by decide +kernel
theorem dX8_busiest_17 : decode cX8_busiest 17 = .ok (.aload_n 0, 1) := by decide +kernel
theorem dX8_busiest_18 : decode cX8_busiest 18 = .ok (.getfield 40, 3) := by decide +kernel
theorem dX8_busiest_21 : decode cX8_busiest 21 = .ok (.iload_n 2, 1) := by decide +kernel
theorem dX8_busiest_22 : decode cX8_busiest 22 = .ok (.iaload, 1) := by decide +kernel
theorem dX8_busiest_23 : decode cX8_busiest 23 = .ok (.aload_n 0, 1) := by decide +kernel
theorem dX8_busiest_24 : decode cX8_busiest 24 = .ok (.getfield 40, 3) := by decide +kernel
theorem dX8_busiest_27 : decode cX8_busiest 27 = .ok (.iload_n 1, 1) := by decide +kernel
theorem dX8_busiest_28 : decode cX8_busiest 28 = .ok (.iaload, 1) := by decide +kernel
theorem dX8_busiest_29 : decode cX8_busiest 29 = .ok (.if_icmp .le 7, 3) := by decide +kernel
theorem dX8_busiest_32 : decode cX8_busiest 32 = .ok (.iload_n 2, 1) := by decide +kernel
theorem dX8_busiest_33 : decode cX8_busiest 33 = .ok (.goto 4, 3) := by decide +kernel
theorem dX8_busiest_36 : decode cX8_busiest 36 = .ok (.iload_n 1, 1) := by decide +kernel
theorem dX8_busiest_37 : decode cX8_busiest 37 = .ok (.istore_n 1, 1) := by decide +kernel
theorem dX8_busiest_38 : decode cX8_busiest 38 = .ok (.iinc 2 1, 3) := by decide +kernel
theorem dX8_busiest_41 : decode cX8_busiest 41 = .ok (.goto (-37), 3) := by decide +kernel
theorem dX8_busiest_44 : decode cX8_busiest 44 = .ok (.iload_n 1, 1) := by decide +kernel
theorem dX8_busiest_45 : decode cX8_busiest 45 = .ok (.ireturn, 1) := by decide +kernel
theorem dX8_arcsAll_0 : decode cX8_arcsAll 0 = .ok (.iconst 0, 1) := by decide +kernel
theorem dX8_arcsAll_1 : decode cX8_arcsAll 1 = .ok (.istore_n 2, 1) := by decide +kernel
theorem dX8_arcsAll_2 : decode cX8_arcsAll 2 = .ok (.iconst 0, 1) := by decide +kernel
theorem dX8_arcsAll_3 : decode cX8_arcsAll 3 = .ok (.istore_n 3, 1) := by decide +kernel
theorem dX8_arcsAll_4 : decode cX8_arcsAll 4 = .ok (.iload_n 3, 1) := by decide +kernel
theorem dX8_arcsAll_5 : decode cX8_arcsAll 5 = .ok (.aload_n 0, 1) := by decide +kernel
theorem dX8_arcsAll_6 : decode cX8_arcsAll 6 = .ok (.getfield 120, 3) := by decide +kernel
theorem dX8_arcsAll_9 : decode cX8_arcsAll 9 = .ok (.aload_n 0, 1) := by decide +kernel
theorem dX8_arcsAll_10 : decode cX8_arcsAll 10 = .ok (.getfield 120, 3) := by decide +kernel
theorem dX8_arcsAll_13 : decode cX8_arcsAll 13 = .ok (.imul, 1) := by decide +kernel
theorem dX8_arcsAll_14 : decode cX8_arcsAll 14 = .ok (.if_icmp .ge 62, 3) := by decide +kernel
theorem dX8_arcsAll_17 : decode cX8_arcsAll 17 = .ok (.bipush 12, 2) := by decide +kernel
theorem dX8_arcsAll_19 : decode cX8_arcsAll 19 = .ok (.iload_n 3, 1) := by decide +kernel
theorem dX8_arcsAll_20 : decode cX8_arcsAll 20 = .ok (.aload_n 0, 1) := by decide +kernel
theorem dX8_arcsAll_21 : decode cX8_arcsAll 21 = .ok (.getfield 120, 3) := by decide +kernel
theorem dX8_arcsAll_24 : decode cX8_arcsAll 24 = .ok (.idiv, 1) := by decide +kernel
theorem dX8_arcsAll_25 : decode cX8_arcsAll 25 = .ok (.imul, 1) := by decide +kernel
theorem dX8_arcsAll_26 : decode cX8_arcsAll 26 = .ok (.iload_n 3, 1) := by decide +kernel
theorem dX8_arcsAll_27 : decode cX8_arcsAll 27 = .ok (.aload_n 0, 1) := by decide +kernel
theorem dX8_arcsAll_28 : decode cX8_arcsAll 28 = .ok (.getfield 120, 3) := by decide +kernel
theorem dX8_arcsAll_31 : decode cX8_arcsAll 31 = .ok (.irem, 1) := by decide +kernel
theorem dX8_arcsAll_32 : decode cX8_arcsAll 32 = .ok (.iadd, 1) := by decide +kernel
theorem dX8_arcsAll_33 : decode cX8_arcsAll 33 = .ok (.istore 4, 2) := by decide +kernel
theorem dX8_arcsAll_35 : decode cX8_arcsAll 35 = .ok (.iload_n 2, 1) := by decide +kernel
theorem dX8_arcsAll_36 : decode cX8_arcsAll 36 = .ok (.aload_n 0, 1) := by decide +kernel
theorem dX8_arcsAll_37 : decode cX8_arcsAll 37 = .ok (.getfield 31, 3) := by decide +kernel
theorem dX8_arcsAll_40 : decode cX8_arcsAll 40 = .ok (.iload 4, 2) := by decide +kernel
theorem dX8_arcsAll_42 : decode cX8_arcsAll 42 = .ok (.iaload, 1) := by decide +kernel
theorem dX8_arcsAll_43 : decode cX8_arcsAll 43 = .ok (.ldc 136, 2) := by decide +kernel
theorem dX8_arcsAll_45 : decode cX8_arcsAll 45 = .ok (.if_icmp .ge 22, 3) := by decide +kernel
theorem dX8_arcsAll_48 : decode cX8_arcsAll 48 = .ok (.iload_n 1, 1) := by decide +kernel
theorem dX8_arcsAll_49 : decode cX8_arcsAll 49 = .ok (.ifCond .eq 14, 3) := by decide +kernel
theorem dX8_arcsAll_52 : decode cX8_arcsAll 52 = .ok (.aload_n 0, 1) := by decide +kernel
theorem dX8_arcsAll_53 : decode cX8_arcsAll 53 = .ok (.getfield 34, 3) := by decide +kernel
theorem dX8_arcsAll_56 : decode cX8_arcsAll 56 = .ok (.iload 4, 2) := by decide +kernel
theorem dX8_arcsAll_58 : decode cX8_arcsAll 58 = .ok (.iaload, 1) := by decide +kernel
theorem dX8_arcsAll_59 : decode cX8_arcsAll 59 = .ok (.iconst (-1), 1) := by decide +kernel
theorem dX8_arcsAll_60 : decode cX8_arcsAll 60 = .ok (.if_icmp .eq 7, 3) := by decide +kernel
theorem dX8_arcsAll_63 : decode cX8_arcsAll 63 = .ok (.iconst 1, 1) := by decide +kernel
theorem dX8_arcsAll_64 : decode cX8_arcsAll 64 = .ok (.goto 4, 3) := by decide +kernel
theorem dX8_arcsAll_67 : decode cX8_arcsAll 67 = .ok (.iconst 0, 1) := by decide +kernel
theorem dX8_arcsAll_68 : decode cX8_arcsAll 68 = .ok (.iadd, 1) := by decide +kernel
theorem dX8_arcsAll_69 : decode cX8_arcsAll 69 = .ok (.istore_n 2, 1) := by decide +kernel
theorem dX8_arcsAll_70 : decode cX8_arcsAll 70 = .ok (.iinc 3 1, 3) := by decide +kernel
theorem dX8_arcsAll_73 : decode cX8_arcsAll 73 = .ok (.goto (-69), 3) := by decide +kernel
theorem dX8_arcsAll_76 : decode cX8_arcsAll 76 = .ok (.iload_n 2, 1) := by decide +kernel
theorem dX8_arcsAll_77 : decode cX8_arcsAll 77 = .ok (.ireturn, 1) := by decide +kernel
theorem dX8_allNow_0 : decode cX8_allNow 0 = .ok (.aload_n 0, 1) := by decide +kernel
theorem dX8_allNow_1 : decode cX8_allNow 1 = .ok (.invokevirtual 234, 3) := by decide +kernel
theorem dX8_allNow_4 : decode cX8_allNow 4 = .ok (.iload_n 1, 1) := by decide +kernel
theorem dX8_allNow_5 : decode cX8_allNow 5 = .ok (.tableswitch 78 0 4 #[35, 40, 61, 67, 73], 35) := by decide +kernel
theorem dX8_allNow_40 : decode cX8_allNow 40 = .ok (.aload_n 0, 1) := by decide +kernel
theorem dX8_allNow_41 : decode cX8_allNow 41 = .ok (.invokevirtual 240, 3) := by decide +kernel
theorem dX8_allNow_44 : decode cX8_allNow 44 = .ok (.ireturn, 1) := by decide +kernel
theorem dX8_allNow_45 : decode cX8_allNow 45 = .ok (.aload_n 0, 1) := by decide +kernel
theorem dX8_allNow_46 : decode cX8_allNow 46 = .ok (.getfield 120, 3) := by decide +kernel
theorem dX8_allNow_49 : decode cX8_allNow 49 = .ok (.ifCond .ne 7, 3) := by decide +kernel
theorem dX8_allNow_52 : decode cX8_allNow 52 = .ok (.iconst 0, 1) := by decide +kernel
theorem dX8_allNow_53 : decode cX8_allNow 53 = .ok (.goto 12, 3) := by decide +kernel
theorem dX8_allNow_56 : decode cX8_allNow 56 = .ok (.aload_n 0, 1) := by decide +kernel
theorem dX8_allNow_57 : decode cX8_allNow 57 = .ok (.getfield 40, 3) := by decide +kernel
theorem dX8_allNow_60 : decode cX8_allNow 60 = .ok (.aload_n 0, 1) := by decide +kernel
theorem dX8_allNow_61 : decode cX8_allNow 61 = .ok (.invokevirtual 240, 3) := by decide +kernel
theorem dX8_allNow_64 : decode cX8_allNow 64 = .ok (.iaload, 1) := by decide +kernel
theorem dX8_allNow_65 : decode cX8_allNow 65 = .ok (.ireturn, 1) := by decide +kernel
theorem dX8_allNow_66 : decode cX8_allNow 66 = .ok (.aload_n 0, 1) := by decide +kernel
theorem dX8_allNow_67 : decode cX8_allNow 67 = .ok (.iconst 0, 1) := by decide +kernel
theorem dX8_allNow_68 : decode cX8_allNow 68 = .ok (.invokevirtual 243, 3) := by decide +kernel
theorem dX8_allNow_71 : decode cX8_allNow 71 = .ok (.ireturn, 1) := by decide +kernel
theorem dX8_allNow_72 : decode cX8_allNow 72 = .ok (.aload_n 0, 1) := by decide +kernel
theorem dX8_allNow_73 : decode cX8_allNow 73 = .ok (.iconst 1, 1) := by decide +kernel
theorem dX8_allNow_74 : decode cX8_allNow 74 = .ok (.invokevirtual 243, 3) := by decide +kernel
theorem dX8_allNow_77 : decode cX8_allNow 77 = .ok (.ireturn, 1) := by decide +kernel
theorem dX8_allNow_78 : decode cX8_allNow 78 = .ok (.aload_n 0, 1) := by decide +kernel
theorem dX8_allNow_79 : decode cX8_allNow 79 = .ok (.getfield 228, 3) := by decide +kernel
theorem dX8_allNow_82 : decode cX8_allNow 82 = .ok (.ireturn, 1) := by decide +kernel
theorem dX8_allNow_83 : decode cX8_allNow 83 = .ok (.aload_n 0, 1) := by decide +kernel
theorem dX8_allNow_84 : decode cX8_allNow 84 = .ok (.getfield 231, 3) := by decide +kernel
theorem dX8_allNow_87 : decode cX8_allNow 87 = .ok (.ireturn, 1) := by decide +kernel
theorem dX8_all_0 : decode cX8_all 0 = .ok (.iload_n 1, 1) := by decide +kernel
theorem dX8_all_1 : decode cX8_all 1 = .ok (.iconst 0, 1) := by decide +kernel
theorem dX8_all_2 : decode cX8_all 2 = .ok (.iconst 5, 1) := by decide +kernel
theorem dX8_all_3 : decode cX8_all 3 = .ok (.invokestatic 89, 3) := by decide +kernel
theorem dX8_all_6 : decode cX8_all 6 = .ok (.ifCond .eq 11, 3) := by decide +kernel
theorem dX8_all_9 : decode cX8_all 9 = .ok (.aload_n 0, 1) := by decide +kernel
theorem dX8_all_10 : decode cX8_all 10 = .ok (.iload_n 1, 1) := by decide +kernel
theorem dX8_all_11 : decode cX8_all 11 = .ok (.invokevirtual 247, 3) := by decide +kernel
theorem dX8_all_14 : decode cX8_all 14 = .ok (.goto 5, 3) := by decide +kernel
theorem dX8_all_17 : decode cX8_all 17 = .ok (.bipush (-102), 2) := by decide +kernel
theorem dX8_all_19 : decode cX8_all 19 = .ok (.ireturn, 1) := by decide +kernel
theorem dX8_turnsAll_0 : decode cX8_turnsAll 0 = .ok (.iconst 0, 1) := by decide +kernel
theorem dX8_turnsAll_1 : decode cX8_turnsAll 1 = .ok (.istore_n 2, 1) := by decide +kernel
theorem dX8_turnsAll_2 : decode cX8_turnsAll 2 = .ok (.iconst 0, 1) := by decide +kernel
theorem dX8_turnsAll_3 : decode cX8_turnsAll 3 = .ok (.istore_n 3, 1) := by decide +kernel
theorem dX8_turnsAll_4 : decode cX8_turnsAll 4 = .ok (.iload_n 3, 1) := by decide +kernel
theorem dX8_turnsAll_5 : decode cX8_turnsAll 5 = .ok (.aload_n 0, 1) := by decide +kernel
theorem dX8_turnsAll_6 : decode cX8_turnsAll 6 = .ok (.getfield 120, 3) := by decide +kernel
theorem dX8_turnsAll_9 : decode cX8_turnsAll 9 = .ok (.aload_n 0, 1) := by decide +kernel
theorem dX8_turnsAll_10 : decode cX8_turnsAll 10 = .ok (.getfield 120, 3) := by decide +kernel
theorem dX8_turnsAll_13 : decode cX8_turnsAll 13 = .ok (.imul, 1) := by decide +kernel
theorem dX8_turnsAll_14 : decode cX8_turnsAll 14 = .ok (.if_icmp .ge 66, 3) := by decide +kernel
theorem dX8_turnsAll_17 : decode cX8_turnsAll 17 = .ok (.iload_n 3, 1) := by decide +kernel
theorem dX8_turnsAll_18 : decode cX8_turnsAll 18 = .ok (.aload_n 0, 1) := by decide +kernel
theorem dX8_turnsAll_19 : decode cX8_turnsAll 19 = .ok (.getfield 120, 3) := by decide +kernel
theorem dX8_turnsAll_22 : decode cX8_turnsAll 22 = .ok (.idiv, 1) := by decide +kernel
theorem dX8_turnsAll_23 : decode cX8_turnsAll 23 = .ok (.istore 4, 2) := by decide +kernel
theorem dX8_turnsAll_25 : decode cX8_turnsAll 25 = .ok (.iload_n 3, 1) := by decide +kernel
theorem dX8_turnsAll_26 : decode cX8_turnsAll 26 = .ok (.aload_n 0, 1) := by decide +kernel
theorem dX8_turnsAll_27 : decode cX8_turnsAll 27 = .ok (.getfield 120, 3) := by decide +kernel
theorem dX8_turnsAll_30 : decode cX8_turnsAll 30 = .ok (.irem, 1) := by decide +kernel
theorem dX8_turnsAll_31 : decode cX8_turnsAll 31 = .ok (.istore 5, 2) := by decide +kernel
theorem dX8_turnsAll_33 : decode cX8_turnsAll 33 = .ok (.iload_n 2, 1) := by decide +kernel
theorem dX8_turnsAll_34 : decode cX8_turnsAll 34 = .ok (.aload_n 0, 1) := by decide +kernel
theorem dX8_turnsAll_35 : decode cX8_turnsAll 35 = .ok (.iload 4, 2) := by decide +kernel
theorem dX8_turnsAll_37 : decode cX8_turnsAll 37 = .ok (.iload 5, 2) := by decide +kernel
theorem dX8_turnsAll_39 : decode cX8_turnsAll 39 = .ok (.invokevirtual 183, 3) := by decide +kernel
theorem dX8_turnsAll_42 : decode cX8_turnsAll 42 = .ok (.ifCond .eq 29, 3) := by decide +kernel
theorem dX8_turnsAll_45 : decode cX8_turnsAll 45 = .ok (.iload_n 1, 1) := by decide +kernel
theorem dX8_turnsAll_46 : decode cX8_turnsAll 46 = .ok (.ifCond .eq 21, 3) := by decide +kernel
theorem dX8_turnsAll_49 : decode cX8_turnsAll 49 = .ok (.aload_n 0, 1) := by decide +kernel
theorem dX8_turnsAll_50 : decode cX8_turnsAll 50 = .ok (.getfield 22, 3) := by decide +kernel
theorem dX8_turnsAll_53 : decode cX8_turnsAll 53 = .ok (.bipush 12, 2) := by decide +kernel
theorem dX8_turnsAll_55 : decode cX8_turnsAll 55 = .ok (.iload 4, 2) := by decide +kernel
theorem dX8_turnsAll_57 : decode cX8_turnsAll 57 = .ok (.imul, 1) := by decide +kernel
theorem dX8_turnsAll_58 : decode cX8_turnsAll 58 = .ok (.iload 5, 2) := by decide +kernel
theorem dX8_turnsAll_60 : decode cX8_turnsAll 60 = .ok (.iadd, 1) := by decide +kernel
theorem dX8_turnsAll_61 : decode cX8_turnsAll 61 = .ok (.iaload, 1) := by decide +kernel
theorem dX8_turnsAll_62 : decode cX8_turnsAll 62 = .ok (.bipush (-5), 2) := by decide +kernel
theorem dX8_turnsAll_64 : decode cX8_turnsAll 64 = .ok (.if_icmp .ne 7, 3) := by decide +kernel
theorem dX8_turnsAll_67 : decode cX8_turnsAll 67 = .ok (.iconst 1, 1) := by decide +kernel
theorem dX8_turnsAll_68 : decode cX8_turnsAll 68 = .ok (.goto 4, 3) := by decide +kernel
theorem dX8_turnsAll_71 : decode cX8_turnsAll 71 = .ok (.iconst 0, 1) := by decide +kernel
theorem dX8_turnsAll_72 : decode cX8_turnsAll 72 = .ok (.iadd, 1) := by decide +kernel
theorem dX8_turnsAll_73 : decode cX8_turnsAll 73 = .ok (.istore_n 2, 1) := by decide +kernel
theorem dX8_turnsAll_74 : decode cX8_turnsAll 74 = .ok (.iinc 3 1, 3) := by decide +kernel
theorem dX8_turnsAll_77 : decode cX8_turnsAll 77 = .ok (.goto (-73), 3) := by decide +kernel
theorem dX8_turnsAll_80 : decode cX8_turnsAll 80 = .ok (.iload_n 2, 1) := by decide +kernel
theorem dX8_turnsAll_81 : decode cX8_turnsAll 81 = .ok (.ireturn, 1) := by decide +kernel
theorem dX8_howMany_0 : decode cX8_howMany 0 = .ok (.iload_n 1, 1) := by decide +kernel
theorem dX8_howMany_1 : decode cX8_howMany 1 = .ok (.tableswitch 80 0 6 #[43, 48, 53, 59, 65, 70, 75], 43) := by decide +kernel
theorem dX8_howMany_44 : decode cX8_howMany 44 = .ok (.aload_n 0, 1) := by decide +kernel
theorem dX8_howMany_45 : decode cX8_howMany 45 = .ok (.getfield 120, 3) := by decide +kernel
theorem dX8_howMany_48 : decode cX8_howMany 48 = .ok (.ireturn, 1) := by decide +kernel
theorem dX8_howMany_49 : decode cX8_howMany 49 = .ok (.aload_n 0, 1) := by decide +kernel
theorem dX8_howMany_50 : decode cX8_howMany 50 = .ok (.getfield 93, 3) := by decide +kernel
theorem dX8_howMany_53 : decode cX8_howMany 53 = .ok (.ireturn, 1) := by decide +kernel
theorem dX8_howMany_54 : decode cX8_howMany 54 = .ok (.aload_n 0, 1) := by decide +kernel
theorem dX8_howMany_55 : decode cX8_howMany 55 = .ok (.iconst 0, 1) := by decide +kernel
theorem dX8_howMany_56 : decode cX8_howMany 56 = .ok (.invokevirtual 250, 3) := by decide +kernel
theorem dX8_howMany_59 : decode cX8_howMany 59 = .ok (.ireturn, 1) := by decide +kernel
theorem dX8_howMany_60 : decode cX8_howMany 60 = .ok (.aload_n 0, 1) := by decide +kernel
theorem dX8_howMany_61 : decode cX8_howMany 61 = .ok (.iconst 1, 1) := by decide +kernel
theorem dX8_howMany_62 : decode cX8_howMany 62 = .ok (.invokevirtual 250, 3) := by decide +kernel
theorem dX8_howMany_65 : decode cX8_howMany 65 = .ok (.ireturn, 1) := by decide +kernel
theorem dX8_howMany_66 : decode cX8_howMany 66 = .ok (.aload_n 0, 1) := by decide +kernel
theorem dX8_howMany_67 : decode cX8_howMany 67 = .ok (.getfield 129, 3) := by decide +kernel
theorem dX8_howMany_70 : decode cX8_howMany 70 = .ok (.ireturn, 1) := by decide +kernel
theorem dX8_howMany_71 : decode cX8_howMany 71 = .ok (.aload_n 0, 1) := by decide +kernel
theorem dX8_howMany_72 : decode cX8_howMany 72 = .ok (.getfield 171, 3) := by decide +kernel
theorem dX8_howMany_75 : decode cX8_howMany 75 = .ok (.ireturn, 1) := by decide +kernel
theorem dX8_howMany_76 : decode cX8_howMany 76 = .ok (.aload_n 0, 1) := by decide +kernel
theorem dX8_howMany_77 : decode cX8_howMany 77 = .ok (.getfield 186, 3) := by decide +kernel
theorem dX8_howMany_80 : decode cX8_howMany 80 = .ok (.ireturn, 1) := by decide +kernel
theorem dX8_howMany_81 : decode cX8_howMany 81 = .ok (.bipush (-102), 2) := by decide +kernel
theorem dX8_howMany_83 : decode cX8_howMany 83 = .ok (.ireturn, 1) := by decide +kernel
theorem dX8_count_0 : decode cX8_count 0 = .ok (.aload_n 0, 1) := by decide +kernel
theorem dX8_count_1 : decode cX8_count 1 = .ok (.iload_n 1, 1) := by decide +kernel
theorem dX8_count_2 : decode cX8_count 2 = .ok (.invokevirtual 253, 3) := by decide +kernel
theorem dX8_count_5 : decode cX8_count 5 = .ok (.ireturn, 1) := by decide +kernel
theorem dX8_mix_0 : decode cX8_mix 0 = .ok (.aload_n 0, 1) := by decide +kernel
theorem dX8_mix_1 : decode cX8_mix 1 = .ok (.ldc2_w 256, 3) := by decide +kernel
theorem dX8_mix_4 : decode cX8_mix 4 = .ok (.aload_n 0, 1) := by decide +kernel
theorem dX8_mix_5 : decode cX8_mix 5 = .ok (.getfield 258, 3) := by decide +kernel
theorem dX8_mix_8 : decode cX8_mix 8 = .ok (.lmul, 1) := by decide +kernel
theorem dX8_mix_9 : decode cX8_mix 9 = .ok (.lload_n 1, 1) := by decide +kernel
theorem dX8_mix_10 : decode cX8_mix 10 = .ok (.ladd, 1) := by decide +kernel
theorem dX8_mix_11 : decode cX8_mix 11 = .ok (.putfield 258, 3) := by decide +kernel
theorem dX8_mix_14 : decode cX8_mix 14 = .ok (.return_, 1) := by decide +kernel
theorem dX8_mixPair_0 : decode cX8_mixPair 0 = .ok (.aload_n 0, 1) := by decide +kernel
theorem dX8_mixPair_1 : decode cX8_mixPair 1 = .ok (.aload_n 0, 1) := by decide +kernel
theorem dX8_mixPair_2 : decode cX8_mixPair 2 = .ok (.iload_n 1, 1) := by decide +kernel
theorem dX8_mixPair_3 : decode cX8_mixPair 3 = .ok (.iload_n 2, 1) := by decide +kernel
theorem dX8_mixPair_4 : decode cX8_mixPair 4 = .ok (.invokevirtual 195, 3) := by decide +kernel
theorem dX8_mixPair_7 : decode cX8_mixPair 7 = .ok (.i2l, 1) := by decide +kernel
theorem dX8_mixPair_8 : decode cX8_mixPair 8 = .ok (.invokevirtual 262, 3) := by decide +kernel
theorem dX8_mixPair_11 : decode cX8_mixPair 11 = .ok (.aload_n 0, 1) := by decide +kernel
theorem dX8_mixPair_12 : decode cX8_mixPair 12 = .ok (.aload_n 0, 1) := by decide +kernel
theorem dX8_mixPair_13 : decode cX8_mixPair 13 = .ok (.iload_n 1, 1) := by decide +kernel
theorem dX8_mixPair_14 : decode cX8_mixPair 14 = .ok (.iload_n 2, 1) := by decide +kernel
theorem dX8_mixPair_15 : decode cX8_mixPair 15 = .ok (.iconst 1, 1) := by decide +kernel
theorem dX8_mixPair_16 : decode cX8_mixPair 16 = .ok (.invokevirtual 212, 3) := by decide +kernel
theorem dX8_mixPair_19 : decode cX8_mixPair 19 = .ok (.i2l, 1) := by decide +kernel
theorem dX8_mixPair_20 : decode cX8_mixPair 20 = .ok (.invokevirtual 262, 3) := by decide +kernel
theorem dX8_mixPair_23 : decode cX8_mixPair 23 = .ok (.aload_n 0, 1) := by decide +kernel
theorem dX8_mixPair_24 : decode cX8_mixPair 24 = .ok (.aload_n 0, 1) := by decide +kernel
theorem dX8_mixPair_25 : decode cX8_mixPair 25 = .ok (.iload_n 1, 1) := by decide +kernel
theorem dX8_mixPair_26 : decode cX8_mixPair 26 = .ok (.iload_n 2, 1) := by decide +kernel
theorem dX8_mixPair_27 : decode cX8_mixPair 27 = .ok (.iconst 0, 1) := by decide +kernel
theorem dX8_mixPair_28 : decode cX8_mixPair 28 = .ok (.invokevirtual 212, 3) := by decide +kernel
theorem dX8_mixPair_31 : decode cX8_mixPair 31 = .ok (.i2l, 1) := by decide +kernel
theorem dX8_mixPair_32 : decode cX8_mixPair 32 = .ok (.invokevirtual 262, 3) := by decide +kernel
theorem dX8_mixPair_35 : decode cX8_mixPair 35 = .ok (.aload_n 0, 1) := by decide +kernel
theorem dX8_mixPair_36 : decode cX8_mixPair 36 = .ok (.aload_n 0, 1) := by decide +kernel
theorem dX8_mixPair_37 : decode cX8_mixPair 37 = .ok (.iload_n 1, 1) := by decide +kernel
theorem dX8_mixPair_38 : decode cX8_mixPair 38 = .ok (.iload_n 2, 1) := by decide +kernel
theorem dX8_mixPair_39 : decode cX8_mixPair 39 = .ok (.invokevirtual 216, 3) := by decide +kernel
theorem dX8_mixPair_42 : decode cX8_mixPair 42 = .ok (.i2l, 1) := by decide +kernel
theorem dX8_mixPair_43 : decode cX8_mixPair 43 = .ok (.invokevirtual 262, 3) := by decide +kernel
theorem dX8_mixPair_46 : decode cX8_mixPair 46 = .ok (.iconst 0, 1) := by decide +kernel
theorem dX8_mixPair_47 : decode cX8_mixPair 47 = .ok (.istore_n 3, 1) := by decide +kernel
theorem dX8_mixPair_48 : decode cX8_mixPair 48 = .ok (.iload_n 3, 1) := by decide +kernel
theorem dX8_mixPair_49 : decode cX8_mixPair 49 = .ok (.iconst 4, 1) := by decide +kernel
theorem dX8_mixPair_50 : decode cX8_mixPair 50 = .ok (.if_icmp .ge 21, 3) := by decide +kernel
theorem dX8_mixPair_53 : decode cX8_mixPair 53 = .ok (.aload_n 0, 1) := by decide +kernel
theorem dX8_mixPair_54 : decode cX8_mixPair 54 = .ok (.aload_n 0, 1) := by decide +kernel
theorem dX8_mixPair_55 : decode cX8_mixPair 55 = .ok (.iload_n 1, 1) := by decide +kernel
theorem dX8_mixPair_56 : decode cX8_mixPair 56 = .ok (.iload_n 2, 1) := by decide +kernel
theorem dX8_mixPair_57 : decode cX8_mixPair 57 = .ok (.iload_n 3, 1) := by decide +kernel
theorem dX8_mixPair_58 : decode cX8_mixPair 58 = .ok (.invokevirtual 204, 3) := by decide +kernel
theorem dX8_mixPair_61 : decode cX8_mixPair 61 = .ok (.i2l, 1) := by decide +kernel
theorem dX8_mixPair_62 : decode cX8_mixPair 62 = .ok (.invokevirtual 262, 3) := by decide +kernel
theorem dX8_mixPair_65 : decode cX8_mixPair 65 = .ok (.iinc 3 1, 3) := by decide +kernel
theorem dX8_mixPair_68 : decode cX8_mixPair 68 = .ok (.goto (-20), 3) := by decide +kernel
theorem dX8_mixPair_71 : decode cX8_mixPair 71 = .ok (.return_, 1) := by decide +kernel
theorem dX8_digest_0 : decode cX8_digest 0 = .ok (.aload_n 0, 1) := by decide +kernel
theorem dX8_digest_1 : decode cX8_digest 1 = .ok (.ldc2_w 266, 3) := by decide +kernel
theorem dX8_digest_4 : decode cX8_digest 4 = .ok (.putfield 258, 3) := by decide +kernel
theorem dX8_digest_7 : decode cX8_digest 7 = .ok (.iconst 0, 1) := by decide +kernel
theorem dX8_digest_8 : decode cX8_digest 8 = .ok (.istore_n 1, 1) := by decide +kernel
theorem dX8_digest_9 : decode cX8_digest 9 = .ok (.iload_n 1, 1) := by decide +kernel
theorem dX8_digest_10 : decode cX8_digest 10 = .ok (.bipush 6, 2) := by decide +kernel
theorem dX8_digest_12 : decode cX8_digest 12 = .ok (.aload_n 0, 1) := by decide +kernel
theorem dX8_digest_13 : decode cX8_digest 13 = .ok (.getfield 120, 3) := by decide +kernel
theorem dX8_digest_16 : decode cX8_digest 16 = .ok (.imul, 1) := by decide +kernel
theorem dX8_digest_17 : decode cX8_digest 17 = .ok (.if_icmp .ge 26, 3) := by decide +kernel
theorem dX8_digest_20 : decode cX8_digest 20 = .ok (.aload_n 0, 1) := by decide +kernel
theorem dX8_digest_21 : decode cX8_digest 21 = .ok (.aload_n 0, 1) := by decide +kernel
theorem dX8_digest_22 : decode cX8_digest 22 = .ok (.iload_n 1, 1) := by decide +kernel
theorem dX8_digest_23 : decode cX8_digest 23 = .ok (.bipush 6, 2) := by decide +kernel
theorem dX8_digest_25 : decode cX8_digest 25 = .ok (.idiv, 1) := by decide +kernel
theorem dX8_digest_26 : decode cX8_digest 26 = .ok (.iload_n 1, 1) := by decide +kernel
theorem dX8_digest_27 : decode cX8_digest 27 = .ok (.bipush 6, 2) := by decide +kernel
theorem dX8_digest_29 : decode cX8_digest 29 = .ok (.irem, 1) := by decide +kernel
theorem dX8_digest_30 : decode cX8_digest 30 = .ok (.invokevirtual 192, 3) := by decide +kernel
theorem dX8_digest_33 : decode cX8_digest 33 = .ok (.i2l, 1) := by decide +kernel
theorem dX8_digest_34 : decode cX8_digest 34 = .ok (.invokevirtual 262, 3) := by decide +kernel
theorem dX8_digest_37 : decode cX8_digest 37 = .ok (.iinc 1 1, 3) := by decide +kernel
theorem dX8_digest_40 : decode cX8_digest 40 = .ok (.goto (-31), 3) := by decide +kernel
theorem dX8_digest_43 : decode cX8_digest 43 = .ok (.iconst 0, 1) := by decide +kernel
theorem dX8_digest_44 : decode cX8_digest 44 = .ok (.istore_n 1, 1) := by decide +kernel
theorem dX8_digest_45 : decode cX8_digest 45 = .ok (.iload_n 1, 1) := by decide +kernel
theorem dX8_digest_46 : decode cX8_digest 46 = .ok (.aload_n 0, 1) := by decide +kernel
theorem dX8_digest_47 : decode cX8_digest 47 = .ok (.getfield 120, 3) := by decide +kernel
theorem dX8_digest_50 : decode cX8_digest 50 = .ok (.if_icmp .ge 31, 3) := by decide +kernel
theorem dX8_digest_53 : decode cX8_digest 53 = .ok (.iconst 0, 1) := by decide +kernel
theorem dX8_digest_54 : decode cX8_digest 54 = .ok (.istore_n 2, 1) := by decide +kernel
theorem dX8_digest_55 : decode cX8_digest 55 = .ok (.iload_n 2, 1) := by decide +kernel
theorem dX8_digest_56 : decode cX8_digest 56 = .ok (.aload_n 0, 1) := by decide +kernel
theorem dX8_digest_57 : decode cX8_digest 57 = .ok (.getfield 120, 3) := by decide +kernel
theorem dX8_digest_60 : decode cX8_digest 60 = .ok (.if_icmp .ge 15, 3) := by decide +kernel
theorem dX8_digest_63 : decode cX8_digest 63 = .ok (.aload_n 0, 1) := by decide +kernel
theorem dX8_digest_64 : decode cX8_digest 64 = .ok (.iload_n 1, 1) := by decide +kernel
theorem dX8_digest_65 : decode cX8_digest 65 = .ok (.iload_n 2, 1) := by decide +kernel
theorem dX8_digest_66 : decode cX8_digest 66 = .ok (.invokevirtual 268, 3) := by decide +kernel
theorem dX8_digest_69 : decode cX8_digest 69 = .ok (.iinc 2 1, 3) := by decide +kernel
theorem dX8_digest_72 : decode cX8_digest 72 = .ok (.goto (-17), 3) := by decide +kernel
theorem dX8_digest_75 : decode cX8_digest 75 = .ok (.iinc 1 1, 3) := by decide +kernel
theorem dX8_digest_78 : decode cX8_digest 78 = .ok (.goto (-33), 3) := by decide +kernel
theorem dX8_digest_81 : decode cX8_digest 81 = .ok (.aload_n 0, 1) := by decide +kernel
theorem dX8_digest_82 : decode cX8_digest 82 = .ok (.invokevirtual 234, 3) := by decide +kernel
theorem dX8_digest_85 : decode cX8_digest 85 = .ok (.iconst 0, 1) := by decide +kernel
theorem dX8_digest_86 : decode cX8_digest 86 = .ok (.istore_n 1, 1) := by decide +kernel
theorem dX8_digest_87 : decode cX8_digest 87 = .ok (.iload_n 1, 1) := by decide +kernel
theorem dX8_digest_88 : decode cX8_digest 88 = .ok (.bipush 64, 2) := by decide +kernel
theorem dX8_digest_90 : decode cX8_digest 90 = .ok (.if_icmp .ge 48, 3) := by decide +kernel
theorem dX8_digest_93 : decode cX8_digest 93 = .ok (.iload_n 1, 1) := by decide +kernel
theorem dX8_digest_94 : decode cX8_digest 94 = .ok (.bipush 8, 2) := by decide +kernel
theorem dX8_digest_96 : decode cX8_digest 96 = .ok (.idiv, 1) := by decide +kernel
theorem dX8_digest_97 : decode cX8_digest 97 = .ok (.iload_n 1, 1) := by decide +kernel
theorem dX8_digest_98 : decode cX8_digest 98 = .ok (.bipush 8, 2) := by decide +kernel
theorem dX8_digest_100 : decode cX8_digest 100 = .ok (.irem, 1) := by decide +kernel
theorem dX8_digest_101 : decode cX8_digest 101 = .ok (.if_icmp .eq 31, 3) := by decide +kernel
theorem dX8_digest_104 : decode cX8_digest 104 = .ok (.aload_n 0, 1) := by decide +kernel
theorem dX8_digest_105 : decode cX8_digest 105 = .ok (.aload_n 0, 1) := by decide +kernel
theorem dX8_digest_106 : decode cX8_digest 106 = .ok (.getfield 86, 3) := by decide +kernel
theorem dX8_digest_109 : decode cX8_digest 109 = .ok (.iload_n 1, 1) := by decide +kernel
theorem dX8_digest_110 : decode cX8_digest 110 = .ok (.iaload, 1) := by decide +kernel
theorem dX8_digest_111 : decode cX8_digest 111 = .ok (.ldc 136, 2) := by decide +kernel
theorem dX8_digest_113 : decode cX8_digest 113 = .ok (.if_icmp .lt 9, 3) := by decide +kernel
theorem dX8_digest_116 : decode cX8_digest 116 = .ok (.ldc2_w 271, 3) := by decide +kernel
theorem dX8_digest_119 : decode cX8_digest 119 = .ok (.goto 10, 3) := by decide +kernel
theorem dX8_digest_122 : decode cX8_digest 122 = .ok (.aload_n 0, 1) := by decide +kernel
theorem dX8_digest_123 : decode cX8_digest 123 = .ok (.getfield 86, 3) := by decide +kernel
theorem dX8_digest_126 : decode cX8_digest 126 = .ok (.iload_n 1, 1) := by decide +kernel
theorem dX8_digest_127 : decode cX8_digest 127 = .ok (.iaload, 1) := by decide +kernel
theorem dX8_digest_128 : decode cX8_digest 128 = .ok (.i2l, 1) := by decide +kernel
theorem dX8_digest_129 : decode cX8_digest 129 = .ok (.invokevirtual 262, 3) := by decide +kernel
theorem dX8_digest_132 : decode cX8_digest 132 = .ok (.iinc 1 1, 3) := by decide +kernel
theorem dX8_digest_135 : decode cX8_digest 135 = .ok (.goto (-48), 3) := by decide +kernel
theorem dX8_digest_138 : decode cX8_digest 138 = .ok (.iconst 0, 1) := by decide +kernel
theorem dX8_digest_139 : decode cX8_digest 139 = .ok (.istore_n 1, 1) := by decide +kernel
theorem dX8_digest_140 : decode cX8_digest 140 = .ok (.iload_n 1, 1) := by decide +kernel
theorem dX8_digest_141 : decode cX8_digest 141 = .ok (.aload_n 0, 1) := by decide +kernel
theorem dX8_digest_142 : decode cX8_digest 142 = .ok (.getfield 120, 3) := by decide +kernel
theorem dX8_digest_145 : decode cX8_digest 145 = .ok (.if_icmp .ge 21, 3) := by decide +kernel
theorem dX8_digest_148 : decode cX8_digest 148 = .ok (.aload_n 0, 1) := by decide +kernel
theorem dX8_digest_149 : decode cX8_digest 149 = .ok (.aload_n 0, 1) := by decide +kernel
theorem dX8_digest_150 : decode cX8_digest 150 = .ok (.iload_n 1, 1) := by decide +kernel
theorem dX8_digest_151 : decode cX8_digest 151 = .ok (.bipush 100, 2) := by decide +kernel
theorem dX8_digest_153 : decode cX8_digest 153 = .ok (.invokevirtual 237, 3) := by decide +kernel
theorem dX8_digest_156 : decode cX8_digest 156 = .ok (.i2l, 1) := by decide +kernel
theorem dX8_digest_157 : decode cX8_digest 157 = .ok (.invokevirtual 262, 3) := by decide +kernel
theorem dX8_digest_160 : decode cX8_digest 160 = .ok (.iinc 1 1, 3) := by decide +kernel
theorem dX8_digest_163 : decode cX8_digest 163 = .ok (.goto (-23), 3) := by decide +kernel
theorem dX8_digest_166 : decode cX8_digest 166 = .ok (.iconst 0, 1) := by decide +kernel
theorem dX8_digest_167 : decode cX8_digest 167 = .ok (.istore_n 1, 1) := by decide +kernel
theorem dX8_digest_168 : decode cX8_digest 168 = .ok (.iload_n 1, 1) := by decide +kernel
theorem dX8_digest_169 : decode cX8_digest 169 = .ok (.bipush 6, 2) := by decide +kernel
theorem dX8_digest_171 : decode cX8_digest 171 = .ok (.if_icmp .ge 19, 3) := by decide +kernel
theorem dX8_digest_174 : decode cX8_digest 174 = .ok (.aload_n 0, 1) := by decide +kernel
theorem dX8_digest_175 : decode cX8_digest 175 = .ok (.aload_n 0, 1) := by decide +kernel
theorem dX8_digest_176 : decode cX8_digest 176 = .ok (.iload_n 1, 1) := by decide +kernel
theorem dX8_digest_177 : decode cX8_digest 177 = .ok (.invokevirtual 247, 3) := by decide +kernel
theorem dX8_digest_180 : decode cX8_digest 180 = .ok (.i2l, 1) := by decide +kernel
theorem dX8_digest_181 : decode cX8_digest 181 = .ok (.invokevirtual 262, 3) := by decide +kernel
theorem dX8_digest_184 : decode cX8_digest 184 = .ok (.iinc 1 1, 3) := by decide +kernel
theorem dX8_digest_187 : decode cX8_digest 187 = .ok (.goto (-19), 3) := by decide +kernel
theorem dX8_digest_190 : decode cX8_digest 190 = .ok (.iconst 0, 1) := by decide +kernel
theorem dX8_digest_191 : decode cX8_digest 191 = .ok (.istore_n 1, 1) := by decide +kernel
theorem dX8_digest_192 : decode cX8_digest 192 = .ok (.iload_n 1, 1) := by decide +kernel
theorem dX8_digest_193 : decode cX8_digest 193 = .ok (.aload_n 0, 1) := by decide +kernel
theorem dX8_digest_194 : decode cX8_digest 194 = .ok (.getfield 93, 3) := by decide +kernel
theorem dX8_digest_197 : decode cX8_digest 197 = .ok (.if_icmp .ge 20, 3) := by decide +kernel
theorem dX8_digest_200 : decode cX8_digest 200 = .ok (.aload_n 0, 1) := by decide +kernel
theorem dX8_digest_201 : decode cX8_digest 201 = .ok (.aload_n 0, 1) := by decide +kernel
theorem dX8_digest_202 : decode cX8_digest 202 = .ok (.getfield 7, 3) := by decide +kernel
theorem dX8_digest_205 : decode cX8_digest 205 = .ok (.iload_n 1, 1) := by decide +kernel
theorem dX8_digest_206 : decode cX8_digest 206 = .ok (.iaload, 1) := by decide +kernel
theorem dX8_digest_207 : decode cX8_digest 207 = .ok (.i2l, 1) := by decide +kernel
theorem dX8_digest_208 : decode cX8_digest 208 = .ok (.invokevirtual 262, 3) := by decide +kernel
theorem dX8_digest_211 : decode cX8_digest 211 = .ok (.iinc 1 1, 3) := by decide +kernel
theorem dX8_digest_214 : decode cX8_digest 214 = .ok (.goto (-22), 3) := by decide +kernel
theorem dX8_digest_217 : decode cX8_digest 217 = .ok (.iconst 0, 1) := by decide +kernel
theorem dX8_digest_218 : decode cX8_digest 218 = .ok (.istore_n 1, 1) := by decide +kernel
theorem dX8_digest_219 : decode cX8_digest 219 = .ok (.iload_n 1, 1) := by decide +kernel
theorem dX8_digest_220 : decode cX8_digest 220 = .ok (.bipush 7, 2) := by decide +kernel
theorem dX8_digest_222 : decode cX8_digest 222 = .ok (.if_icmp .ge 19, 3) := by decide +kernel
theorem dX8_digest_225 : decode cX8_digest 225 = .ok (.aload_n 0, 1) := by decide +kernel
theorem dX8_digest_226 : decode cX8_digest 226 = .ok (.aload_n 0, 1) := by decide +kernel
theorem dX8_digest_227 : decode cX8_digest 227 = .ok (.iload_n 1, 1) := by decide +kernel
theorem dX8_digest_228 : decode cX8_digest 228 = .ok (.invokevirtual 253, 3) := by decide +kernel
theorem dX8_digest_231 : decode cX8_digest 231 = .ok (.i2l, 1) := by decide +kernel
theorem dX8_digest_232 : decode cX8_digest 232 = .ok (.invokevirtual 262, 3) := by decide +kernel
theorem dX8_digest_235 : decode cX8_digest 235 = .ok (.iinc 1 1, 3) := by decide +kernel
theorem dX8_digest_238 : decode cX8_digest 238 = .ok (.goto (-19), 3) := by decide +kernel
theorem dX8_digest_241 : decode cX8_digest 241 = .ok (.aload_n 0, 1) := by decide +kernel
theorem dX8_digest_242 : decode cX8_digest 242 = .ok (.getfield 258, 3) := by decide +kernel
theorem dX8_digest_245 : decode cX8_digest 245 = .ok (.lreturn, 1) := by decide +kernel
