theorem dX10_ruled_38 : decode cX10_ruled 38 = .ok (.ifCond .ne 13, 3) := by decide +kernel
theorem dX10_ruled_41 : decode cX10_ruled 41 = .ok (.aload_n 0, 1) := by decide +kernel
theorem dX10_ruled_42 : decode cX10_ruled 42 = .ok (.getfield 73, 3) := by decide +kernel
theorem dX10_ruled_45 : decode cX10_ruled 45 = .ok (.getfield 222, 3) := by decide +kernel
theorem dX10_ruled_48 : decode cX10_ruled 48 = .ok (.goto 10, 3) := by decide +kernel
theorem dX10_ruled_51 : decode cX10_ruled 51 = .ok (.aload_n 0, 1) := by decide +kernel
theorem dX10_ruled_52 : decode cX10_ruled 52 = .ok (.getfield 73, 3) := by decide +kernel
theorem dX10_ruled_55 : decode cX10_ruled 55 = .ok (.getfield 234, 3) := by decide +kernel
theorem dX10_ruled_58 : decode cX10_ruled 58 = .ok (.ireturn, 1) := by decide +kernel
theorem dX10_look_0 : decode cX10_look 0 = .ok (.aload_n 0, 1) := by decide +kernel
theorem dX10_look_1 : decode cX10_look 1 = .ok (.getfield 49, 3) := by decide +kernel
theorem dX10_look_4 : decode cX10_look 4 = .ok (.getfield 103, 3) := by decide +kernel
theorem dX10_look_7 : decode cX10_look 7 = .ok (.getfield 152, 3) := by decide +kernel
theorem dX10_look_10 : decode cX10_look 10 = .ok (.ifCond .eq 22, 3) := by decide +kernel
theorem dX10_look_13 : decode cX10_look 13 = .ok (.iload_n 1, 1) := by decide +kernel
theorem dX10_look_14 : decode cX10_look 14 = .ok (.iconst 0, 1) := by decide +kernel
theorem dX10_look_15 : decode cX10_look 15 = .ok (.bipush 60, 2) := by decide +kernel
theorem dX10_look_17 : decode cX10_look 17 = .ok (.invokestatic 85, 3) := by decide +kernel
theorem dX10_look_20 : decode cX10_look 20 = .ok (.ifCond .eq 12, 3) := by decide +kernel
theorem dX10_look_23 : decode cX10_look 23 = .ok (.iload_n 2, 1) := by decide +kernel
theorem dX10_look_24 : decode cX10_look 24 = .ok (.iconst 0, 1) := by decide +kernel
theorem dX10_look_25 : decode cX10_look 25 = .ok (.iconst 1, 1) := by decide +kernel
theorem dX10_look_26 : decode cX10_look 26 = .ok (.invokestatic 85, 3) := by decide +kernel
theorem dX10_look_29 : decode cX10_look 29 = .ok (.ifCond .ne 5, 3) := by decide +kernel
theorem dX10_look_32 : decode cX10_look 32 = .ok (.iconst (-1), 1) := by decide +kernel
theorem dX10_look_33 : decode cX10_look 33 = .ok (.ireturn, 1) := by decide +kernel
theorem dX10_look_34 : decode cX10_look 34 = .ok (.aload_n 0, 1) := by decide +kernel
theorem dX10_look_35 : decode cX10_look 35 = .ok (.getfield 73, 3) := by decide +kernel
theorem dX10_look_38 : decode cX10_look 38 = .ok (.aload_n 0, 1) := by decide +kernel
theorem dX10_look_39 : decode cX10_look 39 = .ok (.getfield 109, 3) := by decide +kernel
theorem dX10_look_42 : decode cX10_look 42 = .ok (.iload_n 1, 1) := by decide +kernel
theorem dX10_look_43 : decode cX10_look 43 = .ok (.invokevirtual 272, 3) := by decide +kernel
theorem dX10_look_46 : decode cX10_look 46 = .ok (.aload_n 0, 1) := by decide +kernel
theorem dX10_look_47 : decode cX10_look 47 = .ok (.getfield 73, 3) := by decide +kernel
theorem dX10_look_50 : decode cX10_look 50 = .ok (.getfield 222, 3) := by decide +kernel
theorem dX10_look_53 : decode cX10_look 53 = .ok (.iconst 1, 1) := by decide +kernel
theorem dX10_look_54 : decode cX10_look 54 = .ok (.if_icmp .lt 17, 3) := by decide +kernel
theorem dX10_look_57 : decode cX10_look 57 = .ok (.aload_n 0, 1) := by decide +kernel
theorem dX10_look_58 : decode cX10_look 58 = .ok (.getfield 49, 3) := by decide +kernel
theorem dX10_look_61 : decode cX10_look 61 = .ok (.getfield 103, 3) := by decide +kernel
theorem dX10_look_64 : decode cX10_look 64 = .ok (.getfield 106, 3) := by decide +kernel
theorem dX10_look_67 : decode cX10_look 67 = .ok (.iconst 1, 1) := by decide +kernel
theorem dX10_look_68 : decode cX10_look 68 = .ok (.if_icmp .ge 6, 3) := by decide +kernel
theorem dX10_look_71 : decode cX10_look 71 = .ok (.bipush (-2), 2) := by decide +kernel
theorem dX10_look_73 : decode cX10_look 73 = .ok (.ireturn, 1) := by decide +kernel
theorem dX10_look_74 : decode cX10_look 74 = .ok (.aload_n 0, 1) := by decide +kernel
theorem dX10_look_75 : decode cX10_look 75 = .ok (.getfield 73, 3) := by decide +kernel
theorem dX10_look_78 : decode cX10_look 78 = .ok (.invokevirtual 275, 3) := by decide +kernel
theorem dX10_look_81 : decode cX10_look 81 = .ok (.iload_n 2, 1) := by decide +kernel
theorem dX10_look_82 : decode cX10_look 82 = .ok (.ifCond .ne 13, 3) := by decide +kernel
theorem dX10_look_85 : decode cX10_look 85 = .ok (.aload_n 0, 1) := by decide +kernel
theorem dX10_look_86 : decode cX10_look 86 = .ok (.getfield 73, 3) := by decide +kernel
theorem dX10_look_89 : decode cX10_look 89 = .ok (.getfield 234, 3) := by decide +kernel
theorem dX10_look_92 : decode cX10_look 92 = .ok (.goto 10, 3) := by decide +kernel
theorem dX10_look_95 : decode cX10_look 95 = .ok (.aload_n 0, 1) := by decide +kernel
theorem dX10_look_96 : decode cX10_look 96 = .ok (.getfield 73, 3) := by decide +kernel
theorem dX10_look_99 : decode cX10_look 99 = .ok (.getfield 222, 3) := by decide +kernel
theorem dX10_look_102 : decode cX10_look 102 = .ok (.ireturn, 1) := by decide +kernel
theorem dX10_seed_0 : decode cX10_seed 0 = .ok (.iload_n 1, 1) := by decide +kernel
theorem dX10_seed_1 : decode cX10_seed 1 = .ok (.ifCond .ge 5, 3) := by decide +kernel
theorem dX10_seed_4 : decode cX10_seed 4 = .ok (.iconst (-1), 1) := by decide +kernel
theorem dX10_seed_5 : decode cX10_seed 5 = .ok (.ireturn, 1) := by decide +kernel
theorem dX10_seed_6 : decode cX10_seed 6 = .ok (.aload_n 0, 1) := by decide +kernel
theorem dX10_seed_7 : decode cX10_seed 7 = .ok (.getfield 49, 3) := by decide +kernel
theorem dX10_seed_10 : decode cX10_seed 10 = .ok (.getfield 278, 3) := by decide +kernel
theorem dX10_seed_13 : decode cX10_seed 13 = .ok (.istore_n 2, 1) := by decide +kernel
theorem dX10_seed_14 : decode cX10_seed 14 = .ok (.aload_n 0, 1) := by decide +kernel
theorem dX10_seed_15 : decode cX10_seed 15 = .ok (.getfield 49, 3) := by decide +kernel
theorem dX10_seed_18 : decode cX10_seed 18 = .ok (.iload_n 1, 1) := by decide +kernel
theorem dX10_seed_19 : decode cX10_seed 19 = .ok (.putfield 278, 3) := by decide +kernel
theorem dX10_seed_22 : decode cX10_seed 22 = .ok (.iload_n 2, 1) := by decide +kernel
theorem dX10_seed_23 : decode cX10_seed 23 = .ok (.ireturn, 1) := by decide +kernel
theorem dX10_summers_0 : decode cX10_summers 0 = .ok (.aload_n 0, 1) := by decide +kernel
theorem dX10_summers_1 : decode cX10_summers 1 = .ok (.iload_n 2, 1) := by decide +kernel
theorem dX10_summers_2 : decode cX10_summers 2 = .ok (.invokevirtual 228, 3) := by decide +kernel
theorem dX10_summers_5 : decode cX10_summers 5 = .ok (.ifCond .eq 33, 3) := by decide +kernel
theorem dX10_summers_8 : decode cX10_summers 8 = .ok (.iload_n 1, 1) := by decide +kernel
theorem dX10_summers_9 : decode cX10_summers 9 = .ok (.iconst 1, 1) := by decide +kernel
theorem dX10_summers_10 : decode cX10_summers 10 = .ok (.bipush 10, 2) := by decide +kernel
theorem dX10_summers_12 : decode cX10_summers 12 = .ok (.invokestatic 85, 3) := by decide +kernel
theorem dX10_summers_15 : decode cX10_summers 15 = .ok (.ifCond .eq 23, 3) := by decide +kernel
theorem dX10_summers_18 : decode cX10_summers 18 = .ok (.iload_n 3, 1) := by decide +kernel
theorem dX10_summers_19 : decode cX10_summers 19 = .ok (.iconst 0, 1) := by decide +kernel
theorem dX10_summers_20 : decode cX10_summers 20 = .ok (.bipush 100, 2) := by decide +kernel
theorem dX10_summers_22 : decode cX10_summers 22 = .ok (.invokestatic 85, 3) := by decide +kernel
theorem dX10_summers_25 : decode cX10_summers 25 = .ok (.ifCond .eq 13, 3) := by decide +kernel
theorem dX10_summers_28 : decode cX10_summers 28 = .ok (.iload 4, 2) := by decide +kernel
theorem dX10_summers_30 : decode cX10_summers 30 = .ok (.iconst 0, 1) := by decide +kernel
theorem dX10_summers_31 : decode cX10_summers 31 = .ok (.iconst 1, 1) := by decide +kernel
theorem dX10_summers_32 : decode cX10_summers 32 = .ok (.invokestatic 85, 3) := by decide +kernel
theorem dX10_summers_35 : decode cX10_summers 35 = .ok (.ifCond .ne 5, 3) := by decide +kernel
theorem dX10_summers_38 : decode cX10_summers 38 = .ok (.iconst (-1), 1) := by decide +kernel
theorem dX10_summers_39 : decode cX10_summers 39 = .ok (.ireturn, 1) := by decide +kernel
theorem dX10_summers_40 : decode cX10_summers 40 = .ok (.aload_n 0, 1) := by decide +kernel
theorem dX10_summers_41 : decode cX10_summers 41 = .ok (.getfield 73, 3) := by decide +kernel
theorem dX10_summers_44 : decode cX10_summers 44 = .ok (.iload_n 1, 1) := by decide +kernel
theorem dX10_summers_45 : decode cX10_summers 45 = .ok (.iload_n 2, 1) := by decide +kernel
theorem dX10_summers_46 : decode cX10_summers 46 = .ok (.iload_n 3, 1) := by decide +kernel
theorem dX10_summers_47 : decode cX10_summers 47 = .ok (.invokevirtual 281, 3) := by decide +kernel
theorem dX10_summers_50 : decode cX10_summers 50 = .ok (.iload 4, 2) := by decide +kernel
theorem dX10_summers_52 : decode cX10_summers 52 = .ok (.ifCond .ne 13, 3) := by decide +kernel
theorem dX10_summers_55 : decode cX10_summers 55 = .ok (.aload_n 0, 1) := by decide +kernel
theorem dX10_summers_56 : decode cX10_summers 56 = .ok (.getfield 73, 3) := by decide +kernel
theorem dX10_summers_59 : decode cX10_summers 59 = .ok (.getfield 222, 3) := by decide +kernel
theorem dX10_summers_62 : decode cX10_summers 62 = .ok (.goto 10, 3) := by decide +kernel
theorem dX10_summers_65 : decode cX10_summers 65 = .ok (.aload_n 0, 1) := by decide +kernel
theorem dX10_summers_66 : decode cX10_summers 66 = .ok (.getfield 73, 3) := by decide +kernel
theorem dX10_summers_69 : decode cX10_summers 69 = .ok (.getfield 234, 3) := by decide +kernel
theorem dX10_summers_72 : decode cX10_summers 72 = .ok (.ireturn, 1) := by decide +kernel
theorem dX10_count_0 : decode cX10_count 0 = .ok (.iload_n 1, 1) := by decide +kernel
theorem dX10_count_1 : decode cX10_count 1 = .ok (.tableswitch 234 0 14 #[75, 86, 97, 108, 113, 121, 132, 146, 160, 174, 188, 199, 207, 218, 226], 75) := by decide +kernel
theorem dX10_count_76 : decode cX10_count 76 = .ok (.aload_n 0, 1) := by decide +kernel
theorem dX10_count_77 : decode cX10_count 77 = .ok (.getfield 49, 3) := by decide +kernel
theorem dX10_count_80 : decode cX10_count 80 = .ok (.getfield 122, 3) := by decide +kernel
theorem dX10_count_83 : decode cX10_count 83 = .ok (.getfield 202, 3) := by decide +kernel
theorem dX10_count_86 : decode cX10_count 86 = .ok (.ireturn, 1) := by decide +kernel
theorem dX10_count_87 : decode cX10_count 87 = .ok (.aload_n 0, 1) := by decide +kernel
theorem dX10_count_88 : decode cX10_count 88 = .ok (.getfield 49, 3) := by decide +kernel
theorem dX10_count_91 : decode cX10_count 91 = .ok (.getfield 103, 3) := by decide +kernel
theorem dX10_count_94 : decode cX10_count 94 = .ok (.getfield 284, 3) := by decide +kernel
theorem dX10_count_97 : decode cX10_count 97 = .ok (.ireturn, 1) := by decide +kernel
theorem dX10_count_98 : decode cX10_count 98 = .ok (.aload_n 0, 1) := by decide +kernel
theorem dX10_count_99 : decode cX10_count 99 = .ok (.getfield 49, 3) := by decide +kernel
theorem dX10_count_102 : decode cX10_count 102 = .ok (.getfield 103, 3) := by decide +kernel
theorem dX10_count_105 : decode cX10_count 105 = .ok (.getfield 106, 3) := by decide +kernel
theorem dX10_count_108 : decode cX10_count 108 = .ok (.ireturn, 1) := by decide +kernel
theorem dX10_count_109 : decode cX10_count 109 = .ok (.aload_n 0, 1) := by decide +kernel
theorem dX10_count_110 : decode cX10_count 110 = .ok (.getfield 109, 3) := by decide +kernel
theorem dX10_count_113 : decode cX10_count 113 = .ok (.ireturn, 1) := by decide +kernel
theorem dX10_count_114 : decode cX10_count 114 = .ok (.aload_n 0, 1) := by decide +kernel
theorem dX10_count_115 : decode cX10_count 115 = .ok (.getfield 49, 3) := by decide +kernel
theorem dX10_count_118 : decode cX10_count 118 = .ok (.getfield 115, 3) := by decide +kernel
theorem dX10_count_121 : decode cX10_count 121 = .ok (.ireturn, 1) := by decide +kernel
theorem dX10_count_122 : decode cX10_count 122 = .ok (.aload_n 0, 1) := by decide +kernel
theorem dX10_count_123 : decode cX10_count 123 = .ok (.getfield 49, 3) := by decide +kernel
theorem dX10_count_126 : decode cX10_count 126 = .ok (.getfield 122, 3) := by decide +kernel
theorem dX10_count_129 : decode cX10_count 129 = .ok (.getfield 156, 3) := by decide +kernel
theorem dX10_count_132 : decode cX10_count 132 = .ok (.ireturn, 1) := by decide +kernel
theorem dX10_count_133 : decode cX10_count 133 = .ok (.aload_n 0, 1) := by decide +kernel
theorem dX10_count_134 : decode cX10_count 134 = .ok (.getfield 49, 3) := by decide +kernel
theorem dX10_count_137 : decode cX10_count 137 = .ok (.getfield 122, 3) := by decide +kernel
theorem dX10_count_140 : decode cX10_count 140 = .ok (.getfield 126, 3) := by decide +kernel
theorem dX10_count_143 : decode cX10_count 143 = .ok (.invokestatic 287, 3) := by decide +kernel
theorem dX10_count_146 : decode cX10_count 146 = .ok (.ireturn, 1) := by decide +kernel
theorem dX10_count_147 : decode cX10_count 147 = .ok (.aload_n 0, 1) := by decide +kernel
theorem dX10_count_148 : decode cX10_count 148 = .ok (.getfield 49, 3) := by decide +kernel
theorem dX10_count_151 : decode cX10_count 151 = .ok (.getfield 122, 3) := by decide +kernel
theorem dX10_count_154 : decode cX10_count 154 = .ok (.getfield 132, 3) := by decide +kernel
theorem dX10_count_157 : decode cX10_count 157 = .ok (.invokestatic 287, 3) := by decide +kernel
theorem dX10_count_160 : decode cX10_count 160 = .ok (.ireturn, 1) := by decide +kernel
theorem dX10_count_161 : decode cX10_count 161 = .ok (.aload_n 0, 1) := by decide +kernel
theorem dX10_count_162 : decode cX10_count 162 = .ok (.getfield 49, 3) := by decide +kernel
theorem dX10_count_165 : decode cX10_count 165 = .ok (.getfield 122, 3) := by decide +kernel
theorem dX10_count_168 : decode cX10_count 168 = .ok (.getfield 135, 3) := by decide +kernel
theorem dX10_count_171 : decode cX10_count 171 = .ok (.invokestatic 287, 3) := by decide +kernel
theorem dX10_count_174 : decode cX10_count 174 = .ok (.ireturn, 1) := by decide +kernel
theorem dX10_count_175 : decode cX10_count 175 = .ok (.aload_n 0, 1) := by decide +kernel
theorem dX10_count_176 : decode cX10_count 176 = .ok (.getfield 49, 3) := by decide +kernel
theorem dX10_count_179 : decode cX10_count 179 = .ok (.getfield 122, 3) := by decide +kernel
theorem dX10_count_182 : decode cX10_count 182 = .ok (.getfield 138, 3) := by decide +kernel
theorem dX10_count_185 : decode cX10_count 185 = .ok (.invokestatic 287, 3) := by decide +kernel
theorem dX10_count_188 : decode cX10_count 188 = .ok (.ireturn, 1) := by decide +kernel
theorem dX10_count_189 : decode cX10_count 189 = .ok (.aload_n 0, 1) := by decide +kernel
theorem dX10_count_190 : decode cX10_count 190 = .ok (.getfield 49, 3) := by decide +kernel
theorem dX10_count_193 : decode cX10_count 193 = .ok (.getfield 122, 3) := by decide +kernel
theorem dX10_count_196 : decode cX10_count 196 = .ok (.getfield 291, 3) := by decide +kernel
theorem dX10_count_199 : decode cX10_count 199 = .ok (.ireturn, 1) := by decide +kernel
theorem dX10_count_200 : decode cX10_count 200 = .ok (.aload_n 0, 1) := by decide +kernel
theorem dX10_count_201 : decode cX10_count 201 = .ok (.getfield 49, 3) := by decide +kernel
theorem dX10_count_204 : decode cX10_count 204 = .ok (.getfield 266, 3) := by decide +kernel
theorem dX10_count_207 : decode cX10_count 207 = .ok (.ireturn, 1) := by decide +kernel
theorem dX10_count_208 : decode cX10_count 208 = .ok (.aload_n 0, 1) := by decide +kernel
theorem dX10_count_209 : decode cX10_count 209 = .ok (.getfield 49, 3) := by decide +kernel
theorem dX10_count_212 : decode cX10_count 212 = .ok (.getfield 159, 3) := by decide +kernel
theorem dX10_count_215 : decode cX10_count 215 = .ok (.getfield 209, 3) := by decide +kernel
theorem dX10_count_218 : decode cX10_count 218 = .ok (.ireturn, 1) := by decide +kernel
theorem dX10_count_219 : decode cX10_count 219 = .ok (.aload_n 0, 1) := by decide +kernel
theorem dX10_count_220 : decode cX10_count 220 = .ok (.getfield 49, 3) := by decide +kernel
theorem dX10_count_223 : decode cX10_count 223 = .ok (.getfield 278, 3) := by decide +kernel
theorem dX10_count_226 : decode cX10_count 226 = .ok (.ireturn, 1) := by decide +kernel
theorem dX10_count_227 : decode cX10_count 227 = .ok (.aload_n 0, 1) := by decide +kernel
theorem dX10_count_228 : decode cX10_count 228 = .ok (.getfield 12, 3) := by decide +kernel
theorem dX10_count_231 : decode cX10_count 231 = .ok (.getfield 77, 3) := by decide +kernel
theorem dX10_count_234 : decode cX10_count 234 = .ok (.ireturn, 1) := by decide +kernel
theorem dX10_count_235 : decode cX10_count 235 = .ok (.iconst (-1), 1) := by decide +kernel
theorem dX10_count_236 : decode cX10_count 236 = .ok (.ireturn, 1) := by decide +kernel
theorem dX10_image_0 : decode cX10_image 0 = .ok (.iload_n 1, 1) := by decide +kernel
theorem dX10_image_1 : decode cX10_image 1 = .ok (.iconst 0, 1) := by decide +kernel
theorem dX10_image_2 : decode cX10_image 2 = .ok (.iconst 3, 1) := by decide +kernel
theorem dX10_image_3 : decode cX10_image 3 = .ok (.invokestatic 85, 3) := by decide +kernel
theorem dX10_image_6 : decode cX10_image 6 = .ok (.ifCond .ne 5, 3) := by decide +kernel
theorem dX10_image_9 : decode cX10_image 9 = .ok (.iconst (-1), 1) := by decide +kernel
theorem dX10_image_10 : decode cX10_image 10 = .ok (.ireturn, 1) := by decide +kernel
theorem dX10_image_11 : decode cX10_image 11 = .ok (.aload_n 0, 1) := by decide +kernel
theorem dX10_image_12 : decode cX10_image 12 = .ok (.getfield 53, 3) := by decide +kernel
theorem dX10_image_15 : decode cX10_image 15 = .ok (.iload_n 1, 1) := by decide +kernel
theorem dX10_image_16 : decode cX10_image 16 = .ok (.aaload, 1) := by decide +kernel
theorem dX10_image_17 : decode cX10_image 17 = .ok (.aload_n 0, 1) := by decide +kernel
theorem dX10_image_18 : decode cX10_image 18 = .ok (.getfield 49, 3) := by decide +kernel
theorem dX10_image_21 : decode cX10_image 21 = .ok (.invokevirtual 294, 3) := by decide +kernel
theorem dX10_image_24 : decode cX10_image 24 = .ok (.aload_n 0, 1) := by decide +kernel
theorem dX10_image_25 : decode cX10_image 25 = .ok (.getfield 57, 3) := by decide +kernel
theorem dX10_image_28 : decode cX10_image 28 = .ok (.iload_n 1, 1) := by decide +kernel
theorem dX10_image_29 : decode cX10_image 29 = .ok (.iconst 1, 1) := by decide +kernel
theorem dX10_image_30 : decode cX10_image 30 = .ok (.bastore, 1) := by decide +kernel
theorem dX10_image_31 : decode cX10_image 31 = .ok (.aload_n 0, 1) := by decide +kernel
theorem dX10_image_32 : decode cX10_image 32 = .ok (.getfield 49, 3) := by decide +kernel
theorem dX10_image_35 : decode cX10_image 35 = .ok (.getfield 122, 3) := by decide +kernel
theorem dX10_image_38 : decode cX10_image 38 = .ok (.getfield 156, 3) := by decide +kernel
theorem dX10_image_41 : decode cX10_image 41 = .ok (.ireturn, 1) := by decide +kernel
theorem dX10_back_0 : decode cX10_back 0 = .ok (.iload_n 1, 1) := by decide +kernel
theorem dX10_back_1 : decode cX10_back 1 = .ok (.iconst 0, 1) := by decide +kernel
theorem dX10_back_2 : decode cX10_back 2 = .ok (.iconst 3, 1) := by decide +kernel
theorem dX10_back_3 : decode cX10_back 3 = .ok (.invokestatic 85, 3) := by decide +kernel
theorem dX10_back_6 : decode cX10_back 6 = .ok (.ifCond .eq 12, 3) := by decide +kernel
theorem dX10_back_9 : decode cX10_back 9 = .ok (.aload_n 0, 1) := by decide +kernel
theorem dX10_back_10 : decode cX10_back 10 = .ok (.getfield 57, 3) := by decide +kernel
theorem dX10_back_13 : decode cX10_back 13 = .ok (.iload_n 1, 1) := by decide +kernel
theorem dX10_back_14 : decode cX10_back 14 = .ok (.baload, 1) := by decide +kernel
theorem dX10_back_15 : decode cX10_back 15 = .ok (.ifCond .ne 5, 3) := by decide +kernel
theorem dX10_back_18 : decode cX10_back 18 = .ok (.iconst (-1), 1) := by decide +kernel
theorem dX10_back_19 : decode cX10_back 19 = .ok (.ireturn, 1) := by decide +kernel
theorem dX10_back_20 : decode cX10_back 20 = .ok (.aload_n 0, 1) := by decide +kernel
theorem dX10_back_21 : decode cX10_back 21 = .ok (.getfield 49, 3) := by decide +kernel
theorem dX10_back_24 : decode cX10_back 24 = .ok (.aload_n 0, 1) := by decide +kernel
theorem dX10_back_25 : decode cX10_back 25 = .ok (.getfield 53, 3) := by decide +kernel
theorem dX10_back_28 : decode cX10_back 28 = .ok (.iload_n 1, 1) := by decide +kernel
theorem dX10_back_29 : decode cX10_back 29 = .ok (.aaload, 1) := by decide +kernel
theorem dX10_back_30 : decode cX10_back 30 = .ok (.invokevirtual 294, 3) := by decide +kernel
theorem dX10_back_33 : decode cX10_back 33 = .ok (.aload_n 0, 1) := by decide +kernel
theorem dX10_back_34 : decode cX10_back 34 = .ok (.getfield 49, 3) := by decide +kernel
theorem dX10_back_37 : decode cX10_back 37 = .ok (.getfield 122, 3) := by decide +kernel
theorem dX10_back_40 : decode cX10_back 40 = .ok (.getfield 156, 3) := by decide +kernel
theorem dX10_back_43 : decode cX10_back 43 = .ok (.ireturn, 1) := by decide +kernel
theorem dX10_isLand_0 : decode cX10_isLand 0 = .ok (.iload_n 1, 1) := by decide +kernel
theorem dX10_isLand_1 : decode cX10_isLand 1 = .ok (.iconst 0, 1) := by decide +kernel
theorem dX10_isLand_2 : decode cX10_isLand 2 = .ok (.aload_n 0, 1) := by decide +kernel
theorem dX10_isLand_3 : decode cX10_isLand 3 = .ok (.getfield 49, 3) := by decide +kernel
theorem dX10_isLand_6 : decode cX10_isLand 6 = .ok (.getfield 103, 3) := by decide +kernel
theorem dX10_isLand_9 : decode cX10_isLand 9 = .ok (.getfield 106, 3) := by decide +kernel
theorem dX10_isLand_12 : decode cX10_isLand 12 = .ok (.iconst 1, 1) := by decide +kernel
theorem dX10_isLand_13 : decode cX10_isLand 13 = .ok (.isub, 1) := by decide +kernel
theorem dX10_isLand_14 : decode cX10_isLand 14 = .ok (.invokestatic 85, 3) := by decide +kernel
theorem dX10_isLand_17 : decode cX10_isLand 17 = .ok (.ireturn, 1) := by decide +kernel
theorem dX10_areTwo_0 : decode cX10_areTwo 0 = .ok (.aload_n 0, 1) := by decide +kernel
theorem dX10_areTwo_1 : decode cX10_areTwo 1 = .ok (.iload_n 1, 1) := by decide +kernel
theorem dX10_areTwo_2 : decode cX10_areTwo 2 = .ok (.invokevirtual 118, 3) := by decide +kernel
theorem dX10_areTwo_5 : decode cX10_areTwo 5 = .ok (.ifCond .eq 20, 3) := by decide +kernel
theorem dX10_areTwo_8 : decode cX10_areTwo 8 = .ok (.aload_n 0, 1) := by decide +kernel
theorem dX10_areTwo_9 : decode cX10_areTwo 9 = .ok (.iload_n 2, 1) := by decide +kernel
theorem dX10_areTwo_10 : decode cX10_areTwo 10 = .ok (.invokevirtual 118, 3) := by decide +kernel
theorem dX10_areTwo_13 : decode cX10_areTwo 13 = .ok (.ifCond .eq 12, 3) := by decide +kernel
theorem dX10_areTwo_16 : decode cX10_areTwo 16 = .ok (.iload_n 1, 1) := by decide +kernel
theorem dX10_areTwo_17 : decode cX10_areTwo 17 = .ok (.iload_n 2, 1) := by decide +kernel
theorem dX10_areTwo_18 : decode cX10_areTwo 18 = .ok (.if_icmp .eq 7, 3) := by decide +kernel
theorem dX10_areTwo_21 : decode cX10_areTwo 21 = .ok (.iconst 1, 1) := by decide +kernel
theorem dX10_areTwo_22 : decode cX10_areTwo 22 = .ok (.goto 4, 3) := by decide +kernel
theorem dX10_areTwo_25 : decode cX10_areTwo 25 = .ok (.iconst 0, 1) := by decide +kernel
theorem dX10_areTwo_26 : decode cX10_areTwo 26 = .ok (.ireturn, 1) := by decide +kernel
theorem dX10_isSpan_0 : decode cX10_isSpan 0 = .ok (.aload_n 0, 1) := by decide +kernel
theorem dX10_isSpan_1 : decode cX10_isSpan 1 = .ok (.getfield 49, 3) := by decide +kernel
theorem dX10_isSpan_4 : decode cX10_isSpan 4 = .ok (.getfield 103, 3) := by decide +kernel
theorem dX10_isSpan_7 : decode cX10_isSpan 7 = .ok (.getfield 152, 3) := by decide +kernel
theorem dX10_isSpan_10 : decode cX10_isSpan 10 = .ok (.ifCond .eq 17, 3) := by decide +kernel
theorem dX10_isSpan_13 : decode cX10_isSpan 13 = .ok (.iload_n 1, 1) := by decide +kernel
theorem dX10_isSpan_14 : decode cX10_isSpan 14 = .ok (.iconst 1, 1) := by decide +kernel
theorem dX10_isSpan_15 : decode cX10_isSpan 15 = .ok (.bipush 60, 2) := by decide +kernel
theorem dX10_isSpan_17 : decode cX10_isSpan 17 = .ok (.invokestatic 85, 3) := by decide +kernel
theorem dX10_isSpan_20 : decode cX10_isSpan 20 = .ok (.ifCond .eq 7, 3) := by decide +kernel
theorem dX10_isSpan_23 : decode cX10_isSpan 23 = .ok (.iconst 1, 1) := by decide +kernel
theorem dX10_isSpan_24 : decode cX10_isSpan 24 = .ok (.goto 4, 3) := by decide +kernel
theorem dX10_isSpan_27 : decode cX10_isSpan 27 = .ok (.iconst 0, 1) := by decide +kernel
theorem dX10_isSpan_28 : decode cX10_isSpan 28 = .ok (.ireturn, 1) := by decide +kernel
theorem dX10_within_0 : decode cX10_within 0 = .ok (.iload_n 0, 1) := by decide +kernel
theorem dX10_within_1 : decode cX10_within 1 = .ok (.iload_n 1, 1) := by decide +kernel
theorem dX10_within_2 : decode cX10_within 2 = .ok (.if_icmp .lt 12, 3) := by decide +kernel
theorem dX10_within_5 : decode cX10_within 5 = .ok (.iload_n 0, 1) := by decide +kernel
theorem dX10_within_6 : decode cX10_within 6 = .ok (.iload_n 2, 1) := by decide +kernel
theorem dX10_within_7 : decode cX10_within 7 = .ok (.if_icmp .gt 7, 3) := by decide +kernel
theorem dX10_within_10 : decode cX10_within 10 = .ok (.iconst 1, 1) := by decide +kernel
theorem dX10_within_11 : decode cX10_within 11 = .ok (.goto 4, 3) := by decide +kernel
theorem dX10_within_14 : decode cX10_within 14 = .ok (.iconst 0, 1) := by decide +kernel
theorem dX10_within_15 : decode cX10_within 15 = .ok (.ireturn, 1) := by decide +kernel
theorem dX10_total_0 : decode cX10_total 0 = .ok (.iconst 0, 1) := by decide +kernel
theorem dX10_total_1 : decode cX10_total 1 = .ok (.istore_n 1, 1) := by decide +kernel
theorem dX10_total_2 : decode cX10_total 2 = .ok (.iconst 0, 1) := by decide +kernel
theorem dX10_total_3 : decode cX10_total 3 = .ok (.istore_n 2, 1) := by decide +kernel
theorem dX10_total_4 : decode cX10_total 4 = .ok (.iload_n 2, 1) := by decide +kernel
theorem dX10_total_5 : decode cX10_total 5 = .ok (.aload_n 0, 1) := by decide +kernel
theorem dX10_total_6 : decode cX10_total 6 = .ok (.arraylength, 1) := by decide +kernel
theorem dX10_total_7 : decode cX10_total 7 = .ok (.if_icmp .ge 15, 3) := by decide +kernel
theorem dX10_total_10 : decode cX10_total 10 = .ok (.iload_n 1, 1) := by decide +kernel
theorem dX10_total_11 : decode cX10_total 11 = .ok (.aload_n 0, 1) := by decide +kernel
theorem dX10_total_12 : decode cX10_total 12 = .ok (.iload_n 2, 1) := by decide +kernel
theorem dX10_total_13 : decode cX10_total 13 = .ok (.iaload, 1) := by decide +kernel
theorem dX10_total_14 : decode cX10_total 14 = .ok (.iadd, 1) := by decide +kernel
theorem dX10_total_15 : decode cX10_total 15 = .ok (.istore_n 1, 1) := by decide +kernel
theorem dX10_total_16 : decode cX10_total 16 = .ok (.iinc 2 1, 3) := by decide +kernel
theorem dX10_total_19 : decode cX10_total 19 = .ok (.goto (-15), 3) := by decide +kernel
theorem dX10_total_22 : decode cX10_total 22 = .ok (.iload_n 1, 1) := by decide +kernel
theorem dX10_total_23 : decode cX10_total 23 = .ok (.ireturn, 1) := by decide +kernel
theorem dX10_copyRow_0 : decode cX10_copyRow 0 = .ok (.aload_n 0, 1) := by decide +kernel
theorem dX10_copyRow_1 : decode cX10_copyRow 1 = .ok (.iconst 0, 1) := by decide +kernel
theorem dX10_copyRow_2 : decode cX10_copyRow 2 = .ok (.aload_n 1, 1) := by decide +kernel
theorem dX10_copyRow_3 : decode cX10_copyRow 3 = .ok (.iconst 0, 1) := by decide +kernel
theorem dX10_copyRow_4 : decode cX10_copyRow 4 = .ok (.aload_n 0, 1) := by decide +kernel
theorem dX10_copyRow_5 : decode cX10_copyRow 5 = .ok (.arraylength, 1) := by decide +kernel
theorem dX10_copyRow_6 : decode cX10_copyRow 6 = .ok (.aload_n 1, 1) := by decide +kernel
theorem dX10_copyRow_7 : decode cX10_copyRow 7 = .ok (.arraylength, 1) := by decide +kernel
theorem dX10_copyRow_8 : decode cX10_copyRow 8 = .ok (.invokestatic 196, 3) := by decide +kernel
theorem dX10_copyRow_11 : decode cX10_copyRow 11 = .ok (.invokestatic 298, 3) := by decide +kernel
theorem dX10_copyRow_14 : decode cX10_copyRow 14 = .ok (.return_, 1) := by decide +kernel
theorem dX10_ruleOf_0 : decode cX10_ruleOf 0 = .ok (.iload_n 1, 1) := by decide +kernel
theorem dX10_ruleOf_1 : decode cX10_ruleOf 1 = .ok (.iconst 0, 1) := by decide +kernel
theorem dX10_ruleOf_2 : decode cX10_ruleOf 2 = .ok (.aload_n 0, 1) := by decide +kernel
theorem dX10_ruleOf_3 : decode cX10_ruleOf 3 = .ok (.arraylength, 1) := by decide +kernel
theorem dX10_ruleOf_4 : decode cX10_ruleOf 4 = .ok (.iconst 1, 1) := by decide +kernel
theorem dX10_ruleOf_5 : decode cX10_ruleOf 5 = .ok (.isub, 1) := by decide +kernel
theorem dX10_ruleOf_6 : decode cX10_ruleOf 6 = .ok (.invokestatic 85, 3) := by decide +kernel
theorem dX10_ruleOf_9 : decode cX10_ruleOf 9 = .ok (.ifCond .eq 9, 3) := by decide +kernel
theorem dX10_ruleOf_12 : decode cX10_ruleOf 12 = .ok (.aload_n 0, 1) := by decide +kernel
theorem dX10_ruleOf_13 : decode cX10_ruleOf 13 = .ok (.iload_n 1, 1) := by decide +kernel
theorem dX10_ruleOf_14 : decode cX10_ruleOf 14 = .ok (.aaload, 1) := by decide +kernel
theorem dX10_ruleOf_15 : decode cX10_ruleOf 15 = .ok (.goto 4, 3) := by decide +kernel
theorem dX10_ruleOf_18 : decode cX10_ruleOf 18 = .ok (.aconst_null, 1) := by decide +kernel
theorem dX10_ruleOf_19 : decode cX10_ruleOf 19 = .ok (.areturn, 1) := by decide +kernel
theorem dX11_init_0 : decode cX11_init 0 = .ok (.aload_n 0, 1) := by decide +kernel
theorem dX11_init_1 : decode cX11_init 1 = .ok (.invokespecial 3, 3) := by decide +kernel
theorem dX11_init_4 : decode cX11_init 4 = .ok (.aload_n 0, 1) := by decide +kernel
theorem dX11_init_5 : decode cX11_init 5 = .ok (.bipush 9, 2) := by decide +kernel
theorem dX11_init_7 : decode cX11_init 7 = .ok (.newarray .int, 2) := by decide +kernel
theorem dX11_init_9 : decode cX11_init 9 = .ok (.dup, 1) := by decide +kernel
theorem dX11_init_10 : decode cX11_init 10 = .ok (.iconst 0, 1) := by decide +kernel
theorem dX11_init_11 : decode cX11_init 11 = .ok (.iconst 0, 1) := by decide +kernel
theorem dX11_init_12 : decode cX11_init 12 = .ok (.iastore, 1) := by decide +kernel
theorem dX11_init_13 : decode cX11_init 13 = .ok (.dup, 1) := by decide +kernel
theorem dX11_init_14 : decode cX11_init 14 = .ok (.iconst 1, 1) := by decide +kernel
theorem dX11_init_15 : decode cX11_init 15 = .ok (.iconst 0, 1) := by decide +kernel
theorem dX11_init_16 : decode cX11_init 16 = .ok (.iastore, 1) := by decide +kernel
theorem dX11_init_17 : decode cX11_init 17 = .ok (.dup, 1) := by decide +kernel
theorem dX11_init_18 : decode cX11_init 18 = .ok (.iconst 2, 1) := by decide +kernel
theorem dX11_init_19 : decode cX11_init 19 = .ok (.iconst 0, 1) := by decide +kernel
theorem dX11_init_20 : decode cX11_init 20 = .ok (.iastore, 1) := by decide +kernel
theorem dX11_init_21 : decode cX11_init 21 = .ok (.dup, 1) := by decide +kernel
theorem dX11_init_22 : decode cX11_init 22 = .ok (.iconst 3, 1) := by decide +kernel
theorem dX11_init_23 : decode cX11_init 23 = .ok (.iconst 0, 1) := by decide +kernel
theorem dX11_init_24 : decode cX11_init 24 = .ok (.iastore, 1) := by decide +kernel
theorem dX11_init_25 : decode cX11_init 25 = .ok (.dup, 1) := by decide +kernel
theorem dX11_init_26 : decode cX11_init 26 = .ok (.iconst 4, 1) := by decide +kernel
theorem dX11_init_27 : decode cX11_init 27 = .ok (.iconst 0, 1) := by decide +kernel
theorem dX11_init_28 : decode cX11_init 28 = .ok (.iastore, 1) := by decide +kernel
theorem dX11_init_29 : decode cX11_init 29 = .ok (.dup, 1) := by decide +kernel
theorem dX11_init_30 : decode cX11_init 30 = .ok (.iconst 5, 1) := by decide +kernel
theorem dX11_init_31 : decode cX11_init 31 = .ok (.iconst 0, 1) := by decide +kernel
theorem dX11_init_32 : decode cX11_init 32 = .ok (.iastore, 1) := by decide +kernel
theorem dX11_init_33 : decode cX11_init 33 = .ok (.dup, 1) := by decide +kernel
theorem dX11_init_34 : decode cX11_init 34 = .ok (.bipush 6, 2) := by decide +kernel
theorem dX11_init_36 : decode cX11_init 36 = .ok (.iconst 0, 1) := by decide +kernel
theorem dX11_init_37 : decode cX11_init 37 = .ok (.iastore, 1) := by decide +kernel
theorem dX11_init_38 : decode cX11_init 38 = .ok (.dup, 1) := by decide +kernel
theorem dX11_init_39 : decode cX11_init 39 = .ok (.bipush 7, 2) := by decide +kernel
theorem dX11_init_41 : decode cX11_init 41 = .ok (.iconst 0, 1) := by decide +kernel
theorem dX11_init_42 : decode cX11_init 42 = .ok (.iastore, 1) := by decide +kernel
theorem dX11_init_43 : decode cX11_init 43 = .ok (.dup, 1) := by decide +kernel
theorem dX11_init_44 : decode cX11_init 44 = .ok (.bipush 8, 2) := by decide +kernel
theorem dX11_init_46 : decode cX11_init 46 = .ok (.iconst (-1), 1) := by decide +kernel
theorem dX11_init_47 : decode cX11_init 47 = .ok (.iastore, 1) := by decide +kernel
theorem dX11_init_48 : decode cX11_init 48 = .ok (.putfield 9, 3) := by decide +kernel
theorem dX11_init_51 : decode cX11_init 51 = .ok (.aload_n 0, 1) := by decide +kernel
theorem dX11_init_52 : decode cX11_init 52 = .ok (.iconst 5, 1) := by decide +kernel
theorem dX11_init_53 : decode cX11_init 53 = .ok (.newarray .int, 2) := by decide +kernel
theorem dX11_init_55 : decode cX11_init 55 = .ok (.putfield 13, 3) := by decide +kernel
theorem dX11_init_58 : decode cX11_init 58 = .ok (.aload_n 0, 1) := by decide +kernel
theorem dX11_init_59 : decode cX11_init 59 = .ok (.iconst 5, 1) := by decide +kernel
theorem dX11_init_60 : decode cX11_init 60 = .ok (.newarray .int, 2) := by decide +kernel
theorem dX11_init_62 : decode cX11_init 62 = .ok (.putfield 16, 3) := by decide +kernel
theorem dX11_init_65 : decode cX11_init 65 = .ok (.aload_n 0, 1) := by decide +kernel
theorem dX11_init_66 : decode cX11_init 66 = .ok (.iconst 5, 1) := by decide +kernel
theorem dX11_init_67 : decode cX11_init 67 = .ok (.newarray .int, 2) := by decide +kernel
theorem dX11_init_69 : decode cX11_init 69 = .ok (.putfield 19, 3) := by decide +kernel
theorem dX11_init_72 : decode cX11_init 72 = .ok (.aload_n 0, 1) := by decide +kernel
theorem dX11_init_73 : decode cX11_init 73 = .ok (.iconst 5, 1) := by decide +kernel
theorem dX11_init_74 : decode cX11_init 74 = .ok (.newarray .int, 2) := by decide +kernel
theorem dX11_init_76 : decode cX11_init 76 = .ok (.putfield 22, 3) := by decide +kernel
theorem dX11_init_79 : decode cX11_init 79 = .ok (.aload_n 0, 1) := by decide +kernel
theorem dX11_init_80 : decode cX11_init 80 = .ok (.iconst 5, 1) := by decide +kernel
theorem dX11_init_81 : decode cX11_init 81 = .ok (.newarray .int, 2) := by decide +kernel
theorem dX11_init_83 : decode cX11_init 83 = .ok (.putfield 25, 3) := by decide +kernel
theorem dX11_init_86 : decode cX11_init 86 = .ok (.aload_n 0, 1) := by decide +kernel
theorem dX11_init_87 : decode cX11_init 87 = .ok (.sipush 305, 3) := by decide +kernel
theorem dX11_init_90 : decode cX11_init 90 = .ok (.newarray .int, 2) := by decide +kernel
theorem dX11_init_92 : decode cX11_init 92 = .ok (.putfield 28, 3) := by decide +kernel
theorem dX11_init_95 : decode cX11_init 95 = .ok (.aload_n 0, 1) := by decide +kernel
theorem dX11_init_96 : decode cX11_init 96 = .ok (.bipush 10, 2) := by decide +kernel
theorem dX11_init_98 : decode cX11_init 98 = .ok (.newarray .int, 2) := by decide +kernel
theorem dX11_init_100 : decode cX11_init 100 = .ok (.putfield 31, 3) := by decide +kernel
theorem dX11_init_103 : decode cX11_init 103 = .ok (.aload_n 0, 1) := by decide +kernel
theorem dX11_init_104 : decode cX11_init 104 = .ok (.bipush 10, 2) := by decide +kernel
theorem dX11_init_106 : decode cX11_init 106 = .ok (.newarray .int, 2) := by decide +kernel
theorem dX11_init_108 : decode cX11_init 108 = .ok (.putfield 34, 3) := by decide +kernel
theorem dX11_init_111 : decode cX11_init 111 = .ok (.aload_n 0, 1) := by decide +kernel
theorem dX11_init_112 : decode cX11_init 112 = .ok (.bipush 10, 2) := by decide +kernel
theorem dX11_init_114 : decode cX11_init 114 = .ok (.newarray .int, 2) := by decide +kernel
theorem dX11_init_116 : decode cX11_init 116 = .ok (.putfield 37, 3) := by decide +kernel
theorem dX11_init_119 : decode cX11_init 119 = .ok (.aload_n 0, 1) := by decide +kernel
theorem dX11_init_120 : decode cX11_init 120 = .ok (.iconst 5, 1) := by decide +kernel
theorem dX11_init_121 : decode cX11_init 121 = .ok (.newarray .int, 2) := by decide +kernel
theorem dX11_init_123 : decode cX11_init 123 = .ok (.putfield 40, 3) := by decide +kernel
theorem dX11_init_126 : decode cX11_init 126 = .ok (.aload_n 0, 1) := by decide +kernel
theorem dX11_init_127 : decode cX11_init 127 = .ok (.iconst 5, 1) := by decide +kernel
theorem dX11_init_128 : decode cX11_init 128 = .ok (.newarray .int, 2) := by decide +kernel
theorem dX11_init_130 : decode cX11_init 130 = .ok (.putfield 43, 3) := by decide +kernel
theorem dX11_init_133 : decode cX11_init 133 = .ok (.aload_n 0, 1) := by decide +kernel
theorem dX11_init_134 : decode cX11_init 134 = .ok (.iconst 5, 1) := by decide +kernel
theorem dX11_init_135 : decode cX11_init 135 = .ok (.newarray .int, 2) := by decide +kernel
theorem dX11_init_137 : decode cX11_init 137 = .ok (.putfield 46, 3) := by decide +kernel
theorem dX11_init_140 : decode cX11_init 140 = .ok (.aload_n 0, 1) := by decide +kernel
theorem dX11_init_141 : decode cX11_init 141 = .ok (.iconst 3, 1) := by decide +kernel
theorem dX11_init_142 : decode cX11_init 142 = .ok (.newarray .int, 2) := by decide +kernel
theorem dX11_init_144 : decode cX11_init 144 = .ok (.putfield 49, 3) := by decide +kernel
theorem dX11_init_147 : decode cX11_init 147 = .ok (.aload_n 0, 1) := by decide +kernel
theorem dX11_init_148 : decode cX11_init 148 = .ok (.iconst 5, 1) := by decide +kernel
theorem dX11_init_149 : decode cX11_init 149 = .ok (.newarray .int, 2) := by decide +kernel
theorem dX11_init_151 : decode cX11_init 151 = .ok (.putfield 52, 3) := by decide +kernel
theorem dX11_init_154 : decode cX11_init 154 = .ok (.aload_n 0, 1) := by decide +kernel
theorem dX11_init_155 : decode cX11_init 155 = .ok (.iconst 5, 1) := by decide +kernel
theorem dX11_init_156 : decode cX11_init 156 = .ok (.newarray .int, 2) := by decide +kernel
theorem dX11_init_158 : decode cX11_init 158 = .ok (.putfield 55, 3) := by decide +kernel
theorem dX11_init_161 : decode cX11_init 161 = .ok (.aload_n 0, 1) := by decide +kernel
theorem dX11_init_162 : decode cX11_init 162 = .ok (.iconst 5, 1) := by decide +kernel
theorem dX11_init_163 : decode cX11_init 163 = .ok (.newarray .int, 2) := by decide +kernel
theorem dX11_init_165 : decode cX11_init 165 = .ok (.putfield 58, 3) := by decide +kernel
theorem dX11_init_168 : decode cX11_init 168 = .ok (.aload_n 0, 1) := by decide +kernel
theorem dX11_init_169 : decode cX11_init 169 = .ok (.sipush 305, 3) := by decide +kernel
theorem dX11_init_172 : decode cX11_init 172 = .ok (.newarray .int, 2) := by decide +kernel
theorem dX11_init_174 : decode cX11_init 174 = .ok (.putfield 61, 3) := by decide +kernel
theorem dX11_init_177 : decode cX11_init 177 = .ok (.aload_n 0, 1) := by decide +kernel
theorem dX11_init_178 : decode cX11_init 178 = .ok (.bipush 12, 2) := by decide +kernel
theorem dX11_init_180 : decode cX11_init 180 = .ok (.putfield 64, 3) := by decide +kernel
theorem dX11_init_183 : decode cX11_init 183 = .ok (.aload_n 0, 1) := by decide +kernel
theorem dX11_init_184 : decode cX11_init 184 = .ok (.sipush 400, 3) := by decide +kernel
theorem dX11_init_187 : decode cX11_init 187 = .ok (.newarray .byte, 2) := by decide +kernel
theorem dX11_init_189 : decode cX11_init 189 = .ok (.putfield 68, 3) := by decide +kernel
theorem dX11_init_192 : decode cX11_init 192 = .ok (.aload_n 0, 1) := by decide +kernel
theorem dX11_init_193 : decode cX11_init 193 = .ok (.sipush 1800, 3) := by decide +kernel
theorem dX11_init_196 : decode cX11_init 196 = .ok (.newarray .int, 2) := by decide +kernel
theorem dX11_init_198 : decode cX11_init 198 = .ok (.putfield 72, 3) := by decide +kernel
theorem dX11_init_201 : decode cX11_init 201 = .ok (.aload_n 0, 1) := by decide +kernel
theorem dX11_init_202 : decode cX11_init 202 = .ok (.sipush 1800, 3) := by decide +kernel
theorem dX11_init_205 : decode cX11_init 205 = .ok (.newarray .int, 2) := by decide +kernel
theorem dX11_init_207 : decode cX11_init 207 = .ok (.putfield 75, 3) := by decide +kernel
theorem dX11_init_210 : decode cX11_init 210 = .ok (.aload_n 0, 1) := by decide +kernel
theorem dX11_init_211 : decode cX11_init 211 = .ok (.bipush 6, 2) := by decide +kernel
theorem dX11_init_213 : decode cX11_init 213 = .ok (.newarray .int, 2) := by decide +kernel
theorem dX11_init_215 : decode cX11_init 215 = .ok (.putfield 78, 3) := by decide +kernel
theorem dX11_init_218 : decode cX11_init 218 = .ok (.aload_n 0, 1) := by decide +kernel
theorem dX11_init_219 : decode cX11_init 219 = .ok (.bipush 72, 2) := by decide +kernel
theorem dX11_init_221 : decode cX11_init 221 = .ok (.newarray .int, 2) := by decide +kernel
theorem dX11_init_223 : decode cX11_init 223 = .ok (.putfield 81, 3) := by decide +kernel
theorem dX11_init_226 : decode cX11_init 226 = .ok (.aload_n 0, 1) := by decide +kernel
theorem dX11_init_227 : decode cX11_init 227 = .ok (.bipush 72, 2) := by decide +kernel
theorem dX11_init_229 : decode cX11_init 229 = .ok (.newarray .int, 2) := by decide +kernel
theorem dX11_init_231 : decode cX11_init 231 = .ok (.putfield 84, 3) := by decide +kernel
theorem dX11_init_234 : decode cX11_init 234 = .ok (.aload_n 0, 1) := by decide +kernel
theorem dX11_init_235 : decode cX11_init 235 = .ok (.bipush 72, 2) := by decide +kernel
theorem dX11_init_237 : decode cX11_init 237 = .ok (.newarray .int, 2) := by decide +kernel
theorem dX11_init_239 : decode cX11_init 239 = .ok (.putfield 87, 3) := by decide +kernel
theorem dX11_init_242 : decode cX11_init 242 = .ok (.aload_n 0, 1) := by decide +kernel
theorem dX11_init_243 : decode cX11_init 243 = .ok (.sipush 402, 3) := by decide +kernel
theorem dX11_init_246 : decode cX11_init 246 = .ok (.newarray .int, 2) := by decide +kernel
theorem dX11_init_248 : decode cX11_init 248 = .ok (.putfield 90, 3) := by decide +kernel
theorem dX11_init_251 : decode cX11_init 251 = .ok (.aload_n 0, 1) := by decide +kernel
theorem dX11_init_252 : decode cX11_init 252 = .ok (.bipush 12, 2) := by decide +kernel
theorem dX11_init_254 : decode cX11_init 254 = .ok (.newarray .long, 2) := by decide +kernel
theorem dX11_init_256 : decode cX11_init 256 = .ok (.putfield 93, 3) := by decide +kernel
theorem dX11_init_259 : decode cX11_init 259 = .ok (.aload_n 0, 1) := by decide +kernel
theorem dX11_init_260 : decode cX11_init 260 = .ok (.sipush 300, 3) := by decide +kernel
theorem dX11_init_263 : decode cX11_init 263 = .ok (.newarray .long, 2) := by decide +kernel
theorem dX11_init_265 : decode cX11_init 265 = .ok (.putfield 97, 3) := by decide +kernel
theorem dX11_init_268 : decode cX11_init 268 = .ok (.aload_n 0, 1) := by decide +kernel
theorem dX11_init_269 : decode cX11_init 269 = .ok (.iconst (-1), 1) := by decide +kernel
theorem dX11_init_270 : decode cX11_init 270 = .ok (.putfield 100, 3) := by decide +kernel
theorem dX11_init_273 : decode cX11_init 273 = .ok (.aload_n 0, 1) := by decide +kernel
theorem dX11_init_274 : decode cX11_init 274 = .ok (.sipush 560, 3) := by decide +kernel
theorem dX11_init_277 : decode cX11_init 277 = .ok (.newarray .int, 2) := by decide +kernel
theorem dX11_init_279 : decode cX11_init 279 = .ok (.putfield 103, 3) := by decide +kernel
theorem dX11_init_282 : decode cX11_init 282 = .ok (.aload_n 0, 1) := by decide +kernel
theorem dX11_init_283 : decode cX11_init 283 = .ok (.iconst 1, 1) := by decide +kernel
theorem dX11_init_284 : decode cX11_init 284 = .ok (.newarray .int, 2) := by decide +kernel
theorem dX11_init_286 : decode cX11_init 286 = .ok (.putfield 106, 3) := by decide +kernel
theorem dX11_init_289 : decode cX11_init 289 = .ok (.aload_n 0, 1) := by decide +kernel
theorem dX11_init_290 : decode cX11_init 290 = .ok (.iconst 4, 1) := by decide +kernel
theorem dX11_init_291 : decode cX11_init 291 = .ok (.newarray .int, 2) := by decide +kernel
theorem dX11_init_293 : decode cX11_init 293 = .ok (.putfield 109, 3) := by decide +kernel
theorem dX11_init_296 : decode cX11_init 296 = .ok (.aload_n 0, 1) := by decide +kernel
theorem dX11_init_297 : decode cX11_init 297 = .ok (.iconst 4, 1) := by decide +kernel
theorem dX11_init_298 : decode cX11_init 298 = .ok (.newarray .int, 2) := by decide +kernel
theorem dX11_init_300 : decode cX11_init 300 = .ok (.putfield 112, 3) := by decide +kernel
theorem dX11_init_303 : decode cX11_init 303 = .ok (.aload_n 0, 1) := by decide +kernel
theorem dX11_init_304 : decode cX11_init 304 = .ok (.bipush 16, 2) := by decide +kernel
theorem dX11_init_306 : decode cX11_init 306 = .ok (.newarray .int, 2) := by decide +kernel
theorem dX11_init_308 : decode cX11_init 308 = .ok (.putfield 115, 3) := by decide +kernel
theorem dX11_init_311 : decode cX11_init 311 = .ok (.aload_n 0, 1) := by decide +kernel
theorem dX11_init_312 : decode cX11_init 312 = .ok (.sipush 305, 3) := by decide +kernel
theorem dX11_init_315 : decode cX11_init 315 = .ok (.newarray .int, 2) := by decide +kernel
theorem dX11_init_317 : decode cX11_init 317 = .ok (.putfield 118, 3) := by decide +kernel
theorem dX11_init_320 : decode cX11_init 320 = .ok (.aload_n 0, 1) := by decide +kernel
theorem dX11_init_321 : decode cX11_init 321 = .ok (.bipush 35, 2) := by decide +kernel
theorem dX11_init_323 : decode cX11_init 323 = .ok (.newarray .int, 2) := by decide +kernel
theorem dX11_init_325 : decode cX11_init 325 = .ok (.putfield 121, 3) := by decide +kernel
theorem dX11_init_328 : decode cX11_init 328 = .ok (.aload_n 0, 1) := by decide +kernel
theorem dX11_init_329 : decode cX11_init 329 = .ok (.sipush 5000, 3) := by decide +kernel
theorem dX11_init_332 : decode cX11_init 332 = .ok (.newarray .int, 2) := by decide +kernel
theorem dX11_init_334 : decode cX11_init 334 = .ok (.putfield 124, 3) := by decide +kernel
theorem dX11_init_337 : decode cX11_init 337 = .ok (.aload_n 0, 1) := by decide +kernel
theorem dX11_init_338 : decode cX11_init 338 = .ok (.iconst 4, 1) := by decide +kernel
theorem dX11_init_339 : decode cX11_init 339 = .ok (.newarray .boolean, 2) := by decide +kernel
theorem dX11_init_341 : decode cX11_init 341 = .ok (.putfield 127, 3) := by decide +kernel
theorem dX11_init_344 : decode cX11_init 344 = .ok (.return_, 1) := by decide +kernel
theorem dX11_in_0 : decode cX11_in 0 = .ok (.lload_n 0, 1) := by decide +kernel
theorem dX11_in_1 : decode cX11_in 1 = .ok (.lload_n 2, 1) := by decide +kernel
theorem dX11_in_2 : decode cX11_in 2 = .ok (.lcmp, 1) := by decide +kernel
theorem dX11_in_3 : decode cX11_in 3 = .ok (.ifCond .lt 14, 3) := by decide +kernel
theorem dX11_in_6 : decode cX11_in 6 = .ok (.lload_n 0, 1) := by decide +kernel
theorem dX11_in_7 : decode cX11_in 7 = .ok (.lload 4, 2) := by decide +kernel
theorem dX11_in_9 : decode cX11_in 9 = .ok (.lcmp, 1) := by decide +kernel
theorem dX11_in_10 : decode cX11_in 10 = .ok (.ifCond .gt 7, 3) := by decide +kernel
theorem dX11_in_13 : decode cX11_in 13 = .ok (.iconst 1, 1) := by decide +kernel
theorem dX11_in_14 : decode cX11_in 14 = .ok (.goto 4, 3) := by decide +kernel
theorem dX11_in_17 : decode cX11_in 17 = .ok (.iconst 0, 1) := by decide +kernel
theorem dX11_in_18 : decode cX11_in 18 = .ok (.ireturn, 1) := by decide +kernel
theorem dX11_bits_0 : decode cX11_bits 0 = .ok (.iconst 0, 1) := by decide +kernel
theorem dX11_bits_1 : decode cX11_bits 1 = .ok (.istore_n 1, 1) := by decide +kernel
theorem dX11_bits_2 : decode cX11_bits 2 = .ok (.iconst 0, 1) := by decide +kernel
theorem dX11_bits_3 : decode cX11_bits 3 = .ok (.istore_n 2, 1) := by decide +kernel
theorem dX11_bits_4 : decode cX11_bits 4 = .ok (.iload_n 2, 1) := by decide +kernel
theorem dX11_bits_5 : decode cX11_bits 5 = .ok (.bipush 16, 2) := by decide +kernel
theorem dX11_bits_7 : decode cX11_bits 7 = .ok (.if_icmp .ge 17, 3) := by decide +kernel
theorem dX11_bits_10 : decode cX11_bits 10 = .ok (.iload_n 1, 1) := by decide +kernel
theorem dX11_bits_11 : decode cX11_bits 11 = .ok (.iload_n 0, 1) := by decide +kernel
theorem dX11_bits_12 : decode cX11_bits 12 = .ok (.iload_n 2, 1) := by decide +kernel
theorem dX11_bits_13 : decode cX11_bits 13 = .ok (.ishr, 1) := by decide +kernel
theorem dX11_bits_14 : decode cX11_bits 14 = .ok (.iconst 1, 1) := by decide +kernel
theorem dX11_bits_15 : decode cX11_bits 15 = .ok (.iand, 1) := by decide +kernel
theorem dX11_bits_16 : decode cX11_bits 16 = .ok (.iadd, 1) := by decide +kernel
theorem dX11_bits_17 : decode cX11_bits 17 = .ok (.istore_n 1, 1) := by decide +kernel
theorem dX11_bits_18 : decode cX11_bits 18 = .ok (.iinc 2 1, 3) := by decide +kernel
theorem dX11_bits_21 : decode cX11_bits 21 = .ok (.goto (-17), 3) := by decide +kernel
theorem dX11_bits_24 : decode cX11_bits 24 = .ok (.iload_n 1, 1) := by decide +kernel
theorem dX11_bits_25 : decode cX11_bits 25 = .ok (.ireturn, 1) := by decide +kernel
theorem dX11_has_0 : decode cX11_has 0 = .ok (.iload_n 0, 1) := by decide +kernel
theorem dX11_has_1 : decode cX11_has 1 = .ok (.iload_n 1, 1) := by decide +kernel
theorem dX11_has_2 : decode cX11_has 2 = .ok (.ishr, 1) := by decide +kernel
theorem dX11_has_3 : decode cX11_has 3 = .ok (.iconst 1, 1) := by decide +kernel
theorem dX11_has_4 : decode cX11_has 4 = .ok (.iand, 1) := by decide +kernel
theorem dX11_has_5 : decode cX11_has 5 = .ok (.iconst 1, 1) := by decide +kernel
theorem dX11_has_6 : decode cX11_has 6 = .ok (.if_icmp .ne 7, 3) := by decide +kernel
theorem dX11_has_9 : decode cX11_has 9 = .ok (.iconst 1, 1) := by decide +kernel
theorem dX11_has_10 : decode cX11_has 10 = .ok (.goto 4, 3) := by decide +kernel
theorem dX11_has_13 : decode cX11_has 13 = .ok (.iconst 0, 1) := by decide +kernel
theorem dX11_has_14 : decode cX11_has 14 = .ok (.ireturn, 1) := by decide +kernel
theorem dX11_isTable_0 : decode cX11_isTable 0 = .ok (.aload_n 0, 1) := by decide +kernel
theorem dX11_isTable_1 : decode cX11_isTable 1 = .ok (.getfield 9, 3) := by decide +kernel
theorem dX11_isTable_4 : decode cX11_isTable 4 = .ok (.iconst 0, 1) := by decide +kernel
theorem dX11_isTable_5 : decode cX11_isTable 5 = .ok (.iaload, 1) := by decide +kernel
theorem dX11_isTable_6 : decode cX11_isTable 6 = .ok (.ifCond .le 7, 3) := by decide +kernel
theorem dX11_isTable_9 : decode cX11_isTable 9 = .ok (.iconst 1, 1) := by decide +kernel
theorem dX11_isTable_10 : decode cX11_isTable 10 = .ok (.goto 4, 3) := by decide +kernel
theorem dX11_isTable_13 : decode cX11_isTable 13 = .ok (.iconst 0, 1) := by decide +kernel
theorem dX11_isTable_14 : decode cX11_isTable 14 = .ok (.ireturn, 1) := by decide +kernel
theorem dX11_isLand_0 : decode cX11_isLand 0 = .ok (.iload_n 1, 1) := by decide +kernel
theorem dX11_isLand_1 : decode cX11_isLand 1 = .ok (.i2l, 1) := by decide +kernel
theorem dX11_isLand_2 : decode cX11_isLand 2 = .ok (.lconst 0, 1) := by decide +kernel
theorem dX11_isLand_3 : decode cX11_isLand 3 = .ok (.aload_n 0, 1) := by decide +kernel
theorem dX11_isLand_4 : decode cX11_isLand 4 = .ok (.getfield 9, 3) := by decide +kernel
theorem dX11_isLand_7 : decode cX11_isLand 7 = .ok (.iconst 2, 1) := by decide +kernel
theorem dX11_isLand_8 : decode cX11_isLand 8 = .ok (.iaload, 1) := by decide +kernel
theorem dX11_isLand_9 : decode cX11_isLand 9 = .ok (.iconst 1, 1) := by decide +kernel
theorem dX11_isLand_10 : decode cX11_isLand 10 = .ok (.isub, 1) := by decide +kernel
theorem dX11_isLand_11 : decode cX11_isLand 11 = .ok (.i2l, 1) := by decide +kernel
theorem dX11_isLand_12 : decode cX11_isLand 12 = .ok (.invokestatic 134, 3) := by decide +kernel
theorem dX11_isLand_15 : decode cX11_isLand 15 = .ok (.ireturn, 1) := by decide +kernel
theorem dX11_feed_0 : decode cX11_feed 0 = .ok (.aload_n 0, 1) := by decide +kernel
theorem dX11_feed_1 : decode cX11_feed 1 = .ok (.getfield 138, 3) := by decide +kernel
theorem dX11_feed_4 : decode cX11_feed 4 = .ok (.bipush 20, 2) := by decide +kernel
theorem dX11_feed_6 : decode cX11_feed 6 = .ok (.iadd, 1) := by decide +kernel
theorem dX11_feed_7 : decode cX11_feed 7 = .ok (.sipush 400, 3) := by decide +kernel
theorem dX11_feed_10 : decode cX11_feed 10 = .ok (.if_icmp .le 5, 3) := by decide +kernel
theorem dX11_feed_13 : decode cX11_feed 13 = .ok (.iconst (-1), 1) := by decide +kernel
theorem dX11_feed_14 : decode cX11_feed 14 = .ok (.ireturn, 1) := by decide +kernel
theorem dX11_feed_15 : decode cX11_feed 15 = .ok (.aload_n 0, 1) := by decide +kernel
theorem dX11_feed_16 : decode cX11_feed 16 = .ok (.iload_n 1, 1) := by decide +kernel
theorem dX11_feed_17 : decode cX11_feed 17 = .ok (.invokevirtual 141, 3) := by decide +kernel
theorem dX11_feed_20 : decode cX11_feed 20 = .ok (.aload_n 0, 1) := by decide +kernel
theorem dX11_feed_21 : decode cX11_feed 21 = .ok (.iload_n 2, 1) := by decide +kernel
theorem dX11_feed_22 : decode cX11_feed 22 = .ok (.invokevirtual 141, 3) := by decide +kernel
theorem dX11_feed_25 : decode cX11_feed 25 = .ok (.aload_n 0, 1) := by decide +kernel
theorem dX11_feed_26 : decode cX11_feed 26 = .ok (.iload_n 3, 1) := by decide +kernel
theorem dX11_feed_27 : decode cX11_feed 27 = .ok (.invokevirtual 141, 3) := by decide +kernel
theorem dX11_feed_30 : decode cX11_feed 30 = .ok (.aload_n 0, 1) := by decide +kernel
theorem dX11_feed_31 : decode cX11_feed 31 = .ok (.iload 4, 2) := by decide +kernel
theorem dX11_feed_33 : decode cX11_feed 33 = .ok (.invokevirtual 141, 3) := by decide +kernel
theorem dX11_feed_36 : decode cX11_feed 36 = .ok (.aload_n 0, 1) := by decide +kernel
theorem dX11_feed_37 : decode cX11_feed 37 = .ok (.iload 5, 2) := by decide +kernel
theorem dX11_feed_39 : decode cX11_feed 39 = .ok (.invokevirtual 141, 3) := by decide +kernel
theorem dX11_feed_42 : decode cX11_feed 42 = .ok (.aload_n 0, 1) := by decide +kernel
theorem dX11_feed_43 : decode cX11_feed 43 = .ok (.getfield 138, 3) := by decide +kernel
theorem dX11_feed_46 : decode cX11_feed 46 = .ok (.ireturn, 1) := by decide +kernel
theorem dX11_put_0 : decode cX11_put 0 = .ok (.bipush 24, 2) := by decide +kernel
theorem dX11_put_2 : decode cX11_put 2 = .ok (.istore_n 2, 1) := by decide +kernel
theorem dX11_put_3 : decode cX11_put 3 = .ok (.iload_n 2, 1) := by decide +kernel
theorem dX11_put_4 : decode cX11_put 4 = .ok (.ifCond .lt 32, 3) := by decide +kernel
theorem dX11_put_7 : decode cX11_put 7 = .ok (.aload_n 0, 1) := by decide +kernel
theorem dX11_put_8 : decode cX11_put 8 = .ok (.getfield 68, 3) := by decide +kernel
theorem dX11_put_11 : decode cX11_put 11 = .ok (.aload_n 0, 1) := by decide +kernel
theorem dX11_put_12 : decode cX11_put 12 = .ok (.getfield 138, 3) := by decide +kernel
theorem dX11_put_15 : decode cX11_put 15 = .ok (.iload_n 1, 1) := by decide +kernel
theorem dX11_put_16 : decode cX11_put 16 = .ok (.iload_n 2, 1) := by decide +kernel
theorem dX11_put_17 : decode cX11_put 17 = .ok (.ishr, 1) := by decide +kernel
theorem dX11_put_18 : decode cX11_put 18 = .ok (.i2b, 1) := by decide +kernel
theorem dX11_put_19 : decode cX11_put 19 = .ok (.bastore, 1) := by decide +kernel
theorem dX11_put_20 : decode cX11_put 20 = .ok (.aload_n 0, 1) := by decide +kernel
theorem dX11_put_21 : decode cX11_put 21 = .ok (.dup, 1) := by decide +kernel
theorem dX11_put_22 : decode cX11_put 22 = .ok (.getfield 138, 3) := by decide +kernel
theorem dX11_put_25 : decode cX11_put 25 = .ok (.iconst 1, 1) := by decide +kernel
theorem dX11_put_26 : decode cX11_put 26 = .ok (.iadd, 1) := by decide +kernel
theorem dX11_put_27 : decode cX11_put 27 = .ok (.putfield 138, 3) := by decide +kernel
theorem dX11_put_30 : decode cX11_put 30 = .ok (.iinc 2 (-8), 3) := by decide +kernel
theorem dX11_put_33 : decode cX11_put 33 = .ok (.goto (-30), 3) := by decide +kernel
theorem dX11_put_36 : decode cX11_put 36 = .ok (.return_, 1) := by decide +kernel
theorem dX11_end_0 : decode cX11_end 0 = .ok (.iload_n 1, 1) := by decide +kernel
theorem dX11_end_1 : decode cX11_end 1 = .ok (.ifCond .lt 11, 3) := by decide +kernel
theorem dX11_end_4 : decode cX11_end 4 = .ok (.iload_n 1, 1) := by decide +kernel
theorem dX11_end_5 : decode cX11_end 5 = .ok (.aload_n 0, 1) := by decide +kernel
theorem dX11_end_6 : decode cX11_end 6 = .ok (.getfield 138, 3) := by decide +kernel
theorem dX11_end_9 : decode cX11_end 9 = .ok (.if_icmp .le 5, 3) := by decide +kernel
theorem dX11_end_12 : decode cX11_end 12 = .ok (.iconst (-1), 1) := by decide +kernel
theorem dX11_end_13 : decode cX11_end 13 = .ok (.ireturn, 1) := by decide +kernel
theorem dX11_end_14 : decode cX11_end 14 = .ok (.aload_n 0, 1) := by decide +kernel
theorem dX11_end_15 : decode cX11_end 15 = .ok (.iload_n 1, 1) := by decide +kernel
theorem dX11_end_16 : decode cX11_end 16 = .ok (.putfield 138, 3) := by decide +kernel
theorem dX11_end_19 : decode cX11_end 19 = .ok (.iload_n 1, 1) := by decide +kernel
theorem dX11_end_20 : decode cX11_end 20 = .ok (.ireturn, 1) := by decide +kernel
theorem dX11_wordOf_0 : decode cX11_wordOf 0 = .ok (.iload_n 0, 1) := by decide +kernel
theorem dX11_wordOf_1 : decode cX11_wordOf 1 = .ok (.tableswitch 92 0 10 #[59, 62, 65, 68, 71, 74, 77, 80, 83, 86, 89], 59) := by decide +kernel
theorem dX11_wordOf_60 : decode cX11_wordOf 60 = .ok (.ldc 145, 2) := by decide +kernel
theorem dX11_wordOf_62 : decode cX11_wordOf 62 = .ok (.areturn, 1) := by decide +kernel
theorem dX11_wordOf_63 : decode cX11_wordOf 63 = .ok (.ldc 147, 2) := by decide +kernel
theorem dX11_wordOf_65 : decode cX11_wordOf 65 = .ok (.areturn, 1) := by decide +kernel
theorem dX11_wordOf_66 : decode cX11_wordOf 66 = .ok (.ldc 149, 2) := by decide +kernel
theorem dX11_wordOf_68 : decode cX11_wordOf 68 = .ok (.areturn, 1) := by decide +kernel
theorem dX11_wordOf_69 : decode cX11_wordOf 69 = .ok (.ldc 150, 2) := by decide +kernel
theorem dX11_wordOf_71 : decode cX11_wordOf 71 = .ok (.areturn, 1) := by decide +kernel
theorem dX11_wordOf_72 : decode cX11_wordOf 72 = .ok (.ldc 151, 2) := by decide +kernel
theorem dX11_wordOf_74 : decode cX11_wordOf 74 = .ok (.areturn, 1) := by decide +kernel
theorem dX11_wordOf_75 : decode cX11_wordOf 75 = .ok (.ldc 152, 2) := by decide +kernel
theorem dX11_wordOf_77 : decode cX11_wordOf 77 = .ok (.areturn, 1) := by decide +kernel
theorem dX11_wordOf_78 : decode cX11_wordOf 78 = .ok (.ldc 153, 2) := by decide +kernel
theorem dX11_wordOf_80 : decode cX11_wordOf 80 = .ok (.areturn, 1) := by decide +kernel
theorem dX11_wordOf_81 : decode cX11_wordOf 81 = .ok (.ldc 155, 2) := by decide +kernel
theorem dX11_wordOf_83 : decode cX11_wordOf 83 = .ok (.areturn, 1) := by decide +kernel
theorem dX11_wordOf_84 : decode cX11_wordOf 84 = .ok (.ldc 157, 2) := by decide +kernel
theorem dX11_wordOf_86 : decode cX11_wordOf 86 = .ok (.areturn, 1) := by decide +kernel
theorem dX11_wordOf_87 : decode cX11_wordOf 87 = .ok (.ldc 159, 2) := by decide +kernel
theorem dX11_wordOf_89 : decode cX11_wordOf 89 = .ok (.areturn, 1) := by decide +kernel
theorem dX11_wordOf_90 : decode cX11_wordOf 90 = .ok (.ldc 161, 2) := by decide +kernel
theorem dX11_wordOf_92 : decode cX11_wordOf 92 = .ok (.areturn, 1) := by decide +kernel
theorem dX11_wordOf_93 : decode cX11_wordOf 93 = .ok (.ldc 163, 2) := by decide +kernel
theorem dX11_wordOf_95 : decode cX11_wordOf 95 = .ok (.areturn, 1) := by decide +kernel
theorem dX11_fails_0 : decode cX11_fails 0 = .ok (.aload_n 0, 1) := by decide +kernel
theorem dX11_fails_1 : decode cX11_fails 1 = .ok (.aload_n 0, 1) := by decide +kernel
theorem dX11_fails_2 : decode cX11_fails 2 = .ok (.getfield 165, 3) := by decide +kernel
theorem dX11_fails_5 : decode cX11_fails 5 = .ok (.ifCond .ne 14, 3) := by decide +kernel
theorem dX11_fails_8 : decode cX11_fails 8 = .ok (.iconst 1, 1) := by decide +kernel
theorem dX11_fails_9 : decode cX11_fails 9 = .ok (.bipush 8, 2) := by decide +kernel
theorem dX11_fails_11 : decode cX11_fails 11 = .ok (.iload_n 2, 1) := by decide +kernel
theorem dX11_fails_12 : decode cX11_fails 12 = .ok (.imul, 1) := by decide +kernel
theorem dX11_fails_13 : decode cX11_fails 13 = .ok (.iadd, 1) := by decide +kernel
theorem dX11_fails_14 : decode cX11_fails 14 = .ok (.iload_n 1, 1) := by decide +kernel
theorem dX11_fails_15 : decode cX11_fails 15 = .ok (.iadd, 1) := by decide +kernel
theorem dX11_fails_16 : decode cX11_fails 16 = .ok (.goto 7, 3) := by decide +kernel
theorem dX11_fails_19 : decode cX11_fails 19 = .ok (.aload_n 0, 1) := by decide +kernel
theorem dX11_fails_20 : decode cX11_fails 20 = .ok (.getfield 165, 3) := by decide +kernel
theorem dX11_fails_23 : decode cX11_fails 23 = .ok (.putfield 165, 3) := by decide +kernel
theorem dX11_fails_26 : decode cX11_fails 26 = .ok (.return_, 1) := by decide +kernel
theorem dX11_sign_0 : decode cX11_sign 0 = .ok (.aload_n 0, 1) := by decide +kernel
theorem dX11_sign_1 : decode cX11_sign 1 = .ok (.getfield 168, 3) := by decide +kernel
theorem dX11_sign_4 : decode cX11_sign 4 = .ok (.aload_n 0, 1) := by decide +kernel
theorem dX11_sign_5 : decode cX11_sign 5 = .ok (.getfield 138, 3) := by decide +kernel
theorem dX11_sign_8 : decode cX11_sign 8 = .ok (.if_icmp .ge 19, 3) := by decide +kernel
theorem dX11_sign_11 : decode cX11_sign 11 = .ok (.aload_n 0, 1) := by decide +kernel
theorem dX11_sign_12 : decode cX11_sign 12 = .ok (.getfield 68, 3) := by decide +kernel
theorem dX11_sign_15 : decode cX11_sign 15 = .ok (.aload_n 0, 1) := by decide +kernel
theorem dX11_sign_16 : decode cX11_sign 16 = .ok (.getfield 168, 3) := by decide +kernel
theorem dX11_sign_19 : decode cX11_sign 19 = .ok (.baload, 1) := by decide +kernel
theorem dX11_sign_20 : decode cX11_sign 20 = .ok (.sipush 255, 3) := by decide +kernel
theorem dX11_sign_23 : decode cX11_sign 23 = .ok (.iand, 1) := by decide +kernel
theorem dX11_sign_24 : decode cX11_sign 24 = .ok (.goto 4, 3) := by decide +kernel
theorem dX11_sign_27 : decode cX11_sign 27 = .ok (.iconst (-1), 1) := by decide +kernel
theorem dX11_sign_28 : decode cX11_sign 28 = .ok (.ireturn, 1) := by decide +kernel
theorem dX11_blanks_0 : decode cX11_blanks 0 = .ok (.aload_n 0, 1) := by decide +kernel
theorem dX11_blanks_1 : decode cX11_blanks 1 = .ok (.invokevirtual 171, 3) := by decide +kernel
theorem dX11_blanks_4 : decode cX11_blanks 4 = .ok (.bipush 32, 2) := by decide +kernel
theorem dX11_blanks_6 : decode cX11_blanks 6 = .ok (.if_icmp .ne 16, 3) := by decide +kernel
theorem dX11_blanks_9 : decode cX11_blanks 9 = .ok (.aload_n 0, 1) := by decide +kernel
theorem dX11_blanks_10 : decode cX11_blanks 10 = .ok (.dup, 1) := by decide +kernel
theorem dX11_blanks_11 : decode cX11_blanks 11 = .ok (.getfield 168, 3) := by decide +kernel
theorem dX11_blanks_14 : decode cX11_blanks 14 = .ok (.iconst 1, 1) := by decide +kernel
theorem dX11_blanks_15 : decode cX11_blanks 15 = .ok (.iadd, 1) := by decide +kernel
theorem dX11_blanks_16 : decode cX11_blanks 16 = .ok (.putfield 168, 3) := by decide +kernel
theorem dX11_blanks_19 : decode cX11_blanks 19 = .ok (.goto (-19), 3) := by decide +kernel
theorem dX11_blanks_22 : decode cX11_blanks 22 = .ok (.return_, 1) := by decide +kernel
theorem dX11_isDigit_0 : decode cX11_isDigit 0 = .ok (.aload_n 0, 1) := by decide +kernel
theorem dX11_isDigit_1 : decode cX11_isDigit 1 = .ok (.invokevirtual 171, 3) := by decide +kernel
theorem dX11_isDigit_4 : decode cX11_isDigit 4 = .ok (.i2l, 1) := by decide +kernel
theorem dX11_isDigit_5 : decode cX11_isDigit 5 = .ok (.ldc2_w 175, 3) := by decide +kernel
theorem dX11_isDigit_8 : decode cX11_isDigit 8 = .ok (.ldc2_w 177, 3) := by decide +kernel
theorem dX11_isDigit_11 : decode cX11_isDigit 11 = .ok (.invokestatic 134, 3) := by decide +kernel
theorem dX11_isDigit_14 : decode cX11_isDigit 14 = .ok (.ireturn, 1) := by decide +kernel
theorem dX11_stood_0 : decode cX11_stood 0 = .ok (.aload_n 0, 1) := by decide +kernel
theorem dX11_stood_1 : decode cX11_stood 1 = .ok (.getfield 168, 3) := by decide +kernel
theorem dX11_stood_4 : decode cX11_stood 4 = .ok (.istore_n 2, 1) := by decide +kernel
theorem dX11_stood_5 : decode cX11_stood 5 = .ok (.iload_n 2, 1) := by decide +kernel
theorem dX11_stood_6 : decode cX11_stood 6 = .ok (.aload_n 0, 1) := by decide +kernel
theorem dX11_stood_7 : decode cX11_stood 7 = .ok (.getfield 138, 3) := by decide +kernel
theorem dX11_stood_10 : decode cX11_stood 10 = .ok (.if_icmp .ge 31, 3) := by decide +kernel
theorem dX11_stood_13 : decode cX11_stood 13 = .ok (.aload_n 0, 1) := by decide +kernel
theorem dX11_stood_14 : decode cX11_stood 14 = .ok (.getfield 68, 3) := by decide +kernel
theorem dX11_stood_17 : decode cX11_stood 17 = .ok (.iload_n 2, 1) := by decide +kernel
theorem dX11_stood_18 : decode cX11_stood 18 = .ok (.baload, 1) := by decide +kernel
theorem dX11_stood_19 : decode cX11_stood 19 = .ok (.bipush 97, 2) := by decide +kernel
theorem dX11_stood_21 : decode cX11_stood 21 = .ok (.if_icmp .lt 20, 3) := by decide +kernel
theorem dX11_stood_24 : decode cX11_stood 24 = .ok (.aload_n 0, 1) := by decide +kernel
theorem dX11_stood_25 : decode cX11_stood 25 = .ok (.getfield 68, 3) := by decide +kernel
theorem dX11_stood_28 : decode cX11_stood 28 = .ok (.iload_n 2, 1) := by decide +kernel
theorem dX11_stood_29 : decode cX11_stood 29 = .ok (.baload, 1) := by decide +kernel
theorem dX11_stood_30 : decode cX11_stood 30 = .ok (.bipush 122, 2) := by decide +kernel
theorem dX11_stood_32 : decode cX11_stood 32 = .ok (.if_icmp .gt 9, 3) := by decide +kernel
theorem dX11_stood_35 : decode cX11_stood 35 = .ok (.iinc 2 1, 3) := by decide +kernel
theorem dX11_stood_38 : decode cX11_stood 38 = .ok (.goto (-33), 3) := by decide +kernel
theorem dX11_stood_41 : decode cX11_stood 41 = .ok (.iload_n 2, 1) := by decide +kernel
theorem dX11_stood_42 : decode cX11_stood 42 = .ok (.aload_n 0, 1) := by decide +kernel
theorem dX11_stood_43 : decode cX11_stood 43 = .ok (.getfield 168, 3) := by decide +kernel
theorem dX11_stood_46 : decode cX11_stood 46 = .ok (.isub, 1) := by decide +kernel
theorem dX11_stood_47 : decode cX11_stood 47 = .ok (.aload_n 1, 1) := by decide +kernel
theorem dX11_stood_48 : decode cX11_stood 48 = .ok (.invokevirtual 179, 3) := by decide +kernel
theorem dX11_stood_51 : decode cX11_stood 51 = .ok (.if_icmp .ne 7, 3) := by decide +kernel
theorem dX11_stood_54 : decode cX11_stood 54 = .ok (.iconst 1, 1) := by decide +kernel
theorem dX11_stood_55 : decode cX11_stood 55 = .ok (.goto 4, 3) := by decide +kernel
theorem dX11_stood_58 : decode cX11_stood 58 = .ok (.iconst 0, 1) := by decide +kernel
theorem dX11_stood_59 : decode cX11_stood 59 = .ok (.istore_n 3, 1) := by decide +kernel
theorem dX11_stood_60 : decode cX11_stood 60 = .ok (.iconst 0, 1) := by decide +kernel
theorem dX11_stood_61 : decode cX11_stood 61 = .ok (.istore 4, 2) := by decide +kernel
theorem dX11_stood_63 : decode cX11_stood 63 = .ok (.iload 4, 2) := by decide +kernel
theorem dX11_stood_65 : decode cX11_stood 65 = .ok (.aload_n 1, 1) := by decide +kernel
theorem dX11_stood_66 : decode cX11_stood 66 = .ok (.invokevirtual 179, 3) := by decide +kernel
theorem dX11_stood_69 : decode cX11_stood 69 = .ok (.if_icmp .ge 40, 3) := by decide +kernel
theorem dX11_stood_72 : decode cX11_stood 72 = .ok (.iload_n 3, 1) := by decide +kernel
theorem dX11_stood_73 : decode cX11_stood 73 = .ok (.ifCond .eq 36, 3) := by decide +kernel
theorem dX11_stood_76 : decode cX11_stood 76 = .ok (.aload_n 0, 1) := by decide +kernel
theorem dX11_stood_77 : decode cX11_stood 77 = .ok (.getfield 68, 3) := by decide +kernel
theorem dX11_stood_80 : decode cX11_stood 80 = .ok (.aload_n 0, 1) := by decide +kernel
theorem dX11_stood_81 : decode cX11_stood 81 = .ok (.getfield 168, 3) := by decide +kernel
theorem dX11_stood_84 : decode cX11_stood 84 = .ok (.iload 4, 2) := by decide +kernel
theorem dX11_stood_86 : decode cX11_stood 86 = .ok (.iadd, 1) := by decide +kernel
theorem dX11_stood_87 : decode cX11_stood 87 = .ok (.baload, 1) := by decide +kernel
theorem dX11_stood_88 : decode cX11_stood 88 = .ok (.aload_n 1, 1) := by decide +kernel
theorem dX11_stood_89 : decode cX11_stood 89 = .ok (.iload 4, 2) := by decide +kernel
theorem dX11_stood_91 : decode cX11_stood 91 = .ok (.invokevirtual 184, 3) := by decide +kernel
theorem dX11_stood_94 : decode cX11_stood 94 = .ok (.if_icmp .ne 7, 3) := by decide +kernel
theorem dX11_stood_97 : decode cX11_stood 97 = .ok (.iconst 1, 1) := by decide +kernel
theorem dX11_stood_98 : decode cX11_stood 98 = .ok (.goto 4, 3) := by decide +kernel
theorem dX11_stood_101 : decode cX11_stood 101 = .ok (.iconst 0, 1) := by decide +kernel
theorem dX11_stood_102 : decode cX11_stood 102 = .ok (.istore_n 3, 1) := by decide +kernel
theorem dX11_stood_103 : decode cX11_stood 103 = .ok (.iinc 4 1, 3) := by decide +kernel
theorem dX11_stood_106 : decode cX11_stood 106 = .ok (.goto (-43), 3) := by decide +kernel
theorem dX11_stood_109 : decode cX11_stood 109 = .ok (.iload_n 3, 1) := by decide +kernel
theorem dX11_stood_110 : decode cX11_stood 110 = .ok (.ireturn, 1) := by decide +kernel
theorem dX11_takes_0 : decode cX11_takes 0 = .ok (.aload_n 0, 1) := by decide +kernel
theorem dX11_takes_1 : decode cX11_takes 1 = .ok (.invokevirtual 188, 3) := by decide +kernel
theorem dX11_takes_4 : decode cX11_takes 4 = .ok (.aload_n 0, 1) := by decide +kernel
theorem dX11_takes_5 : decode cX11_takes 5 = .ok (.aload_n 1, 1) := by decide +kernel
theorem dX11_takes_6 : decode cX11_takes 6 = .ok (.invokevirtual 191, 3) := by decide +kernel
theorem dX11_takes_9 : decode cX11_takes 9 = .ok (.istore_n 2, 1) := by decide +kernel
theorem dX11_takes_10 : decode cX11_takes 10 = .ok (.aload_n 0, 1) := by decide +kernel
theorem dX11_takes_11 : decode cX11_takes 11 = .ok (.dup, 1) := by decide +kernel
theorem dX11_takes_12 : decode cX11_takes 12 = .ok (.getfield 168, 3) := by decide +kernel
theorem dX11_takes_15 : decode cX11_takes 15 = .ok (.iload_n 2, 1) := by decide +kernel
theorem dX11_takes_16 : decode cX11_takes 16 = .ok (.ifCond .eq 10, 3) := by decide +kernel
theorem dX11_takes_19 : decode cX11_takes 19 = .ok (.aload_n 1, 1) := by decide +kernel
theorem dX11_takes_20 : decode cX11_takes 20 = .ok (.invokevirtual 179, 3) := by decide +kernel
theorem dX11_takes_23 : decode cX11_takes 23 = .ok (.goto 4, 3) := by decide +kernel
theorem dX11_takes_26 : decode cX11_takes 26 = .ok (.iconst 0, 1) := by decide +kernel
theorem dX11_takes_27 : decode cX11_takes 27 = .ok (.iadd, 1) := by decide +kernel
theorem dX11_takes_28 : decode cX11_takes 28 = .ok (.putfield 168, 3) := by decide +kernel
theorem dX11_takes_31 : decode cX11_takes 31 = .ok (.iload_n 2, 1) := by decide +kernel
theorem dX11_takes_32 : decode cX11_takes 32 = .ok (.ireturn, 1) := by decide +kernel
theorem dX11_entry_0 : decode cX11_entry 0 = .ok (.aload_n 0, 1) := by decide +kernel
theorem dX11_entry_1 : decode cX11_entry 1 = .ok (.getfield 165, 3) := by decide +kernel
theorem dX11_entry_4 : decode cX11_entry 4 = .ok (.ifCond .ne 51, 3) := by decide +kernel
theorem dX11_entry_7 : decode cX11_entry 7 = .ok (.aload_n 0, 1) := by decide +kernel
theorem dX11_entry_8 : decode cX11_entry 8 = .ok (.getfield 72, 3) := by decide +kernel
theorem dX11_entry_11 : decode cX11_entry 11 = .ok (.sipush 300, 3) := by decide +kernel
theorem dX11_entry_14 : decode cX11_entry 14 = .ok (.aload_n 0, 1) := by decide +kernel
theorem dX11_entry_15 : decode cX11_entry 15 = .ok (.getfield 195, 3) := by decide +kernel
theorem dX11_entry_18 : decode cX11_entry 18 = .ok (.imul, 1) := by decide +kernel
theorem dX11_entry_19 : decode cX11_entry 19 = .ok (.aload_n 0, 1) := by decide +kernel
theorem dX11_entry_20 : decode cX11_entry 20 = .ok (.getfield 198, 3) := by decide +kernel
theorem dX11_entry_23 : decode cX11_entry 23 = .ok (.iadd, 1) := by decide +kernel
theorem dX11_entry_24 : decode cX11_entry 24 = .ok (.iload_n 1, 1) := by decide +kernel
theorem dX11_entry_25 : decode cX11_entry 25 = .ok (.iastore, 1) := by decide +kernel
theorem dX11_entry_26 : decode cX11_entry 26 = .ok (.aload_n 0, 1) := by decide +kernel
theorem dX11_entry_27 : decode cX11_entry 27 = .ok (.getfield 75, 3) := by decide +kernel
theorem dX11_entry_30 : decode cX11_entry 30 = .ok (.sipush 300, 3) := by decide +kernel
theorem dX11_entry_33 : decode cX11_entry 33 = .ok (.aload_n 0, 1) := by decide +kernel
theorem dX11_entry_34 : decode cX11_entry 34 = .ok (.getfield 195, 3) := by decide +kernel
theorem dX11_entry_37 : decode cX11_entry 37 = .ok (.imul, 1) := by decide +kernel
theorem dX11_entry_38 : decode cX11_entry 38 = .ok (.aload_n 0, 1) := by decide +kernel
theorem dX11_entry_39 : decode cX11_entry 39 = .ok (.getfield 198, 3) := by decide +kernel
theorem dX11_entry_42 : decode cX11_entry 42 = .ok (.iadd, 1) := by decide +kernel
theorem dX11_entry_43 : decode cX11_entry 43 = .ok (.iload_n 2, 1) := by decide +kernel
theorem dX11_entry_44 : decode cX11_entry 44 = .ok (.iastore, 1) := by decide +kernel
theorem dX11_entry_45 : decode cX11_entry 45 = .ok (.aload_n 0, 1) := by decide +kernel
theorem dX11_entry_46 : decode cX11_entry 46 = .ok (.dup, 1) := by decide +kernel
theorem dX11_entry_47 : decode cX11_entry 47 = .ok (.getfield 198, 3) := by decide +kernel
theorem dX11_entry_50 : decode cX11_entry 50 = .ok (.iconst 1, 1) := by decide +kernel
theorem dX11_entry_51 : decode cX11_entry 51 = .ok (.iadd, 1) := by decide +kernel
theorem dX11_entry_52 : decode cX11_entry 52 = .ok (.putfield 198, 3) := by decide +kernel
theorem dX11_entry_55 : decode cX11_entry 55 = .ok (.return_, 1) := by decide +kernel
theorem dX11_isCounted_0 : decode cX11_isCounted 0 = .ok (.aload_n 0, 1) := by decide +kernel
theorem dX11_isCounted_1 : decode cX11_isCounted 1 = .ok (.getfield 201, 3) := by decide +kernel
theorem dX11_isCounted_4 : decode cX11_isCounted 4 = .ok (.bipush 60, 2) := by decide +kernel
theorem dX11_isCounted_6 : decode cX11_isCounted 6 = .ok (.if_icmp .ne 9, 3) := by decide +kernel
theorem dX11_isCounted_9 : decode cX11_isCounted 9 = .ok (.aload_n 0, 1) := by decide +kernel
theorem dX11_isCounted_10 : decode cX11_isCounted 10 = .ok (.iconst 3, 1) := by decide +kernel
theorem dX11_isCounted_11 : decode cX11_isCounted 11 = .ok (.iload_n 1, 1) := by decide +kernel
theorem dX11_isCounted_12 : decode cX11_isCounted 12 = .ok (.invokevirtual 204, 3) := by decide +kernel
theorem dX11_isCounted_15 : decode cX11_isCounted 15 = .ok (.aload_n 0, 1) := by decide +kernel
theorem dX11_isCounted_16 : decode cX11_isCounted 16 = .ok (.dup, 1) := by decide +kernel
theorem dX11_isCounted_17 : decode cX11_isCounted 17 = .ok (.getfield 201, 3) := by decide +kernel
theorem dX11_isCounted_20 : decode cX11_isCounted 20 = .ok (.iconst 1, 1) := by decide +kernel
theorem dX11_isCounted_21 : decode cX11_isCounted 21 = .ok (.iadd, 1) := by decide +kernel
theorem dX11_isCounted_22 : decode cX11_isCounted 22 = .ok (.putfield 201, 3) := by decide +kernel
theorem dX11_isCounted_25 : decode cX11_isCounted 25 = .ok (.return_, 1) := by decide +kernel
theorem dX11_digits_0 : decode cX11_digits 0 = .ok (.aload_n 0, 1) := by decide +kernel
theorem dX11_digits_1 : decode cX11_digits 1 = .ok (.invokevirtual 208, 3) := by decide +kernel
theorem dX11_digits_4 : decode cX11_digits 4 = .ok (.ifCond .ne 14, 3) := by decide +kernel
theorem dX11_digits_7 : decode cX11_digits 7 = .ok (.aload_n 0, 1) := by decide +kernel
theorem dX11_digits_8 : decode cX11_digits 8 = .ok (.iconst 0, 1) := by decide +kernel
theorem dX11_digits_9 : decode cX11_digits 9 = .ok (.aload_n 0, 1) := by decide +kernel
theorem dX11_digits_10 : decode cX11_digits 10 = .ok (.getfield 168, 3) := by decide +kernel
theorem dX11_digits_13 : decode cX11_digits 13 = .ok (.invokevirtual 204, 3) := by decide +kernel
theorem dX11_digits_16 : decode cX11_digits 16 = .ok (.iconst 0, 1) := by decide +kernel
theorem dX11_digits_17 : decode cX11_digits 17 = .ok (.ireturn, 1) := by decide +kernel
theorem dX11_digits_18 : decode cX11_digits 18 = .ok (.aload_n 0, 1) := by decide +kernel
theorem dX11_digits_19 : decode cX11_digits 19 = .ok (.getfield 168, 3) := by decide +kernel
theorem dX11_digits_22 : decode cX11_digits 22 = .ok (.istore_n 2, 1) := by decide +kernel
theorem dX11_digits_23 : decode cX11_digits 23 = .ok (.iconst 0, 1) := by decide +kernel
theorem dX11_digits_24 : decode cX11_digits 24 = .ok (.istore_n 3, 1) := by decide +kernel
theorem dX11_digits_25 : decode cX11_digits 25 = .ok (.aload_n 0, 1) := by decide +kernel
theorem dX11_digits_26 : decode cX11_digits 26 = .ok (.invokevirtual 208, 3) := by decide +kernel
theorem dX11_digits_29 : decode cX11_digits 29 = .ok (.ifCond .eq 43, 3) := by decide +kernel
theorem dX11_digits_32 : decode cX11_digits 32 = .ok (.aload_n 0, 1) := by decide +kernel
theorem dX11_digits_33 : decode cX11_digits 33 = .ok (.getfield 168, 3) := by decide +kernel
theorem dX11_digits_36 : decode cX11_digits 36 = .ok (.iload_n 2, 1) := by decide +kernel
theorem dX11_digits_37 : decode cX11_digits 37 = .ok (.isub, 1) := by decide +kernel
theorem dX11_digits_38 : decode cX11_digits 38 = .ok (.iconst 5, 1) := by decide +kernel
theorem dX11_digits_39 : decode cX11_digits 39 = .ok (.if_icmp .ge 18, 3) := by decide +kernel
theorem dX11_digits_42 : decode cX11_digits 42 = .ok (.bipush 10, 2) := by decide +kernel
theorem dX11_digits_44 : decode cX11_digits 44 = .ok (.iload_n 3, 1) := by decide +kernel
theorem dX11_digits_45 : decode cX11_digits 45 = .ok (.imul, 1) := by decide +kernel
theorem dX11_digits_46 : decode cX11_digits 46 = .ok (.aload_n 0, 1) := by decide +kernel
theorem dX11_digits_47 : decode cX11_digits 47 = .ok (.invokevirtual 171, 3) := by decide +kernel
theorem dX11_digits_50 : decode cX11_digits 50 = .ok (.iadd, 1) := by decide +kernel
theorem dX11_digits_51 : decode cX11_digits 51 = .ok (.bipush 48, 2) := by decide +kernel
theorem dX11_digits_53 : decode cX11_digits 53 = .ok (.isub, 1) := by decide +kernel
theorem dX11_digits_54 : decode cX11_digits 54 = .ok (.goto 4, 3) := by decide +kernel
theorem dX11_digits_57 : decode cX11_digits 57 = .ok (.iload_n 3, 1) := by decide +kernel
theorem dX11_digits_58 : decode cX11_digits 58 = .ok (.istore_n 3, 1) := by decide +kernel
theorem dX11_digits_59 : decode cX11_digits 59 = .ok (.aload_n 0, 1) := by decide +kernel
theorem dX11_digits_60 : decode cX11_digits 60 = .ok (.dup, 1) := by decide +kernel
theorem dX11_digits_61 : decode cX11_digits 61 = .ok (.getfield 168, 3) := by decide +kernel
theorem dX11_digits_64 : decode cX11_digits 64 = .ok (.iconst 1, 1) := by decide +kernel
theorem dX11_digits_65 : decode cX11_digits 65 = .ok (.iadd, 1) := by decide +kernel
theorem dX11_digits_66 : decode cX11_digits 66 = .ok (.putfield 168, 3) := by decide +kernel
theorem dX11_digits_69 : decode cX11_digits 69 = .ok (.goto (-44), 3) := by decide +kernel
theorem dX11_digits_72 : decode cX11_digits 72 = .ok (.aload_n 0, 1) := by decide +kernel
theorem dX11_digits_73 : decode cX11_digits 73 = .ok (.getfield 168, 3) := by decide +kernel
theorem dX11_digits_76 : decode cX11_digits 76 = .ok (.iload_n 2, 1) := by decide +kernel
theorem dX11_digits_77 : decode cX11_digits 77 = .ok (.isub, 1) := by decide +kernel
theorem dX11_digits_78 : decode cX11_digits 78 = .ok (.iconst 5, 1) := by decide +kernel
theorem dX11_digits_79 : decode cX11_digits 79 = .ok (.if_icmp .gt 8, 3) := by decide +kernel
theorem dX11_digits_82 : decode cX11_digits 82 = .ok (.iload_n 3, 1) := by decide +kernel
theorem dX11_digits_83 : decode cX11_digits 83 = .ok (.iload_n 1, 1) := by decide +kernel
theorem dX11_digits_84 : decode cX11_digits 84 = .ok (.if_icmp .le 9, 3) := by decide +kernel
theorem dX11_digits_87 : decode cX11_digits 87 = .ok (.aload_n 0, 1) := by decide +kernel
theorem dX11_digits_88 : decode cX11_digits 88 = .ok (.iconst 1, 1) := by decide +kernel
theorem dX11_digits_89 : decode cX11_digits 89 = .ok (.iload_n 2, 1) := by decide +kernel
theorem dX11_digits_90 : decode cX11_digits 90 = .ok (.invokevirtual 204, 3) := by decide +kernel
theorem dX11_digits_93 : decode cX11_digits 93 = .ok (.iload_n 3, 1) := by decide +kernel
theorem dX11_digits_94 : decode cX11_digits 94 = .ok (.ireturn, 1) := by decide +kernel
theorem dX11_value_0 : decode cX11_value 0 = .ok (.aload_n 0, 1) := by decide +kernel
theorem dX11_value_1 : decode cX11_value 1 = .ok (.invokevirtual 188, 3) := by decide +kernel
theorem dX11_value_4 : decode cX11_value 4 = .ok (.aload_n 0, 1) := by decide +kernel
theorem dX11_value_5 : decode cX11_value 5 = .ok (.getfield 168, 3) := by decide +kernel
theorem dX11_value_8 : decode cX11_value 8 = .ok (.istore_n 1, 1) := by decide +kernel
theorem dX11_value_9 : decode cX11_value 9 = .ok (.aload_n 0, 1) := by decide +kernel
theorem dX11_value_10 : decode cX11_value 10 = .ok (.invokevirtual 208, 3) := by decide +kernel
theorem dX11_value_13 : decode cX11_value 13 = .ok (.ifCond .eq 22, 3) := by decide +kernel
theorem dX11_value_16 : decode cX11_value 16 = .ok (.aload_n 0, 1) := by decide +kernel
theorem dX11_value_17 : decode cX11_value 17 = .ok (.ldc 212, 2) := by decide +kernel
theorem dX11_value_19 : decode cX11_value 19 = .ok (.invokevirtual 213, 3) := by decide +kernel
theorem dX11_value_22 : decode cX11_value 22 = .ok (.istore_n 2, 1) := by decide +kernel
theorem dX11_value_23 : decode cX11_value 23 = .ok (.aload_n 0, 1) := by decide +kernel
theorem dX11_value_24 : decode cX11_value 24 = .ok (.iload_n 1, 1) := by decide +kernel
theorem dX11_value_25 : decode cX11_value 25 = .ok (.invokevirtual 217, 3) := by decide +kernel
theorem dX11_value_28 : decode cX11_value 28 = .ok (.aload_n 0, 1) := by decide +kernel
theorem dX11_value_29 : decode cX11_value 29 = .ok (.iconst 0, 1) := by decide +kernel
theorem dX11_value_30 : decode cX11_value 30 = .ok (.iload_n 2, 1) := by decide +kernel
theorem dX11_value_31 : decode cX11_value 31 = .ok (.invokevirtual 220, 3) := by decide +kernel
theorem dX11_value_34 : decode cX11_value 34 = .ok (.return_, 1) := by decide +kernel
theorem dX11_value_35 : decode cX11_value 35 = .ok (.iconst 0, 1) := by decide +kernel
theorem dX11_value_36 : decode cX11_value 36 = .ok (.istore_n 2, 1) := by decide +kernel
theorem dX11_value_37 : decode cX11_value 37 = .ok (.iload_n 2, 1) := by decide +kernel
theorem dX11_value_38 : decode cX11_value 38 = .ok (.aload_n 0, 1) := by decide +kernel
theorem dX11_value_39 : decode cX11_value 39 = .ok (.getfield 64, 3) := by decide +kernel
theorem dX11_value_42 : decode cX11_value 42 = .ok (.if_icmp .ge 20, 3) := by decide +kernel
theorem dX11_value_45 : decode cX11_value 45 = .ok (.aload_n 0, 1) := by decide +kernel
theorem dX11_value_46 : decode cX11_value 46 = .ok (.iload_n 2, 1) := by decide +kernel
theorem dX11_value_47 : decode cX11_value 47 = .ok (.invokestatic 223, 3) := by decide +kernel
theorem dX11_value_50 : decode cX11_value 50 = .ok (.invokevirtual 191, 3) := by decide +kernel
theorem dX11_value_53 : decode cX11_value 53 = .ok (.ifCond .ne 9, 3) := by decide +kernel
theorem dX11_value_56 : decode cX11_value 56 = .ok (.iinc 2 1, 3) := by decide +kernel
theorem dX11_value_59 : decode cX11_value 59 = .ok (.goto (-22), 3) := by decide +kernel
theorem dX11_value_62 : decode cX11_value 62 = .ok (.iload_n 2, 1) := by decide +kernel
theorem dX11_value_63 : decode cX11_value 63 = .ok (.aload_n 0, 1) := by decide +kernel
theorem dX11_value_64 : decode cX11_value 64 = .ok (.getfield 64, 3) := by decide +kernel
theorem dX11_value_67 : decode cX11_value 67 = .ok (.if_icmp .ne 10, 3) := by decide +kernel
theorem dX11_value_70 : decode cX11_value 70 = .ok (.aload_n 0, 1) := by decide +kernel
theorem dX11_value_71 : decode cX11_value 71 = .ok (.iconst 0, 1) := by decide +kernel
theorem dX11_value_72 : decode cX11_value 72 = .ok (.iload_n 1, 1) := by decide +kernel
theorem dX11_value_73 : decode cX11_value 73 = .ok (.invokevirtual 204, 3) := by decide +kernel
theorem dX11_value_76 : decode cX11_value 76 = .ok (.return_, 1) := by decide +kernel
theorem dX11_value_77 : decode cX11_value 77 = .ok (.aload_n 0, 1) := by decide +kernel
theorem dX11_value_78 : decode cX11_value 78 = .ok (.iload_n 1, 1) := by decide +kernel
theorem dX11_value_79 : decode cX11_value 79 = .ok (.invokevirtual 217, 3) := by decide +kernel
theorem dX11_value_82 : decode cX11_value 82 = .ok (.aload_n 0, 1) := by decide +kernel
theorem dX11_value_83 : decode cX11_value 83 = .ok (.dup, 1) := by decide +kernel
theorem dX11_value_84 : decode cX11_value 84 = .ok (.getfield 168, 3) := by decide +kernel
theorem dX11_value_87 : decode cX11_value 87 = .ok (.iload_n 2, 1) := by decide +kernel
theorem dX11_value_88 : decode cX11_value 88 = .ok (.invokestatic 223, 3) := by decide +kernel
theorem dX11_value_91 : decode cX11_value 91 = .ok (.invokevirtual 179, 3) := by decide +kernel
theorem dX11_value_94 : decode cX11_value 94 = .ok (.iadd, 1) := by decide +kernel
theorem dX11_value_95 : decode cX11_value 95 = .ok (.putfield 168, 3) := by decide +kernel
theorem dX11_value_98 : decode cX11_value 98 = .ok (.aload_n 0, 1) := by decide +kernel
theorem dX11_value_99 : decode cX11_value 99 = .ok (.iconst 1, 1) := by decide +kernel
theorem dX11_value_100 : decode cX11_value 100 = .ok (.iload_n 2, 1) := by decide +kernel
theorem dX11_value_101 : decode cX11_value 101 = .ok (.invokevirtual 220, 3) := by decide +kernel
theorem dX11_value_104 : decode cX11_value 104 = .ok (.return_, 1) := by decide +kernel
theorem dX11_term_0 : decode cX11_term 0 = .ok (.aload_n 0, 1) := by decide +kernel
theorem dX11_term_1 : decode cX11_term 1 = .ok (.invokevirtual 227, 3) := by decide +kernel
theorem dX11_term_4 : decode cX11_term 4 = .ok (.aload_n 0, 1) := by decide +kernel
theorem dX11_term_5 : decode cX11_term 5 = .ok (.invokevirtual 188, 3) := by decide +kernel
theorem dX11_term_8 : decode cX11_term 8 = .ok (.aload_n 0, 1) := by decide +kernel
theorem dX11_term_9 : decode cX11_term 9 = .ok (.getfield 165, 3) := by decide +kernel
theorem dX11_term_12 : decode cX11_term 12 = .ok (.ifCond .ne 88, 3) := by decide +kernel
theorem dX11_term_15 : decode cX11_term 15 = .ok (.aload_n 0, 1) := by decide +kernel
theorem dX11_term_16 : decode cX11_term 16 = .ok (.invokevirtual 171, 3) := by decide +kernel
theorem dX11_term_19 : decode cX11_term 19 = .ok (.bipush 42, 2) := by decide +kernel
theorem dX11_term_21 : decode cX11_term 21 = .ok (.if_icmp .eq 21, 3) := by decide +kernel
theorem dX11_term_24 : decode cX11_term 24 = .ok (.aload_n 0, 1) := by decide +kernel
theorem dX11_term_25 : decode cX11_term 25 = .ok (.invokevirtual 171, 3) := by decide +kernel
theorem dX11_term_28 : decode cX11_term 28 = .ok (.bipush 47, 2) := by decide +kernel
theorem dX11_term_30 : decode cX11_term 30 = .ok (.if_icmp .eq 12, 3) := by decide +kernel
theorem dX11_term_33 : decode cX11_term 33 = .ok (.aload_n 0, 1) := by decide +kernel
theorem dX11_term_34 : decode cX11_term 34 = .ok (.invokevirtual 171, 3) := by decide +kernel
theorem dX11_term_37 : decode cX11_term 37 = .ok (.bipush 37, 2) := by decide +kernel
theorem dX11_term_39 : decode cX11_term 39 = .ok (.if_icmp .ne 61, 3) := by decide +kernel
theorem dX11_term_42 : decode cX11_term 42 = .ok (.aload_n 0, 1) := by decide +kernel
theorem dX11_term_43 : decode cX11_term 43 = .ok (.invokevirtual 171, 3) := by decide +kernel
theorem dX11_term_46 : decode cX11_term 46 = .ok (.bipush 42, 2) := by decide +kernel
theorem dX11_term_48 : decode cX11_term 48 = .ok (.if_icmp .ne 8, 3) := by decide +kernel
theorem dX11_term_51 : decode cX11_term 51 = .ok (.bipush 13, 2) := by decide +kernel
theorem dX11_term_53 : decode cX11_term 53 = .ok (.goto 19, 3) := by decide +kernel
theorem dX11_term_56 : decode cX11_term 56 = .ok (.aload_n 0, 1) := by decide +kernel
theorem dX11_term_57 : decode cX11_term 57 = .ok (.invokevirtual 171, 3) := by decide +kernel
theorem dX11_term_60 : decode cX11_term 60 = .ok (.bipush 47, 2) := by decide +kernel
theorem dX11_term_62 : decode cX11_term 62 = .ok (.if_icmp .ne 8, 3) := by decide +kernel
theorem dX11_term_65 : decode cX11_term 65 = .ok (.bipush 14, 2) := by decide +kernel
theorem dX11_term_67 : decode cX11_term 67 = .ok (.goto 5, 3) := by decide +kernel
theorem dX11_term_70 : decode cX11_term 70 = .ok (.bipush 15, 2) := by decide +kernel
theorem dX11_term_72 : decode cX11_term 72 = .ok (.istore_n 1, 1) := by decide +kernel
theorem dX11_term_73 : decode cX11_term 73 = .ok (.aload_n 0, 1) := by decide +kernel
theorem dX11_term_74 : decode cX11_term 74 = .ok (.dup, 1) := by decide +kernel
theorem dX11_term_75 : decode cX11_term 75 = .ok (.getfield 168, 3) := by decide +kernel
theorem dX11_term_78 : decode cX11_term 78 = .ok (.iconst 1, 1) := by decide +kernel
theorem dX11_term_79 : decode cX11_term 79 = .ok (.iadd, 1) := by decide +kernel
theorem dX11_term_80 : decode cX11_term 80 = .ok (.putfield 168, 3) := by decide +kernel
theorem dX11_term_83 : decode cX11_term 83 = .ok (.aload_n 0, 1) := by decide +kernel
theorem dX11_term_84 : decode cX11_term 84 = .ok (.invokevirtual 227, 3) := by decide +kernel
theorem dX11_term_87 : decode cX11_term 87 = .ok (.aload_n 0, 1) := by decide +kernel
theorem dX11_term_88 : decode cX11_term 88 = .ok (.iload_n 1, 1) := by decide +kernel
theorem dX11_term_89 : decode cX11_term 89 = .ok (.iconst 0, 1) := by decide +kernel
theorem dX11_term_90 : decode cX11_term 90 = .ok (.invokevirtual 220, 3) := by decide +kernel
theorem dX11_term_93 : decode cX11_term 93 = .ok (.aload_n 0, 1) := by decide +kernel
theorem dX11_term_94 : decode cX11_term 94 = .ok (.invokevirtual 188, 3) := by decide +kernel
theorem dX11_term_97 : decode cX11_term 97 = .ok (.goto (-89), 3) := by decide +kernel
theorem dX11_term_100 : decode cX11_term 100 = .ok (.return_, 1) := by decide +kernel
theorem dX11_sum_0 : decode cX11_sum 0 = .ok (.aload_n 0, 1) := by decide +kernel
theorem dX11_sum_1 : decode cX11_sum 1 = .ok (.invokevirtual 230, 3) := by decide +kernel
theorem dX11_sum_4 : decode cX11_sum 4 = .ok (.aload_n 0, 1) := by decide +kernel
theorem dX11_sum_5 : decode cX11_sum 5 = .ok (.getfield 165, 3) := by decide +kernel
theorem dX11_sum_8 : decode cX11_sum 8 = .ok (.ifCond .ne 59, 3) := by decide +kernel
theorem dX11_sum_11 : decode cX11_sum 11 = .ok (.aload_n 0, 1) := by decide +kernel
theorem dX11_sum_12 : decode cX11_sum 12 = .ok (.invokevirtual 171, 3) := by decide +kernel
theorem dX11_sum_15 : decode cX11_sum 15 = .ok (.bipush 43, 2) := by decide +kernel
theorem dX11_sum_17 : decode cX11_sum 17 = .ok (.if_icmp .eq 12, 3) := by decide +kernel
theorem dX11_sum_20 : decode cX11_sum 20 = .ok (.aload_n 0, 1) := by decide +kernel
theorem dX11_sum_21 : decode cX11_sum 21 = .ok (.invokevirtual 171, 3) := by decide +kernel
theorem dX11_sum_24 : decode cX11_sum 24 = .ok (.bipush 45, 2) := by decide +kernel
theorem dX11_sum_26 : decode cX11_sum 26 = .ok (.if_icmp .ne 41, 3) := by decide +kernel
theorem dX11_sum_29 : decode cX11_sum 29 = .ok (.aload_n 0, 1) := by decide +kernel
theorem dX11_sum_30 : decode cX11_sum 30 = .ok (.invokevirtual 171, 3) := by decide +kernel
theorem dX11_sum_33 : decode cX11_sum 33 = .ok (.bipush 43, 2) := by decide +kernel
theorem dX11_sum_35 : decode cX11_sum 35 = .ok (.if_icmp .ne 7, 3) := by decide +kernel
theorem dX11_sum_38 : decode cX11_sum 38 = .ok (.iconst 2, 1) := by decide +kernel
theorem dX11_sum_39 : decode cX11_sum 39 = .ok (.goto 4, 3) := by decide +kernel
theorem dX11_sum_42 : decode cX11_sum 42 = .ok (.iconst 3, 1) := by decide +kernel
theorem dX11_sum_43 : decode cX11_sum 43 = .ok (.istore_n 1, 1) := by decide +kernel
theorem dX11_sum_44 : decode cX11_sum 44 = .ok (.aload_n 0, 1) := by decide +kernel
theorem dX11_sum_45 : decode cX11_sum 45 = .ok (.dup, 1) := by decide +kernel
theorem dX11_sum_46 : decode cX11_sum 46 = .ok (.getfield 168, 3) := by decide +kernel
theorem dX11_sum_49 : decode cX11_sum 49 = .ok (.iconst 1, 1) := by decide +kernel
theorem dX11_sum_50 : decode cX11_sum 50 = .ok (.iadd, 1) := by decide +kernel
theorem dX11_sum_51 : decode cX11_sum 51 = .ok (.putfield 168, 3) := by decide +kernel
theorem dX11_sum_54 : decode cX11_sum 54 = .ok (.aload_n 0, 1) := by decide +kernel
theorem dX11_sum_55 : decode cX11_sum 55 = .ok (.invokevirtual 230, 3) := by decide +kernel
theorem dX11_sum_58 : decode cX11_sum 58 = .ok (.aload_n 0, 1) := by decide +kernel
theorem dX11_sum_59 : decode cX11_sum 59 = .ok (.iload_n 1, 1) := by decide +kernel
theorem dX11_sum_60 : decode cX11_sum 60 = .ok (.iconst 0, 1) := by decide +kernel
theorem dX11_sum_61 : decode cX11_sum 61 = .ok (.invokevirtual 220, 3) := by decide +kernel
theorem dX11_sum_64 : decode cX11_sum 64 = .ok (.goto (-60), 3) := by decide +kernel
theorem dX11_sum_67 : decode cX11_sum 67 = .ok (.return_, 1) := by decide +kernel
theorem dX11_compared_0 : decode cX11_compared 0 = .ok (.aload_n 0, 1) := by decide +kernel
theorem dX11_compared_1 : decode cX11_compared 1 = .ok (.invokevirtual 233, 3) := by decide +kernel
theorem dX11_compared_4 : decode cX11_compared 4 = .ok (.aload_n 0, 1) := by decide +kernel
theorem dX11_compared_5 : decode cX11_compared 5 = .ok (.invokevirtual 171, 3) := by decide +kernel
theorem dX11_compared_8 : decode cX11_compared 8 = .ok (.istore_n 1, 1) := by decide +kernel
theorem dX11_compared_9 : decode cX11_compared 9 = .ok (.iload_n 1, 1) := by decide +kernel
theorem dX11_compared_10 : decode cX11_compared 10 = .ok (.bipush 60, 2) := by decide +kernel
theorem dX11_compared_12 : decode cX11_compared 12 = .ok (.if_icmp .eq 25, 3) := by decide +kernel
theorem dX11_compared_15 : decode cX11_compared 15 = .ok (.iload_n 1, 1) := by decide +kernel
theorem dX11_compared_16 : decode cX11_compared 16 = .ok (.bipush 61, 2) := by decide +kernel
theorem dX11_compared_18 : decode cX11_compared 18 = .ok (.if_icmp .eq 19, 3) := by decide +kernel
theorem dX11_compared_21 : decode cX11_compared 21 = .ok (.iload_n 1, 1) := by decide +kernel
theorem dX11_compared_22 : decode cX11_compared 22 = .ok (.bipush 62, 2) := by decide +kernel
theorem dX11_compared_24 : decode cX11_compared 24 = .ok (.if_icmp .eq 13, 3) := by decide +kernel
theorem dX11_compared_27 : decode cX11_compared 27 = .ok (.aload_n 0, 1) := by decide +kernel
theorem dX11_compared_28 : decode cX11_compared 28 = .ok (.iconst 0, 1) := by decide +kernel
theorem dX11_compared_29 : decode cX11_compared 29 = .ok (.aload_n 0, 1) := by decide +kernel
theorem dX11_compared_30 : decode cX11_compared 30 = .ok (.getfield 168, 3) := by decide +kernel
theorem dX11_compared_33 : decode cX11_compared 33 = .ok (.invokevirtual 204, 3) := by decide +kernel
theorem dX11_compared_36 : decode cX11_compared 36 = .ok (.return_, 1) := by decide +kernel
theorem dX11_compared_37 : decode cX11_compared 37 = .ok (.aload_n 0, 1) := by decide +kernel
theorem dX11_compared_38 : decode cX11_compared 38 = .ok (.aload_n 0, 1) := by decide +kernel
theorem dX11_compared_39 : decode cX11_compared 39 = .ok (.getfield 168, 3) := by decide +kernel
theorem dX11_compared_42 : decode cX11_compared 42 = .ok (.invokevirtual 217, 3) := by decide +kernel
theorem dX11_compared_45 : decode cX11_compared 45 = .ok (.aload_n 0, 1) := by decide +kernel
theorem dX11_compared_46 : decode cX11_compared 46 = .ok (.dup, 1) := by decide +kernel
theorem dX11_compared_47 : decode cX11_compared 47 = .ok (.getfield 168, 3) := by decide +kernel
theorem dX11_compared_50 : decode cX11_compared 50 = .ok (.iconst 1, 1) := by decide +kernel
theorem dX11_compared_51 : decode cX11_compared 51 = .ok (.iadd, 1) := by decide +kernel
theorem dX11_compared_52 : decode cX11_compared 52 = .ok (.putfield 168, 3) := by decide +kernel
theorem dX11_compared_55 : decode cX11_compared 55 = .ok (.iload_n 1, 1) := by decide +kernel
theorem dX11_compared_56 : decode cX11_compared 56 = .ok (.bipush 61, 2) := by decide +kernel
theorem dX11_compared_58 : decode cX11_compared 58 = .ok (.if_icmp .eq 16, 3) := by decide +kernel
theorem dX11_compared_61 : decode cX11_compared 61 = .ok (.aload_n 0, 1) := by decide +kernel
theorem dX11_compared_62 : decode cX11_compared 62 = .ok (.invokevirtual 171, 3) := by decide +kernel
theorem dX11_compared_65 : decode cX11_compared 65 = .ok (.bipush 61, 2) := by decide +kernel
theorem dX11_compared_67 : decode cX11_compared 67 = .ok (.if_icmp .ne 7, 3) := by decide +kernel
theorem dX11_compared_70 : decode cX11_compared 70 = .ok (.iconst 1, 1) := by decide +kernel
theorem dX11_compared_71 : decode cX11_compared 71 = .ok (.goto 4, 3) := by decide +kernel
theorem dX11_compared_74 : decode cX11_compared 74 = .ok (.iconst 0, 1) := by decide +kernel
theorem dX11_compared_75 : decode cX11_compared 75 = .ok (.istore_n 2, 1) := by decide +kernel
theorem dX11_compared_76 : decode cX11_compared 76 = .ok (.aload_n 0, 1) := by decide +kernel
theorem dX11_compared_77 : decode cX11_compared 77 = .ok (.dup, 1) := by decide +kernel
theorem dX11_compared_78 : decode cX11_compared 78 = .ok (.getfield 168, 3) := by decide +kernel
theorem dX11_compared_81 : decode cX11_compared 81 = .ok (.iload_n 2, 1) := by decide +kernel
theorem dX11_compared_82 : decode cX11_compared 82 = .ok (.ifCond .eq 7, 3) := by decide +kernel
theorem dX11_compared_85 : decode cX11_compared 85 = .ok (.iconst 1, 1) := by decide +kernel
theorem dX11_compared_86 : decode cX11_compared 86 = .ok (.goto 4, 3) := by decide +kernel
theorem dX11_compared_89 : decode cX11_compared 89 = .ok (.iconst 0, 1) := by decide +kernel
theorem dX11_compared_90 : decode cX11_compared 90 = .ok (.iadd, 1) := by decide +kernel
theorem dX11_compared_91 : decode cX11_compared 91 = .ok (.putfield 168, 3) := by decide +kernel
theorem dX11_compared_94 : decode cX11_compared 94 = .ok (.aload_n 0, 1) := by decide +kernel
theorem dX11_compared_95 : decode cX11_compared 95 = .ok (.invokevirtual 233, 3) := by decide +kernel
theorem dX11_compared_98 : decode cX11_compared 98 = .ok (.aload_n 0, 1) := by decide +kernel
theorem dX11_compared_99 : decode cX11_compared 99 = .ok (.iload_n 1, 1) := by decide +kernel
theorem dX11_compared_100 : decode cX11_compared 100 = .ok (.bipush 61, 2) := by decide +kernel
theorem dX11_compared_102 : decode cX11_compared 102 = .ok (.if_icmp .ne 8, 3) := by decide +kernel
theorem dX11_compared_105 : decode cX11_compared 105 = .ok (.bipush 6, 2) := by decide +kernel
theorem dX11_compared_107 : decode cX11_compared 107 = .ok (.goto 32, 3) := by decide +kernel
theorem dX11_compared_110 : decode cX11_compared 110 = .ok (.iload_n 1, 1) := by decide +kernel
theorem dX11_compared_111 : decode cX11_compared 111 = .ok (.bipush 60, 2) := by decide +kernel
theorem dX11_compared_113 : decode cX11_compared 113 = .ok (.if_icmp .ne 15, 3) := by decide +kernel
theorem dX11_compared_116 : decode cX11_compared 116 = .ok (.iload_n 2, 1) := by decide +kernel
theorem dX11_compared_117 : decode cX11_compared 117 = .ok (.ifCond .eq 7, 3) := by decide +kernel
theorem dX11_compared_120 : decode cX11_compared 120 = .ok (.iconst 5, 1) := by decide +kernel
theorem dX11_compared_121 : decode cX11_compared 121 = .ok (.goto 18, 3) := by decide +kernel
theorem dX11_compared_124 : decode cX11_compared 124 = .ok (.iconst 4, 1) := by decide +kernel
theorem dX11_compared_125 : decode cX11_compared 125 = .ok (.goto 14, 3) := by decide +kernel
theorem dX11_compared_128 : decode cX11_compared 128 = .ok (.iload_n 2, 1) := by decide +kernel
theorem dX11_compared_129 : decode cX11_compared 129 = .ok (.ifCond .eq 8, 3) := by decide +kernel
theorem dX11_compared_132 : decode cX11_compared 132 = .ok (.bipush 7, 2) := by decide +kernel
theorem dX11_compared_134 : decode cX11_compared 134 = .ok (.goto 5, 3) := by decide +kernel
theorem dX11_compared_137 : decode cX11_compared 137 = .ok (.bipush 8, 2) := by decide +kernel
theorem dX11_compared_139 : decode cX11_compared 139 = .ok (.iconst 0, 1) := by decide +kernel
theorem dX11_compared_140 : decode cX11_compared 140 = .ok (.invokevirtual 220, 3) := by decide +kernel
theorem dX11_compared_143 : decode cX11_compared 143 = .ok (.return_, 1) := by decide +kernel
theorem dX11_top_0 : decode cX11_top 0 = .ok (.aload_n 0, 1) := by decide +kernel
theorem dX11_top_1 : decode cX11_top 1 = .ok (.getfield 236, 3) := by decide +kernel
theorem dX11_top_4 : decode cX11_top 4 = .ok (.ifCond .ne 7, 3) := by decide +kernel
theorem dX11_top_7 : decode cX11_top 7 = .ok (.iconst (-1), 1) := by decide +kernel
theorem dX11_top_8 : decode cX11_top 8 = .ok (.goto 14, 3) := by decide +kernel
theorem dX11_top_11 : decode cX11_top 11 = .ok (.aload_n 0, 1) := by decide +kernel
theorem dX11_top_12 : decode cX11_top 12 = .ok (.getfield 90, 3) := by decide +kernel
theorem dX11_top_15 : decode cX11_top 15 = .ok (.aload_n 0, 1) := by decide +kernel
theorem dX11_top_16 : decode cX11_top 16 = .ok (.getfield 236, 3) := by decide +kernel
theorem dX11_top_19 : decode cX11_top 19 = .ok (.iconst 1, 1) := by decide +kernel
theorem dX11_top_20 : decode cX11_top 20 = .ok (.isub, 1) := by decide +kernel
theorem dX11_top_21 : decode cX11_top 21 = .ok (.iaload, 1) := by decide +kernel
theorem dX11_top_22 : decode cX11_top 22 = .ok (.ireturn, 1) := by decide +kernel
theorem dX11_opens_0 : decode cX11_opens 0 = .ok (.iload_n 1, 1) := by decide +kernel
theorem dX11_opens_1 : decode cX11_opens 1 = .ok (.bipush 9, 2) := by decide +kernel
theorem dX11_opens_3 : decode cX11_opens 3 = .ok (.if_icmp .eq 9, 3) := by decide +kernel
theorem dX11_opens_6 : decode cX11_opens 6 = .ok (.iload_n 1, 1) := by decide +kernel
theorem dX11_opens_7 : decode cX11_opens 7 = .ok (.bipush 12, 2) := by decide +kernel
theorem dX11_opens_9 : decode cX11_opens 9 = .ok (.if_icmp .ne 31, 3) := by decide +kernel
theorem dX11_opens_12 : decode cX11_opens 12 = .ok (.aload_n 0, 1) := by decide +kernel
theorem dX11_opens_13 : decode cX11_opens 13 = .ok (.getfield 239, 3) := by decide +kernel
theorem dX11_opens_16 : decode cX11_opens 16 = .ok (.bipush 10, 2) := by decide +kernel
theorem dX11_opens_18 : decode cX11_opens 18 = .ok (.if_icmp .ne 12, 3) := by decide +kernel
theorem dX11_opens_21 : decode cX11_opens 21 = .ok (.aload_n 0, 1) := by decide +kernel
theorem dX11_opens_22 : decode cX11_opens 22 = .ok (.iconst 2, 1) := by decide +kernel
theorem dX11_opens_23 : decode cX11_opens 23 = .ok (.aload_n 0, 1) := by decide +kernel
theorem dX11_opens_24 : decode cX11_opens 24 = .ok (.getfield 168, 3) := by decide +kernel
theorem dX11_opens_27 : decode cX11_opens 27 = .ok (.invokevirtual 204, 3) := by decide +kernel
theorem dX11_opens_30 : decode cX11_opens 30 = .ok (.aload_n 0, 1) := by decide +kernel
theorem dX11_opens_31 : decode cX11_opens 31 = .ok (.dup, 1) := by decide +kernel
theorem dX11_opens_32 : decode cX11_opens 32 = .ok (.getfield 239, 3) := by decide +kernel
theorem dX11_opens_35 : decode cX11_opens 35 = .ok (.iconst 1, 1) := by decide +kernel
theorem dX11_opens_36 : decode cX11_opens 36 = .ok (.iadd, 1) := by decide +kernel
theorem dX11_opens_37 : decode cX11_opens 37 = .ok (.putfield 239, 3) := by decide +kernel
theorem dX11_opens_40 : decode cX11_opens 40 = .ok (.aload_n 0, 1) := by decide +kernel
theorem dX11_opens_41 : decode cX11_opens 41 = .ok (.getfield 90, 3) := by decide +kernel
theorem dX11_opens_44 : decode cX11_opens 44 = .ok (.aload_n 0, 1) := by decide +kernel
theorem dX11_opens_45 : decode cX11_opens 45 = .ok (.getfield 236, 3) := by decide +kernel
theorem dX11_opens_48 : decode cX11_opens 48 = .ok (.iload_n 1, 1) := by decide +kernel
theorem dX11_opens_49 : decode cX11_opens 49 = .ok (.iastore, 1) := by decide +kernel
theorem dX11_opens_50 : decode cX11_opens 50 = .ok (.aload_n 0, 1) := by decide +kernel
theorem dX11_opens_51 : decode cX11_opens 51 = .ok (.dup, 1) := by decide +kernel
theorem dX11_opens_52 : decode cX11_opens 52 = .ok (.getfield 236, 3) := by decide +kernel
theorem dX11_opens_55 : decode cX11_opens 55 = .ok (.iconst 1, 1) := by decide +kernel
theorem dX11_opens_56 : decode cX11_opens 56 = .ok (.iadd, 1) := by decide +kernel
theorem dX11_opens_57 : decode cX11_opens 57 = .ok (.putfield 236, 3) := by decide +kernel
theorem dX11_opens_60 : decode cX11_opens 60 = .ok (.return_, 1) := by decide +kernel
theorem dX11_answers_0 : decode cX11_answers 0 = .ok (.aload_n 0, 1) := by decide +kernel
theorem dX11_answers_1 : decode cX11_answers 1 = .ok (.invokevirtual 242, 3) := by decide +kernel
theorem dX11_answers_4 : decode cX11_answers 4 = .ok (.iload_n 1, 1) := by decide +kernel
theorem dX11_answers_5 : decode cX11_answers 5 = .ok (.if_icmp .ne 49, 3) := by decide +kernel
theorem dX11_answers_8 : decode cX11_answers 8 = .ok (.aload_n 0, 1) := by decide +kernel
theorem dX11_answers_9 : decode cX11_answers 9 = .ok (.getfield 165, 3) := by decide +kernel
theorem dX11_answers_12 : decode cX11_answers 12 = .ok (.ifCond .ne 42, 3) := by decide +kernel
theorem dX11_answers_15 : decode cX11_answers 15 = .ok (.aload_n 0, 1) := by decide +kernel
theorem dX11_answers_16 : decode cX11_answers 16 = .ok (.iload_n 1, 1) := by decide +kernel
theorem dX11_answers_17 : decode cX11_answers 17 = .ok (.iconst 0, 1) := by decide +kernel
theorem dX11_answers_18 : decode cX11_answers 18 = .ok (.invokevirtual 220, 3) := by decide +kernel
theorem dX11_answers_21 : decode cX11_answers 21 = .ok (.aload_n 0, 1) := by decide +kernel
theorem dX11_answers_22 : decode cX11_answers 22 = .ok (.dup, 1) := by decide +kernel
theorem dX11_answers_23 : decode cX11_answers 23 = .ok (.getfield 236, 3) := by decide +kernel
theorem dX11_answers_26 : decode cX11_answers 26 = .ok (.iconst 1, 1) := by decide +kernel
theorem dX11_answers_27 : decode cX11_answers 27 = .ok (.isub, 1) := by decide +kernel
theorem dX11_answers_28 : decode cX11_answers 28 = .ok (.putfield 236, 3) := by decide +kernel
theorem dX11_answers_31 : decode cX11_answers 31 = .ok (.aload_n 0, 1) := by decide +kernel
theorem dX11_answers_32 : decode cX11_answers 32 = .ok (.dup, 1) := by decide +kernel
theorem dX11_answers_33 : decode cX11_answers 33 = .ok (.getfield 239, 3) := by decide +kernel
theorem dX11_answers_36 : decode cX11_answers 36 = .ok (.iload_n 1, 1) := by decide +kernel
theorem dX11_answers_37 : decode cX11_answers 37 = .ok (.bipush 9, 2) := by decide +kernel
theorem dX11_answers_39 : decode cX11_answers 39 = .ok (.if_icmp .ne 7, 3) := by decide +kernel
theorem dX11_answers_42 : decode cX11_answers 42 = .ok (.iconst 1, 1) := by decide +kernel
theorem dX11_answers_43 : decode cX11_answers 43 = .ok (.goto 4, 3) := by decide +kernel
theorem dX11_answers_46 : decode cX11_answers 46 = .ok (.iconst 0, 1) := by decide +kernel
theorem dX11_answers_47 : decode cX11_answers 47 = .ok (.isub, 1) := by decide +kernel
theorem dX11_answers_48 : decode cX11_answers 48 = .ok (.putfield 239, 3) := by decide +kernel
theorem dX11_answers_51 : decode cX11_answers 51 = .ok (.goto (-51), 3) := by decide +kernel
theorem dX11_answers_54 : decode cX11_answers 54 = .ok (.return_, 1) := by decide +kernel
theorem dX11_fact_0 : decode cX11_fact 0 = .ok (.aload_n 0, 1) := by decide +kernel
theorem dX11_fact_1 : decode cX11_fact 1 = .ok (.invokevirtual 188, 3) := by decide +kernel
theorem dX11_fact_4 : decode cX11_fact 4 = .ok (.aload_n 0, 1) := by decide +kernel
theorem dX11_fact_5 : decode cX11_fact 5 = .ok (.ldc 245, 2) := by decide +kernel
theorem dX11_fact_7 : decode cX11_fact 7 = .ok (.invokevirtual 191, 3) := by decide +kernel
theorem dX11_fact_10 : decode cX11_fact 10 = .ok (.ifCond .eq 21, 3) := by decide +kernel
theorem dX11_fact_13 : decode cX11_fact 13 = .ok (.aload_n 0, 1) := by decide +kernel
theorem dX11_fact_14 : decode cX11_fact 14 = .ok (.bipush 9, 2) := by decide +kernel
theorem dX11_fact_16 : decode cX11_fact 16 = .ok (.invokevirtual 247, 3) := by decide +kernel
theorem dX11_fact_19 : decode cX11_fact 19 = .ok (.aload_n 0, 1) := by decide +kernel
theorem dX11_fact_20 : decode cX11_fact 20 = .ok (.dup, 1) := by decide +kernel
theorem dX11_fact_21 : decode cX11_fact 21 = .ok (.getfield 168, 3) := by decide +kernel
theorem dX11_fact_24 : decode cX11_fact 24 = .ok (.iconst 3, 1) := by decide +kernel
theorem dX11_fact_25 : decode cX11_fact 25 = .ok (.iadd, 1) := by decide +kernel
theorem dX11_fact_26 : decode cX11_fact 26 = .ok (.putfield 168, 3) := by decide +kernel
theorem dX11_fact_29 : decode cX11_fact 29 = .ok (.iconst 0, 1) := by decide +kernel
theorem dX11_fact_30 : decode cX11_fact 30 = .ok (.ireturn, 1) := by decide +kernel
theorem dX11_fact_31 : decode cX11_fact 31 = .ok (.aload_n 0, 1) := by decide +kernel
theorem dX11_fact_32 : decode cX11_fact 32 = .ok (.invokevirtual 171, 3) := by decide +kernel
theorem dX11_fact_35 : decode cX11_fact 35 = .ok (.bipush 91, 2) := by decide +kernel
theorem dX11_fact_37 : decode cX11_fact 37 = .ok (.if_icmp .ne 21, 3) := by decide +kernel
theorem dX11_fact_40 : decode cX11_fact 40 = .ok (.aload_n 0, 1) := by decide +kernel
theorem dX11_fact_41 : decode cX11_fact 41 = .ok (.bipush 12, 2) := by decide +kernel
theorem dX11_fact_43 : decode cX11_fact 43 = .ok (.invokevirtual 247, 3) := by decide +kernel
theorem dX11_fact_46 : decode cX11_fact 46 = .ok (.aload_n 0, 1) := by decide +kernel
theorem dX11_fact_47 : decode cX11_fact 47 = .ok (.dup, 1) := by decide +kernel
theorem dX11_fact_48 : decode cX11_fact 48 = .ok (.getfield 168, 3) := by decide +kernel
theorem dX11_fact_51 : decode cX11_fact 51 = .ok (.iconst 1, 1) := by decide +kernel
theorem dX11_fact_52 : decode cX11_fact 52 = .ok (.iadd, 1) := by decide +kernel
theorem dX11_fact_53 : decode cX11_fact 53 = .ok (.putfield 168, 3) := by decide +kernel
theorem dX11_fact_56 : decode cX11_fact 56 = .ok (.iconst 0, 1) := by decide +kernel
theorem dX11_fact_57 : decode cX11_fact 57 = .ok (.ireturn, 1) := by decide +kernel
theorem dX11_fact_58 : decode cX11_fact 58 = .ok (.aload_n 0, 1) := by decide +kernel
theorem dX11_fact_59 : decode cX11_fact 59 = .ok (.invokevirtual 250, 3) := by decide +kernel
theorem dX11_fact_62 : decode cX11_fact 62 = .ok (.iconst 1, 1) := by decide +kernel
theorem dX11_fact_63 : decode cX11_fact 63 = .ok (.ireturn, 1) := by decide +kernel
theorem dX11_test_0 : decode cX11_test 0 = .ok (.aload_n 0, 1) := by decide +kernel
theorem dX11_test_1 : decode cX11_test 1 = .ok (.iconst 0, 1) := by decide +kernel
theorem dX11_test_2 : decode cX11_test 2 = .ok (.putfield 236, 3) := by decide +kernel
theorem dX11_test_5 : decode cX11_test 5 = .ok (.iconst 1, 1) := by decide +kernel
theorem dX11_test_6 : decode cX11_test 6 = .ok (.istore_n 1, 1) := by decide +kernel
theorem dX11_test_7 : decode cX11_test 7 = .ok (.iconst 1, 1) := by decide +kernel
theorem dX11_test_8 : decode cX11_test 8 = .ok (.istore_n 2, 1) := by decide +kernel
theorem dX11_test_9 : decode cX11_test 9 = .ok (.iload_n 2, 1) := by decide +kernel
theorem dX11_test_10 : decode cX11_test 10 = .ok (.ifCond .eq 192, 3) := by decide +kernel
theorem dX11_test_13 : decode cX11_test 13 = .ok (.aload_n 0, 1) := by decide +kernel
theorem dX11_test_14 : decode cX11_test 14 = .ok (.getfield 165, 3) := by decide +kernel
theorem dX11_test_17 : decode cX11_test 17 = .ok (.ifCond .ne 185, 3) := by decide +kernel
theorem dX11_test_20 : decode cX11_test 20 = .ok (.iload_n 1, 1) := by decide +kernel
theorem dX11_test_21 : decode cX11_test 21 = .ok (.ifCond .eq 19, 3) := by decide +kernel
theorem dX11_test_24 : decode cX11_test 24 = .ok (.aload_n 0, 1) := by decide +kernel
theorem dX11_test_25 : decode cX11_test 25 = .ok (.invokevirtual 253, 3) := by decide +kernel
theorem dX11_test_28 : decode cX11_test 28 = .ok (.ifCond .ne 7, 3) := by decide +kernel
theorem dX11_test_31 : decode cX11_test 31 = .ok (.iconst 1, 1) := by decide +kernel
theorem dX11_test_32 : decode cX11_test 32 = .ok (.goto 4, 3) := by decide +kernel
theorem dX11_test_35 : decode cX11_test 35 = .ok (.iconst 0, 1) := by decide +kernel
theorem dX11_test_36 : decode cX11_test 36 = .ok (.istore_n 1, 1) := by decide +kernel
theorem dX11_test_37 : decode cX11_test 37 = .ok (.goto (-28), 3) := by decide +kernel
theorem dX11_test_40 : decode cX11_test 40 = .ok (.aload_n 0, 1) := by decide +kernel
theorem dX11_test_41 : decode cX11_test 41 = .ok (.bipush 9, 2) := by decide +kernel
theorem dX11_test_43 : decode cX11_test 43 = .ok (.invokevirtual 256, 3) := by decide +kernel
theorem dX11_test_46 : decode cX11_test 46 = .ok (.aload_n 0, 1) := by decide +kernel
theorem dX11_test_47 : decode cX11_test 47 = .ok (.invokevirtual 188, 3) := by decide +kernel
theorem dX11_test_50 : decode cX11_test 50 = .ok (.aload_n 0, 1) := by decide +kernel
theorem dX11_test_51 : decode cX11_test 51 = .ok (.ldc_w 259, 3) := by decide +kernel
theorem dX11_test_54 : decode cX11_test 54 = .ok (.invokevirtual 191, 3) := by decide +kernel
theorem dX11_test_57 : decode cX11_test 57 = .ok (.istore_n 3, 1) := by decide +kernel
theorem dX11_test_58 : decode cX11_test 58 = .ok (.aload_n 0, 1) := by decide +kernel
theorem dX11_test_59 : decode cX11_test 59 = .ok (.ldc_w 261, 3) := by decide +kernel
theorem dX11_test_62 : decode cX11_test 62 = .ok (.invokevirtual 191, 3) := by decide +kernel
theorem dX11_test_65 : decode cX11_test 65 = .ok (.istore 4, 2) := by decide +kernel
theorem dX11_test_67 : decode cX11_test 67 = .ok (.aload_n 0, 1) := by decide +kernel
theorem dX11_test_68 : decode cX11_test 68 = .ok (.bipush 10, 2) := by decide +kernel
theorem dX11_test_70 : decode cX11_test 70 = .ok (.invokevirtual 256, 3) := by decide +kernel
theorem dX11_test_73 : decode cX11_test 73 = .ok (.iload_n 3, 1) := by decide +kernel
theorem dX11_test_74 : decode cX11_test 74 = .ok (.ifCond .ne 8, 3) := by decide +kernel
theorem dX11_test_77 : decode cX11_test 77 = .ok (.iload 4, 2) := by decide +kernel
theorem dX11_test_79 : decode cX11_test 79 = .ok (.ifCond .eq 52, 3) := by decide +kernel
theorem dX11_test_82 : decode cX11_test 82 = .ok (.iload 4, 2) := by decide +kernel
theorem dX11_test_84 : decode cX11_test 84 = .ok (.ifCond .eq 9, 3) := by decide +kernel
theorem dX11_test_87 : decode cX11_test 87 = .ok (.aload_n 0, 1) := by decide +kernel
theorem dX11_test_88 : decode cX11_test 88 = .ok (.bipush 11, 2) := by decide +kernel
theorem dX11_test_90 : decode cX11_test 90 = .ok (.invokevirtual 256, 3) := by decide +kernel
theorem dX11_test_93 : decode cX11_test 93 = .ok (.aload_n 0, 1) := by decide +kernel
theorem dX11_test_94 : decode cX11_test 94 = .ok (.iload_n 3, 1) := by decide +kernel
theorem dX11_test_95 : decode cX11_test 95 = .ok (.ifCond .eq 8, 3) := by decide +kernel
theorem dX11_test_98 : decode cX11_test 98 = .ok (.bipush 10, 2) := by decide +kernel
theorem dX11_test_100 : decode cX11_test 100 = .ok (.goto 5, 3) := by decide +kernel
theorem dX11_test_103 : decode cX11_test 103 = .ok (.bipush 11, 2) := by decide +kernel
theorem dX11_test_105 : decode cX11_test 105 = .ok (.invokevirtual 247, 3) := by decide +kernel
theorem dX11_test_108 : decode cX11_test 108 = .ok (.aload_n 0, 1) := by decide +kernel
theorem dX11_test_109 : decode cX11_test 109 = .ok (.dup, 1) := by decide +kernel
theorem dX11_test_110 : decode cX11_test 110 = .ok (.getfield 168, 3) := by decide +kernel
theorem dX11_test_113 : decode cX11_test 113 = .ok (.iload_n 3, 1) := by decide +kernel
theorem dX11_test_114 : decode cX11_test 114 = .ok (.ifCond .eq 7, 3) := by decide +kernel
theorem dX11_test_117 : decode cX11_test 117 = .ok (.iconst 3, 1) := by decide +kernel
theorem dX11_test_118 : decode cX11_test 118 = .ok (.goto 4, 3) := by decide +kernel
theorem dX11_test_121 : decode cX11_test 121 = .ok (.iconst 2, 1) := by decide +kernel
theorem dX11_test_122 : decode cX11_test 122 = .ok (.iadd, 1) := by decide +kernel
theorem dX11_test_123 : decode cX11_test 123 = .ok (.putfield 168, 3) := by decide +kernel
theorem dX11_test_126 : decode cX11_test 126 = .ok (.iconst 1, 1) := by decide +kernel
theorem dX11_test_127 : decode cX11_test 127 = .ok (.istore_n 1, 1) := by decide +kernel
theorem dX11_test_128 : decode cX11_test 128 = .ok (.goto 71, 3) := by decide +kernel
theorem dX11_test_131 : decode cX11_test 131 = .ok (.aload_n 0, 1) := by decide +kernel
theorem dX11_test_132 : decode cX11_test 132 = .ok (.bipush 11, 2) := by decide +kernel
theorem dX11_test_134 : decode cX11_test 134 = .ok (.invokevirtual 256, 3) := by decide +kernel
theorem dX11_test_137 : decode cX11_test 137 = .ok (.aload_n 0, 1) := by decide +kernel
theorem dX11_test_138 : decode cX11_test 138 = .ok (.invokevirtual 242, 3) := by decide +kernel
theorem dX11_test_141 : decode cX11_test 141 = .ok (.bipush 12, 2) := by decide +kernel
theorem dX11_test_143 : decode cX11_test 143 = .ok (.if_icmp .ne 54, 3) := by decide +kernel
theorem dX11_test_146 : decode cX11_test 146 = .ok (.aload_n 0, 1) := by decide +kernel
theorem dX11_test_147 : decode cX11_test 147 = .ok (.invokevirtual 171, 3) := by decide +kernel
theorem dX11_test_150 : decode cX11_test 150 = .ok (.bipush 93, 2) := by decide +kernel
theorem dX11_test_152 : decode cX11_test 152 = .ok (.if_icmp .eq 12, 3) := by decide +kernel
theorem dX11_test_155 : decode cX11_test 155 = .ok (.aload_n 0, 1) := by decide +kernel
theorem dX11_test_156 : decode cX11_test 156 = .ok (.iconst 0, 1) := by decide +kernel
theorem dX11_test_157 : decode cX11_test 157 = .ok (.aload_n 0, 1) := by decide +kernel
theorem dX11_test_158 : decode cX11_test 158 = .ok (.getfield 168, 3) := by decide +kernel
theorem dX11_test_161 : decode cX11_test 161 = .ok (.invokevirtual 204, 3) := by decide +kernel
theorem dX11_test_164 : decode cX11_test 164 = .ok (.aload_n 0, 1) := by decide +kernel
theorem dX11_test_165 : decode cX11_test 165 = .ok (.dup, 1) := by decide +kernel
theorem dX11_test_166 : decode cX11_test 166 = .ok (.getfield 168, 3) := by decide +kernel
theorem dX11_test_169 : decode cX11_test 169 = .ok (.iconst 1, 1) := by decide +kernel
theorem dX11_test_170 : decode cX11_test 170 = .ok (.iadd, 1) := by decide +kernel
theorem dX11_test_171 : decode cX11_test 171 = .ok (.putfield 168, 3) := by decide +kernel
theorem dX11_test_174 : decode cX11_test 174 = .ok (.aload_n 0, 1) := by decide +kernel
theorem dX11_test_175 : decode cX11_test 175 = .ok (.dup, 1) := by decide +kernel
theorem dX11_test_176 : decode cX11_test 176 = .ok (.getfield 236, 3) := by decide +kernel
theorem dX11_test_179 : decode cX11_test 179 = .ok (.iconst 1, 1) := by decide +kernel
theorem dX11_test_180 : decode cX11_test 180 = .ok (.isub, 1) := by decide +kernel
theorem dX11_test_181 : decode cX11_test 181 = .ok (.putfield 236, 3) := by decide +kernel
theorem dX11_test_184 : decode cX11_test 184 = .ok (.aload_n 0, 1) := by decide +kernel
theorem dX11_test_185 : decode cX11_test 185 = .ok (.dup, 1) := by decide +kernel
theorem dX11_test_186 : decode cX11_test 186 = .ok (.getfield 239, 3) := by decide +kernel
theorem dX11_test_189 : decode cX11_test 189 = .ok (.iconst 1, 1) := by decide +kernel
theorem dX11_test_190 : decode cX11_test 190 = .ok (.isub, 1) := by decide +kernel
theorem dX11_test_191 : decode cX11_test 191 = .ok (.putfield 239, 3) := by decide +kernel
theorem dX11_test_194 : decode cX11_test 194 = .ok (.goto 5, 3) := by decide +kernel
theorem dX11_test_197 : decode cX11_test 197 = .ok (.iconst 0, 1) := by decide +kernel
theorem dX11_test_198 : decode cX11_test 198 = .ok (.istore_n 2, 1) := by decide +kernel
theorem dX11_test_199 : decode cX11_test 199 = .ok (.goto (-190), 3) := by decide +kernel
theorem dX11_test_202 : decode cX11_test 202 = .ok (.return_, 1) := by decide +kernel
theorem dX11_amount_0 : decode cX11_amount 0 = .ok (.aload_n 0, 1) := by decide +kernel
theorem dX11_amount_1 : decode cX11_amount 1 = .ok (.invokevirtual 188, 3) := by decide +kernel
theorem dX11_amount_4 : decode cX11_amount 4 = .ok (.aload_n 0, 1) := by decide +kernel
theorem dX11_amount_5 : decode cX11_amount 5 = .ok (.getfield 168, 3) := by decide +kernel
theorem dX11_amount_8 : decode cX11_amount 8 = .ok (.istore_n 3, 1) := by decide +kernel
theorem dX11_amount_9 : decode cX11_amount 9 = .ok (.aload_n 0, 1) := by decide +kernel
theorem dX11_amount_10 : decode cX11_amount 10 = .ok (.getfield 165, 3) := by decide +kernel
theorem dX11_amount_13 : decode cX11_amount 13 = .ok (.ifCond .ne 12, 3) := by decide +kernel
theorem dX11_amount_16 : decode cX11_amount 16 = .ok (.aload_n 0, 1) := by decide +kernel
theorem dX11_amount_17 : decode cX11_amount 17 = .ok (.ldc 212, 2) := by decide +kernel
theorem dX11_amount_19 : decode cX11_amount 19 = .ok (.invokevirtual 213, 3) := by decide +kernel
theorem dX11_amount_22 : decode cX11_amount 22 = .ok (.goto 4, 3) := by decide +kernel
theorem dX11_amount_25 : decode cX11_amount 25 = .ok (.iconst 0, 1) := by decide +kernel
theorem dX11_amount_26 : decode cX11_amount 26 = .ok (.istore 4, 2) := by decide +kernel
theorem dX11_amount_28 : decode cX11_amount 28 = .ok (.aload_n 0, 1) := by decide +kernel
theorem dX11_amount_29 : decode cX11_amount 29 = .ok (.getfield 165, 3) := by decide +kernel
theorem dX11_amount_32 : decode cX11_amount 32 = .ok (.ifCond .ne 22, 3) := by decide +kernel
theorem dX11_amount_35 : decode cX11_amount 35 = .ok (.iload 4, 2) := by decide +kernel
theorem dX11_amount_37 : decode cX11_amount 37 = .ok (.i2l, 1) := by decide +kernel
theorem dX11_amount_38 : decode cX11_amount 38 = .ok (.iload_n 1, 1) := by decide +kernel
theorem dX11_amount_39 : decode cX11_amount 39 = .ok (.i2l, 1) := by decide +kernel
theorem dX11_amount_40 : decode cX11_amount 40 = .ok (.iload_n 2, 1) := by decide +kernel
theorem dX11_amount_41 : decode cX11_amount 41 = .ok (.i2l, 1) := by decide +kernel
theorem dX11_amount_42 : decode cX11_amount 42 = .ok (.invokestatic 134, 3) := by decide +kernel
theorem dX11_amount_45 : decode cX11_amount 45 = .ok (.ifCond .ne 9, 3) := by decide +kernel
theorem dX11_amount_48 : decode cX11_amount 48 = .ok (.aload_n 0, 1) := by decide +kernel
theorem dX11_amount_49 : decode cX11_amount 49 = .ok (.iconst 1, 1) := by decide +kernel
theorem dX11_amount_50 : decode cX11_amount 50 = .ok (.iload_n 3, 1) := by decide +kernel
theorem dX11_amount_51 : decode cX11_amount 51 = .ok (.invokevirtual 204, 3) := by decide +kernel
theorem dX11_amount_54 : decode cX11_amount 54 = .ok (.iload 4, 2) := by decide +kernel
theorem dX11_amount_56 : decode cX11_amount 56 = .ok (.ireturn, 1) := by decide +kernel
theorem dX11_tableWord_0 : decode cX11_tableWord 0 = .ok (.iload_n 0, 1) := by decide +kernel
theorem dX11_tableWord_1 : decode cX11_tableWord 1 = .ok (.lookupswitch 34 #[(0, 27), (1, 31)], 27) := by decide +kernel
theorem dX11_tableWord_28 : decode cX11_tableWord 28 = .ok (.ldc_w 263, 3) := by decide +kernel
theorem dX11_tableWord_31 : decode cX11_tableWord 31 = .ok (.areturn, 1) := by decide +kernel
theorem dX11_tableWord_32 : decode cX11_tableWord 32 = .ok (.ldc 145, 2) := by decide +kernel
theorem dX11_tableWord_34 : decode cX11_tableWord 34 = .ok (.areturn, 1) := by decide +kernel
theorem dX11_tableWord_35 : decode cX11_tableWord 35 = .ok (.ldc 150, 2) := by decide +kernel
theorem dX11_tableWord_37 : decode cX11_tableWord 37 = .ok (.areturn, 1) := by decide +kernel
theorem dX11_tablePart_0 : decode cX11_tablePart 0 = .ok (.iload_n 1, 1) := by decide +kernel
theorem dX11_tablePart_1 : decode cX11_tablePart 1 = .ok (.lookupswitch 115 #[(0, 27), (1, 56)], 27) := by decide +kernel
theorem dX11_tablePart_28 : decode cX11_tablePart 28 = .ok (.aload_n 0, 1) := by decide +kernel
theorem dX11_tablePart_29 : decode cX11_tablePart 29 = .ok (.getfield 49, 3) := by decide +kernel
theorem dX11_tablePart_32 : decode cX11_tablePart 32 = .ok (.iconst 0, 1) := by decide +kernel
theorem dX11_tablePart_33 : decode cX11_tablePart 33 = .ok (.aload_n 0, 1) := by decide +kernel
theorem dX11_tablePart_34 : decode cX11_tablePart 34 = .ok (.iconst 1, 1) := by decide +kernel
theorem dX11_tablePart_35 : decode cX11_tablePart 35 = .ok (.bipush 9, 2) := by decide +kernel
theorem dX11_tablePart_37 : decode cX11_tablePart 37 = .ok (.invokevirtual 265, 3) := by decide +kernel
theorem dX11_tablePart_40 : decode cX11_tablePart 40 = .ok (.iastore, 1) := by decide +kernel
theorem dX11_tablePart_41 : decode cX11_tablePart 41 = .ok (.aload_n 0, 1) := by decide +kernel
theorem dX11_tablePart_42 : decode cX11_tablePart 42 = .ok (.getfield 49, 3) := by decide +kernel
theorem dX11_tablePart_45 : decode cX11_tablePart 45 = .ok (.iconst 1, 1) := by decide +kernel
theorem dX11_tablePart_46 : decode cX11_tablePart 46 = .ok (.aload_n 0, 1) := by decide +kernel
theorem dX11_tablePart_47 : decode cX11_tablePart 47 = .ok (.iconst 0, 1) := by decide +kernel
theorem dX11_tablePart_48 : decode cX11_tablePart 48 = .ok (.bipush 9, 2) := by decide +kernel
theorem dX11_tablePart_50 : decode cX11_tablePart 50 = .ok (.invokevirtual 265, 3) := by decide +kernel
theorem dX11_tablePart_53 : decode cX11_tablePart 53 = .ok (.iastore, 1) := by decide +kernel
theorem dX11_tablePart_54 : decode cX11_tablePart 54 = .ok (.goto 106, 3) := by decide +kernel
theorem dX11_tablePart_57 : decode cX11_tablePart 57 = .ok (.aload_n 0, 1) := by decide +kernel
theorem dX11_tablePart_58 : decode cX11_tablePart 58 = .ok (.getfield 49, 3) := by decide +kernel
theorem dX11_tablePart_61 : decode cX11_tablePart 61 = .ok (.iconst 2, 1) := by decide +kernel
theorem dX11_tablePart_62 : decode cX11_tablePart 62 = .ok (.iaload, 1) := by decide +kernel
theorem dX11_tablePart_63 : decode cX11_tablePart 63 = .ok (.istore_n 2, 1) := by decide +kernel
theorem dX11_tablePart_64 : decode cX11_tablePart 64 = .ok (.aload_n 0, 1) := by decide +kernel
theorem dX11_tablePart_65 : decode cX11_tablePart 65 = .ok (.getfield 52, 3) := by decide +kernel
theorem dX11_tablePart_68 : decode cX11_tablePart 68 = .ok (.iload_n 2, 1) := by decide +kernel
theorem dX11_tablePart_69 : decode cX11_tablePart 69 = .ok (.aload_n 0, 1) := by decide +kernel
theorem dX11_tablePart_70 : decode cX11_tablePart 70 = .ok (.iconst 0, 1) := by decide +kernel
theorem dX11_tablePart_71 : decode cX11_tablePart 71 = .ok (.bipush 99, 2) := by decide +kernel
theorem dX11_tablePart_73 : decode cX11_tablePart 73 = .ok (.invokevirtual 265, 3) := by decide +kernel
theorem dX11_tablePart_76 : decode cX11_tablePart 76 = .ok (.iastore, 1) := by decide +kernel
theorem dX11_tablePart_77 : decode cX11_tablePart 77 = .ok (.aload_n 0, 1) := by decide +kernel
theorem dX11_tablePart_78 : decode cX11_tablePart 78 = .ok (.getfield 55, 3) := by decide +kernel
theorem dX11_tablePart_81 : decode cX11_tablePart 81 = .ok (.iload_n 2, 1) := by decide +kernel
theorem dX11_tablePart_82 : decode cX11_tablePart 82 = .ok (.aload_n 0, 1) := by decide +kernel
theorem dX11_tablePart_83 : decode cX11_tablePart 83 = .ok (.iconst 0, 1) := by decide +kernel
theorem dX11_tablePart_84 : decode cX11_tablePart 84 = .ok (.bipush 9, 2) := by decide +kernel
theorem dX11_tablePart_86 : decode cX11_tablePart 86 = .ok (.invokevirtual 265, 3) := by decide +kernel
theorem dX11_tablePart_89 : decode cX11_tablePart 89 = .ok (.iastore, 1) := by decide +kernel
theorem dX11_tablePart_90 : decode cX11_tablePart 90 = .ok (.aload_n 0, 1) := by decide +kernel
theorem dX11_tablePart_91 : decode cX11_tablePart 91 = .ok (.getfield 58, 3) := by decide +kernel
theorem dX11_tablePart_94 : decode cX11_tablePart 94 = .ok (.iload_n 2, 1) := by decide +kernel
theorem dX11_tablePart_95 : decode cX11_tablePart 95 = .ok (.aload_n 0, 1) := by decide +kernel
theorem dX11_tablePart_96 : decode cX11_tablePart 96 = .ok (.iconst 0, 1) := by decide +kernel
theorem dX11_tablePart_97 : decode cX11_tablePart 97 = .ok (.bipush 99, 2) := by decide +kernel
theorem dX11_tablePart_99 : decode cX11_tablePart 99 = .ok (.invokevirtual 265, 3) := by decide +kernel
theorem dX11_tablePart_102 : decode cX11_tablePart 102 = .ok (.iastore, 1) := by decide +kernel
theorem dX11_tablePart_103 : decode cX11_tablePart 103 = .ok (.aload_n 0, 1) := by decide +kernel
theorem dX11_tablePart_104 : decode cX11_tablePart 104 = .ok (.getfield 49, 3) := by decide +kernel
theorem dX11_tablePart_107 : decode cX11_tablePart 107 = .ok (.iconst 2, 1) := by decide +kernel
theorem dX11_tablePart_108 : decode cX11_tablePart 108 = .ok (.dup2, 1) := by decide +kernel
theorem dX11_tablePart_109 : decode cX11_tablePart 109 = .ok (.iaload, 1) := by decide +kernel
theorem dX11_tablePart_110 : decode cX11_tablePart 110 = .ok (.iconst 1, 1) := by decide +kernel
theorem dX11_tablePart_111 : decode cX11_tablePart 111 = .ok (.iadd, 1) := by decide +kernel
theorem dX11_tablePart_112 : decode cX11_tablePart 112 = .ok (.iastore, 1) := by decide +kernel
theorem dX11_tablePart_113 : decode cX11_tablePart 113 = .ok (.goto 47, 3) := by decide +kernel
theorem dX11_tablePart_116 : decode cX11_tablePart 116 = .ok (.aload_n 0, 1) := by decide +kernel
theorem dX11_tablePart_117 : decode cX11_tablePart 117 = .ok (.iconst 0, 1) := by decide +kernel
theorem dX11_tablePart_118 : decode cX11_tablePart 118 = .ok (.aload_n 0, 1) := by decide +kernel
theorem dX11_tablePart_119 : decode cX11_tablePart 119 = .ok (.getfield 49, 3) := by decide +kernel
theorem dX11_tablePart_122 : decode cX11_tablePart 122 = .ok (.iconst 2, 1) := by decide +kernel
theorem dX11_tablePart_123 : decode cX11_tablePart 123 = .ok (.iaload, 1) := by decide +kernel
theorem dX11_tablePart_124 : decode cX11_tablePart 124 = .ok (.iconst 1, 1) := by decide +kernel
theorem dX11_tablePart_125 : decode cX11_tablePart 125 = .ok (.isub, 1) := by decide +kernel
theorem dX11_tablePart_126 : decode cX11_tablePart 126 = .ok (.invokevirtual 265, 3) := by decide +kernel
theorem dX11_tablePart_129 : decode cX11_tablePart 129 = .ok (.istore_n 2, 1) := by decide +kernel
theorem dX11_tablePart_130 : decode cX11_tablePart 130 = .ok (.aload_n 0, 1) := by decide +kernel
theorem dX11_tablePart_131 : decode cX11_tablePart 131 = .ok (.iconst 0, 1) := by decide +kernel
theorem dX11_tablePart_132 : decode cX11_tablePart 132 = .ok (.bipush 60, 2) := by decide +kernel
theorem dX11_tablePart_134 : decode cX11_tablePart 134 = .ok (.invokevirtual 265, 3) := by decide +kernel
theorem dX11_tablePart_137 : decode cX11_tablePart 137 = .ok (.istore_n 3, 1) := by decide +kernel
theorem dX11_tablePart_138 : decode cX11_tablePart 138 = .ok (.aload_n 0, 1) := by decide +kernel
theorem dX11_tablePart_139 : decode cX11_tablePart 139 = .ok (.getfield 165, 3) := by decide +kernel
theorem dX11_tablePart_142 : decode cX11_tablePart 142 = .ok (.ifCond .ne 18, 3) := by decide +kernel
theorem dX11_tablePart_145 : decode cX11_tablePart 145 = .ok (.aload_n 0, 1) := by decide +kernel
theorem dX11_tablePart_146 : decode cX11_tablePart 146 = .ok (.getfield 61, 3) := by decide +kernel
theorem dX11_tablePart_149 : decode cX11_tablePart 149 = .ok (.bipush 61, 2) := by decide +kernel
theorem dX11_tablePart_151 : decode cX11_tablePart 151 = .ok (.iload_n 2, 1) := by decide +kernel
theorem dX11_tablePart_152 : decode cX11_tablePart 152 = .ok (.imul, 1) := by decide +kernel
theorem dX11_tablePart_153 : decode cX11_tablePart 153 = .ok (.iload_n 3, 1) := by decide +kernel
theorem dX11_tablePart_154 : decode cX11_tablePart 154 = .ok (.iadd, 1) := by decide +kernel
theorem dX11_tablePart_155 : decode cX11_tablePart 155 = .ok (.dup2, 1) := by decide +kernel
theorem dX11_tablePart_156 : decode cX11_tablePart 156 = .ok (.iaload, 1) := by decide +kernel
theorem dX11_tablePart_157 : decode cX11_tablePart 157 = .ok (.iconst 1, 1) := by decide +kernel
theorem dX11_tablePart_158 : decode cX11_tablePart 158 = .ok (.iadd, 1) := by decide +kernel
theorem dX11_tablePart_159 : decode cX11_tablePart 159 = .ok (.iastore, 1) := by decide +kernel
theorem dX11_tablePart_160 : decode cX11_tablePart 160 = .ok (.return_, 1) := by decide +kernel
theorem dX11_isFull_0 : decode cX11_isFull 0 = .ok (.iload_n 2, 1) := by decide +kernel
theorem dX11_isFull_1 : decode cX11_isFull 1 = .ok (.bipush 40, 2) := by decide +kernel
theorem dX11_isFull_3 : decode cX11_isFull 3 = .ok (.if_icmp .eq 39, 3) := by decide +kernel
theorem dX11_isFull_6 : decode cX11_isFull 6 = .ok (.iload_n 1, 1) := by decide +kernel
theorem dX11_isFull_7 : decode cX11_isFull 7 = .ok (.ifCond .ne 7, 3) := by decide +kernel
theorem dX11_isFull_10 : decode cX11_isFull 10 = .ok (.iconst 1, 1) := by decide +kernel
theorem dX11_isFull_11 : decode cX11_isFull 11 = .ok (.goto 4, 3) := by decide +kernel
theorem dX11_isFull_14 : decode cX11_isFull 14 = .ok (.iconst 0, 1) := by decide +kernel
theorem dX11_isFull_15 : decode cX11_isFull 15 = .ok (.iload_n 2, 1) := by decide +kernel
theorem dX11_isFull_16 : decode cX11_isFull 16 = .ok (.ifCond .ne 7, 3) := by decide +kernel
theorem dX11_isFull_19 : decode cX11_isFull 19 = .ok (.iconst 1, 1) := by decide +kernel
theorem dX11_isFull_20 : decode cX11_isFull 20 = .ok (.goto 4, 3) := by decide +kernel
theorem dX11_isFull_23 : decode cX11_isFull 23 = .ok (.iconst 0, 1) := by decide +kernel
theorem dX11_isFull_24 : decode cX11_isFull 24 = .ok (.if_icmp .ne 18, 3) := by decide +kernel
theorem dX11_isFull_27 : decode cX11_isFull 27 = .ok (.iload_n 1, 1) := by decide +kernel
theorem dX11_isFull_28 : decode cX11_isFull 28 = .ok (.iconst 1, 1) := by decide +kernel
theorem dX11_isFull_29 : decode cX11_isFull 29 = .ok (.if_icmp .ne 17, 3) := by decide +kernel
theorem dX11_isFull_32 : decode cX11_isFull 32 = .ok (.aload_n 0, 1) := by decide +kernel
theorem dX11_isFull_33 : decode cX11_isFull 33 = .ok (.getfield 49, 3) := by decide +kernel
theorem dX11_isFull_36 : decode cX11_isFull 36 = .ok (.iconst 2, 1) := by decide +kernel
theorem dX11_isFull_37 : decode cX11_isFull 37 = .ok (.iaload, 1) := by decide +kernel
theorem dX11_isFull_38 : decode cX11_isFull 38 = .ok (.iconst 5, 1) := by decide +kernel
theorem dX11_isFull_39 : decode cX11_isFull 39 = .ok (.if_icmp .ne 7, 3) := by decide +kernel
theorem dX11_isFull_42 : decode cX11_isFull 42 = .ok (.iconst 1, 1) := by decide +kernel
theorem dX11_isFull_43 : decode cX11_isFull 43 = .ok (.goto 4, 3) := by decide +kernel
theorem dX11_isFull_46 : decode cX11_isFull 46 = .ok (.iconst 0, 1) := by decide +kernel
theorem dX11_isFull_47 : decode cX11_isFull 47 = .ok (.ireturn, 1) := by decide +kernel
theorem dX11_tableClause_0 : decode cX11_tableClause 0 = .ok (.aload_n 0, 1) := by decide +kernel
theorem dX11_tableClause_1 : decode cX11_tableClause 1 = .ok (.invokevirtual 188, 3) := by decide +kernel
theorem dX11_tableClause_4 : decode cX11_tableClause 4 = .ok (.aload_n 0, 1) := by decide +kernel
theorem dX11_tableClause_5 : decode cX11_tableClause 5 = .ok (.getfield 168, 3) := by decide +kernel
theorem dX11_tableClause_8 : decode cX11_tableClause 8 = .ok (.istore_n 2, 1) := by decide +kernel
theorem dX11_tableClause_9 : decode cX11_tableClause 9 = .ok (.iconst 0, 1) := by decide +kernel
theorem dX11_tableClause_10 : decode cX11_tableClause 10 = .ok (.istore_n 3, 1) := by decide +kernel
theorem dX11_tableClause_11 : decode cX11_tableClause 11 = .ok (.iload_n 3, 1) := by decide +kernel
