theorem d_MO_cut_0 : decode prog_12_method_29_code 0 = .ok (.iload_n 1, 1) := by decide +kernel
theorem d_MO_cut_1 : decode prog_12_method_29_code 1 = .ok (.istore_n 2, 1) := by decide +kernel
theorem d_MO_cut_2 : decode prog_12_method_29_code 2 = .ok (.iload_n 2, 1) := by decide +kernel
theorem d_MO_cut_3 : decode prog_12_method_29_code 3 = .ok (.aload_n 0, 1) := by decide +kernel
theorem d_MO_cut_4 : decode prog_12_method_29_code 4 = .ok (.getfield 124, 3) := by decide +kernel
theorem d_MO_cut_7 : decode prog_12_method_29_code 7 = .ok (.if_icmp .ge 40, 3) := by decide +kernel
theorem d_MO_cut_10 : decode prog_12_method_29_code 10 = .ok (.aload_n 0, 1) := by decide +kernel
theorem d_MO_cut_11 : decode prog_12_method_29_code 11 = .ok (.getfield 13, 3) := by decide +kernel
theorem d_MO_cut_14 : decode prog_12_method_29_code 14 = .ok (.iload_n 2, 1) := by decide +kernel
theorem d_MO_cut_15 : decode prog_12_method_29_code 15 = .ok (.iaload, 1) := by decide +kernel
theorem d_MO_cut_16 : decode prog_12_method_29_code 16 = .ok (.bipush 27, 2) := by decide +kernel
theorem d_MO_cut_18 : decode prog_12_method_29_code 18 = .ok (.if_icmp .ne 9, 3) := by decide +kernel
theorem d_MO_cut_21 : decode prog_12_method_29_code 21 = .ok (.iload_n 2, 1) := by decide +kernel
theorem d_MO_cut_22 : decode prog_12_method_29_code 22 = .ok (.iconst 2, 1) := by decide +kernel
theorem d_MO_cut_23 : decode prog_12_method_29_code 23 = .ok (.iadd, 1) := by decide +kernel
theorem d_MO_cut_24 : decode prog_12_method_29_code 24 = .ok (.goto 6, 3) := by decide +kernel
theorem d_MO_cut_27 : decode prog_12_method_29_code 27 = .ok (.iload_n 2, 1) := by decide +kernel
theorem d_MO_cut_28 : decode prog_12_method_29_code 28 = .ok (.iconst 1, 1) := by decide +kernel
theorem d_MO_cut_29 : decode prog_12_method_29_code 29 = .ok (.iadd, 1) := by decide +kernel
theorem d_MO_cut_30 : decode prog_12_method_29_code 30 = .ok (.istore_n 3, 1) := by decide +kernel
theorem d_MO_cut_31 : decode prog_12_method_29_code 31 = .ok (.iload_n 3, 1) := by decide +kernel
theorem d_MO_cut_32 : decode prog_12_method_29_code 32 = .ok (.iload_n 1, 1) := by decide +kernel
theorem d_MO_cut_33 : decode prog_12_method_29_code 33 = .ok (.isub, 1) := by decide +kernel
theorem d_MO_cut_34 : decode prog_12_method_29_code 34 = .ok (.sipush 153, 3) := by decide +kernel
theorem d_MO_cut_37 : decode prog_12_method_29_code 37 = .ok (.if_icmp .le 5, 3) := by decide +kernel
theorem d_MO_cut_40 : decode prog_12_method_29_code 40 = .ok (.iload_n 2, 1) := by decide +kernel
theorem d_MO_cut_41 : decode prog_12_method_29_code 41 = .ok (.ireturn, 1) := by decide +kernel
theorem d_MO_cut_42 : decode prog_12_method_29_code 42 = .ok (.iload_n 3, 1) := by decide +kernel
theorem d_MO_cut_43 : decode prog_12_method_29_code 43 = .ok (.istore_n 2, 1) := by decide +kernel
theorem d_MO_cut_44 : decode prog_12_method_29_code 44 = .ok (.goto (-42), 3) := by decide +kernel
theorem d_MO_cut_47 : decode prog_12_method_29_code 47 = .ok (.iload_n 2, 1) := by decide +kernel
theorem d_MO_cut_48 : decode prog_12_method_29_code 48 = .ok (.ireturn, 1) := by decide +kernel
theorem d_MO_partsOf_0 : decode prog_12_method_30_code 0 = .ok (.iconst 0, 1) := by decide +kernel
theorem d_MO_partsOf_1 : decode prog_12_method_30_code 1 = .ok (.istore_n 1, 1) := by decide +kernel
theorem d_MO_partsOf_2 : decode prog_12_method_30_code 2 = .ok (.iconst 0, 1) := by decide +kernel
theorem d_MO_partsOf_3 : decode prog_12_method_30_code 3 = .ok (.istore_n 2, 1) := by decide +kernel
theorem d_MO_partsOf_4 : decode prog_12_method_30_code 4 = .ok (.iload_n 2, 1) := by decide +kernel
theorem d_MO_partsOf_5 : decode prog_12_method_30_code 5 = .ok (.aload_n 0, 1) := by decide +kernel
theorem d_MO_partsOf_6 : decode prog_12_method_30_code 6 = .ok (.getfield 124, 3) := by decide +kernel
theorem d_MO_partsOf_9 : decode prog_12_method_30_code 9 = .ok (.if_icmp .ge 15, 3) := by decide +kernel
theorem d_MO_partsOf_12 : decode prog_12_method_30_code 12 = .ok (.iinc 1 1, 3) := by decide +kernel
theorem d_MO_partsOf_15 : decode prog_12_method_30_code 15 = .ok (.aload_n 0, 1) := by decide +kernel
theorem d_MO_partsOf_16 : decode prog_12_method_30_code 16 = .ok (.iload_n 2, 1) := by decide +kernel
theorem d_MO_partsOf_17 : decode prog_12_method_30_code 17 = .ok (.invokevirtual 198, 3) := by decide +kernel
theorem d_MO_partsOf_20 : decode prog_12_method_30_code 20 = .ok (.istore_n 2, 1) := by decide +kernel
theorem d_MO_partsOf_21 : decode prog_12_method_30_code 21 = .ok (.goto (-17), 3) := by decide +kernel
theorem d_MO_partsOf_24 : decode prog_12_method_30_code 24 = .ok (.aload_n 0, 1) := by decide +kernel
theorem d_MO_partsOf_25 : decode prog_12_method_30_code 25 = .ok (.getfield 124, 3) := by decide +kernel
theorem d_MO_partsOf_28 : decode prog_12_method_30_code 28 = .ok (.sipush 160, 3) := by decide +kernel
theorem d_MO_partsOf_31 : decode prog_12_method_30_code 31 = .ok (.if_icmp .gt 7, 3) := by decide +kernel
theorem d_MO_partsOf_34 : decode prog_12_method_30_code 34 = .ok (.iconst 1, 1) := by decide +kernel
theorem d_MO_partsOf_35 : decode prog_12_method_30_code 35 = .ok (.goto 4, 3) := by decide +kernel
theorem d_MO_partsOf_38 : decode prog_12_method_30_code 38 = .ok (.iload_n 1, 1) := by decide +kernel
theorem d_MO_partsOf_39 : decode prog_12_method_30_code 39 = .ok (.ireturn, 1) := by decide +kernel
theorem d_MO_send_0 : decode prog_12_method_31_code 0 = .ok (.iload_n 1, 1) := by decide +kernel
theorem d_MO_send_1 : decode prog_12_method_31_code 1 = .ok (.invokestatic 187, 3) := by decide +kernel
theorem d_MO_send_4 : decode prog_12_method_31_code 4 = .ok (.ifCond .eq 34, 3) := by decide +kernel
theorem d_MO_send_7 : decode prog_12_method_31_code 7 = .ok (.lload_n 2, 1) := by decide +kernel
theorem d_MO_send_8 : decode prog_12_method_31_code 8 = .ok (.invokestatic 191, 3) := by decide +kernel
theorem d_MO_send_11 : decode prog_12_method_31_code 11 = .ok (.ifCond .eq 27, 3) := by decide +kernel
theorem d_MO_send_14 : decode prog_12_method_31_code 14 = .ok (.iload 4, 2) := by decide +kernel
theorem d_MO_send_16 : decode prog_12_method_31_code 16 = .ok (.ifCond .lt 22, 3) := by decide +kernel
theorem d_MO_send_19 : decode prog_12_method_31_code 19 = .ok (.iload 4, 2) := by decide +kernel
theorem d_MO_send_21 : decode prog_12_method_31_code 21 = .ok (.sipush 143, 3) := by decide +kernel
theorem d_MO_send_24 : decode prog_12_method_31_code 24 = .ok (.if_icmp .gt 14, 3) := by decide +kernel
theorem d_MO_send_27 : decode prog_12_method_31_code 27 = .ok (.aload_n 0, 1) := by decide +kernel
theorem d_MO_send_28 : decode prog_12_method_31_code 28 = .ok (.getfield 16, 3) := by decide +kernel
theorem d_MO_send_31 : decode prog_12_method_31_code 31 = .ok (.iload_n 1, 1) := by decide +kernel
theorem d_MO_send_32 : decode prog_12_method_31_code 32 = .ok (.laload, 1) := by decide +kernel
theorem d_MO_send_33 : decode prog_12_method_31_code 33 = .ok (.lconst 0, 1) := by decide +kernel
theorem d_MO_send_34 : decode prog_12_method_31_code 34 = .ok (.lcmp, 1) := by decide +kernel
theorem d_MO_send_35 : decode prog_12_method_31_code 35 = .ok (.ifCond .ne 5, 3) := by decide +kernel
theorem d_MO_send_38 : decode prog_12_method_31_code 38 = .ok (.iconst (-1), 1) := by decide +kernel
theorem d_MO_send_39 : decode prog_12_method_31_code 39 = .ok (.ireturn, 1) := by decide +kernel
theorem d_MO_send_40 : decode prog_12_method_31_code 40 = .ok (.aload_n 0, 1) := by decide +kernel
theorem d_MO_send_41 : decode prog_12_method_31_code 41 = .ok (.iconst 0, 1) := by decide +kernel
theorem d_MO_send_42 : decode prog_12_method_31_code 42 = .ok (.putfield 124, 3) := by decide +kernel
theorem d_MO_send_45 : decode prog_12_method_31_code 45 = .ok (.iconst 0, 1) := by decide +kernel
theorem d_MO_send_46 : decode prog_12_method_31_code 46 = .ok (.istore 6, 2) := by decide +kernel
theorem d_MO_send_48 : decode prog_12_method_31_code 48 = .ok (.iload 6, 2) := by decide +kernel
theorem d_MO_send_50 : decode prog_12_method_31_code 50 = .ok (.aload_n 0, 1) := by decide +kernel
theorem d_MO_send_51 : decode prog_12_method_31_code 51 = .ok (.getfield 195, 3) := by decide +kernel
theorem d_MO_send_54 : decode prog_12_method_31_code 54 = .ok (.if_icmp .ge 30, 3) := by decide +kernel
theorem d_MO_send_57 : decode prog_12_method_31_code 57 = .ok (.aload_n 0, 1) := by decide +kernel
theorem d_MO_send_58 : decode prog_12_method_31_code 58 = .ok (.aload_n 0, 1) := by decide +kernel
theorem d_MO_send_59 : decode prog_12_method_31_code 59 = .ok (.getfield 7, 3) := by decide +kernel
theorem d_MO_send_62 : decode prog_12_method_31_code 62 = .ok (.iload 6, 2) := by decide +kernel
theorem d_MO_send_64 : decode prog_12_method_31_code 64 = .ok (.iaload, 1) := by decide +kernel
theorem d_MO_send_65 : decode prog_12_method_31_code 65 = .ok (.invokevirtual 201, 3) := by decide +kernel
theorem d_MO_send_68 : decode prog_12_method_31_code 68 = .ok (.istore 7, 2) := by decide +kernel
theorem d_MO_send_70 : decode prog_12_method_31_code 70 = .ok (.iload 7, 2) := by decide +kernel
theorem d_MO_send_72 : decode prog_12_method_31_code 72 = .ok (.ifCond .ne 6, 3) := by decide +kernel
theorem d_MO_send_75 : decode prog_12_method_31_code 75 = .ok (.bipush (-4), 2) := by decide +kernel
theorem d_MO_send_77 : decode prog_12_method_31_code 77 = .ok (.ireturn, 1) := by decide +kernel
theorem d_MO_send_78 : decode prog_12_method_31_code 78 = .ok (.iinc 6 1, 3) := by decide +kernel
theorem d_MO_send_81 : decode prog_12_method_31_code 81 = .ok (.goto (-33), 3) := by decide +kernel
theorem d_MO_send_84 : decode prog_12_method_31_code 84 = .ok (.aload_n 0, 1) := by decide +kernel
theorem d_MO_send_85 : decode prog_12_method_31_code 85 = .ok (.invokevirtual 204, 3) := by decide +kernel
theorem d_MO_send_88 : decode prog_12_method_31_code 88 = .ok (.istore 6, 2) := by decide +kernel
theorem d_MO_send_90 : decode prog_12_method_31_code 90 = .ok (.iload 6, 2) := by decide +kernel
theorem d_MO_send_92 : decode prog_12_method_31_code 92 = .ok (.iconst 3, 1) := by decide +kernel
theorem d_MO_send_93 : decode prog_12_method_31_code 93 = .ok (.if_icmp .le 6, 3) := by decide +kernel
theorem d_MO_send_96 : decode prog_12_method_31_code 96 = .ok (.bipush (-5), 2) := by decide +kernel
theorem d_MO_send_98 : decode prog_12_method_31_code 98 = .ok (.ireturn, 1) := by decide +kernel
theorem d_MO_send_99 : decode prog_12_method_31_code 99 = .ok (.aload_n 0, 1) := by decide +kernel
theorem d_MO_send_100 : decode prog_12_method_31_code 100 = .ok (.getfield 51, 3) := by decide +kernel
theorem d_MO_send_103 : decode prog_12_method_31_code 103 = .ok (.iconst 0, 1) := by decide +kernel
theorem d_MO_send_104 : decode prog_12_method_31_code 104 = .ok (.iaload, 1) := by decide +kernel
theorem d_MO_send_105 : decode prog_12_method_31_code 105 = .ok (.iload 6, 2) := by decide +kernel
theorem d_MO_send_107 : decode prog_12_method_31_code 107 = .ok (.iadd, 1) := by decide +kernel
theorem d_MO_send_108 : decode prog_12_method_31_code 108 = .ok (.bipush 8, 2) := by decide +kernel
theorem d_MO_send_110 : decode prog_12_method_31_code 110 = .ok (.if_icmp .le 6, 3) := by decide +kernel
theorem d_MO_send_113 : decode prog_12_method_31_code 113 = .ok (.bipush (-3), 2) := by decide +kernel
theorem d_MO_send_115 : decode prog_12_method_31_code 115 = .ok (.ireturn, 1) := by decide +kernel
theorem d_MO_send_116 : decode prog_12_method_31_code 116 = .ok (.iconst 0, 1) := by decide +kernel
theorem d_MO_send_117 : decode prog_12_method_31_code 117 = .ok (.istore 7, 2) := by decide +kernel
theorem d_MO_send_119 : decode prog_12_method_31_code 119 = .ok (.iconst 1, 1) := by decide +kernel
theorem d_MO_send_120 : decode prog_12_method_31_code 120 = .ok (.istore 8, 2) := by decide +kernel
theorem d_MO_send_122 : decode prog_12_method_31_code 122 = .ok (.iload 8, 2) := by decide +kernel
theorem d_MO_send_124 : decode prog_12_method_31_code 124 = .ok (.iload 6, 2) := by decide +kernel
theorem d_MO_send_126 : decode prog_12_method_31_code 126 = .ok (.if_icmp .gt 100, 3) := by decide +kernel
theorem d_MO_send_129 : decode prog_12_method_31_code 129 = .ok (.iload 6, 2) := by decide +kernel
theorem d_MO_send_131 : decode prog_12_method_31_code 131 = .ok (.iconst 1, 1) := by decide +kernel
theorem d_MO_send_132 : decode prog_12_method_31_code 132 = .ok (.if_icmp .ne 10, 3) := by decide +kernel
theorem d_MO_send_135 : decode prog_12_method_31_code 135 = .ok (.aload_n 0, 1) := by decide +kernel
theorem d_MO_send_136 : decode prog_12_method_31_code 136 = .ok (.getfield 124, 3) := by decide +kernel
theorem d_MO_send_139 : decode prog_12_method_31_code 139 = .ok (.goto 9, 3) := by decide +kernel
theorem d_MO_send_142 : decode prog_12_method_31_code 142 = .ok (.aload_n 0, 1) := by decide +kernel
theorem d_MO_send_143 : decode prog_12_method_31_code 143 = .ok (.iload 7, 2) := by decide +kernel
theorem d_MO_send_145 : decode prog_12_method_31_code 145 = .ok (.invokevirtual 198, 3) := by decide +kernel
theorem d_MO_send_148 : decode prog_12_method_31_code 148 = .ok (.istore 9, 2) := by decide +kernel
theorem d_MO_send_150 : decode prog_12_method_31_code 150 = .ok (.aload_n 0, 1) := by decide +kernel
theorem d_MO_send_151 : decode prog_12_method_31_code 151 = .ok (.iload 5, 2) := by decide +kernel
theorem d_MO_send_153 : decode prog_12_method_31_code 153 = .ok (.aload_n 0, 1) := by decide +kernel
theorem d_MO_send_154 : decode prog_12_method_31_code 154 = .ok (.getfield 24, 3) := by decide +kernel
theorem d_MO_send_157 : decode prog_12_method_31_code 157 = .ok (.iload_n 1, 1) := by decide +kernel
theorem d_MO_send_158 : decode prog_12_method_31_code 158 = .ok (.iaload, 1) := by decide +kernel
theorem d_MO_send_159 : decode prog_12_method_31_code 159 = .ok (.lload_n 2, 1) := by decide +kernel
theorem d_MO_send_160 : decode prog_12_method_31_code 160 = .ok (.iload 4, 2) := by decide +kernel
theorem d_MO_send_162 : decode prog_12_method_31_code 162 = .ok (.iload 7, 2) := by decide +kernel
theorem d_MO_send_164 : decode prog_12_method_31_code 164 = .ok (.iload 9, 2) := by decide +kernel
theorem d_MO_send_166 : decode prog_12_method_31_code 166 = .ok (.iload 7, 2) := by decide +kernel
theorem d_MO_send_168 : decode prog_12_method_31_code 168 = .ok (.isub, 1) := by decide +kernel
theorem d_MO_send_169 : decode prog_12_method_31_code 169 = .ok (.iload 6, 2) := by decide +kernel
theorem d_MO_send_171 : decode prog_12_method_31_code 171 = .ok (.iconst 1, 1) := by decide +kernel
theorem d_MO_send_172 : decode prog_12_method_31_code 172 = .ok (.if_icmp .ne 7, 3) := by decide +kernel
theorem d_MO_send_175 : decode prog_12_method_31_code 175 = .ok (.iconst (-1), 1) := by decide +kernel
theorem d_MO_send_176 : decode prog_12_method_31_code 176 = .ok (.goto 9, 3) := by decide +kernel
theorem d_MO_send_179 : decode prog_12_method_31_code 179 = .ok (.aload_n 0, 1) := by decide +kernel
theorem d_MO_send_180 : decode prog_12_method_31_code 180 = .ok (.getfield 27, 3) := by decide +kernel
theorem d_MO_send_183 : decode prog_12_method_31_code 183 = .ok (.iload_n 1, 1) := by decide +kernel
theorem d_MO_send_184 : decode prog_12_method_31_code 184 = .ok (.iaload, 1) := by decide +kernel
theorem d_MO_send_185 : decode prog_12_method_31_code 185 = .ok (.iload 6, 2) := by decide +kernel
theorem d_MO_send_187 : decode prog_12_method_31_code 187 = .ok (.iload 8, 2) := by decide +kernel
theorem d_MO_send_189 : decode prog_12_method_31_code 189 = .ok (.invokevirtual 181, 3) := by decide +kernel
theorem d_MO_send_192 : decode prog_12_method_31_code 192 = .ok (.aload_n 0, 1) := by decide +kernel
theorem d_MO_send_193 : decode prog_12_method_31_code 193 = .ok (.iconst 0, 1) := by decide +kernel
theorem d_MO_send_194 : decode prog_12_method_31_code 194 = .ok (.iload_n 1, 1) := by decide +kernel
theorem d_MO_send_195 : decode prog_12_method_31_code 195 = .ok (.invokevirtual 208, 3) := by decide +kernel
theorem d_MO_send_198 : decode prog_12_method_31_code 198 = .ok (.aload_n 0, 1) := by decide +kernel
theorem d_MO_send_199 : decode prog_12_method_31_code 199 = .ok (.getfield 24, 3) := by decide +kernel
theorem d_MO_send_202 : decode prog_12_method_31_code 202 = .ok (.iload_n 1, 1) := by decide +kernel
theorem d_MO_send_203 : decode prog_12_method_31_code 203 = .ok (.aload_n 0, 1) := by decide +kernel
theorem d_MO_send_204 : decode prog_12_method_31_code 204 = .ok (.getfield 24, 3) := by decide +kernel
theorem d_MO_send_207 : decode prog_12_method_31_code 207 = .ok (.iload_n 1, 1) := by decide +kernel
theorem d_MO_send_208 : decode prog_12_method_31_code 208 = .ok (.iaload, 1) := by decide +kernel
theorem d_MO_send_209 : decode prog_12_method_31_code 209 = .ok (.iconst 1, 1) := by decide +kernel
theorem d_MO_send_210 : decode prog_12_method_31_code 210 = .ok (.iadd, 1) := by decide +kernel
theorem d_MO_send_211 : decode prog_12_method_31_code 211 = .ok (.sipush 256, 3) := by decide +kernel
theorem d_MO_send_214 : decode prog_12_method_31_code 214 = .ok (.irem, 1) := by decide +kernel
theorem d_MO_send_215 : decode prog_12_method_31_code 215 = .ok (.iastore, 1) := by decide +kernel
theorem d_MO_send_216 : decode prog_12_method_31_code 216 = .ok (.iload 9, 2) := by decide +kernel
theorem d_MO_send_218 : decode prog_12_method_31_code 218 = .ok (.istore 7, 2) := by decide +kernel
theorem d_MO_send_220 : decode prog_12_method_31_code 220 = .ok (.iinc 8 1, 3) := by decide +kernel
theorem d_MO_send_223 : decode prog_12_method_31_code 223 = .ok (.goto (-101), 3) := by decide +kernel
theorem d_MO_send_226 : decode prog_12_method_31_code 226 = .ok (.aload_n 0, 1) := by decide +kernel
theorem d_MO_send_227 : decode prog_12_method_31_code 227 = .ok (.getfield 27, 3) := by decide +kernel
theorem d_MO_send_230 : decode prog_12_method_31_code 230 = .ok (.iload_n 1, 1) := by decide +kernel
theorem d_MO_send_231 : decode prog_12_method_31_code 231 = .ok (.iload 6, 2) := by decide +kernel
theorem d_MO_send_233 : decode prog_12_method_31_code 233 = .ok (.iconst 1, 1) := by decide +kernel
theorem d_MO_send_234 : decode prog_12_method_31_code 234 = .ok (.if_icmp .ne 12, 3) := by decide +kernel
theorem d_MO_send_237 : decode prog_12_method_31_code 237 = .ok (.aload_n 0, 1) := by decide +kernel
theorem d_MO_send_238 : decode prog_12_method_31_code 238 = .ok (.getfield 27, 3) := by decide +kernel
theorem d_MO_send_241 : decode prog_12_method_31_code 241 = .ok (.iload_n 1, 1) := by decide +kernel
theorem d_MO_send_242 : decode prog_12_method_31_code 242 = .ok (.iaload, 1) := by decide +kernel
theorem d_MO_send_243 : decode prog_12_method_31_code 243 = .ok (.goto 15, 3) := by decide +kernel
theorem d_MO_send_246 : decode prog_12_method_31_code 246 = .ok (.aload_n 0, 1) := by decide +kernel
theorem d_MO_send_247 : decode prog_12_method_31_code 247 = .ok (.getfield 27, 3) := by decide +kernel
theorem d_MO_send_250 : decode prog_12_method_31_code 250 = .ok (.iload_n 1, 1) := by decide +kernel
theorem d_MO_send_251 : decode prog_12_method_31_code 251 = .ok (.iaload, 1) := by decide +kernel
theorem d_MO_send_252 : decode prog_12_method_31_code 252 = .ok (.iconst 1, 1) := by decide +kernel
theorem d_MO_send_253 : decode prog_12_method_31_code 253 = .ok (.iadd, 1) := by decide +kernel
theorem d_MO_send_254 : decode prog_12_method_31_code 254 = .ok (.sipush 256, 3) := by decide +kernel
theorem d_MO_send_257 : decode prog_12_method_31_code 257 = .ok (.irem, 1) := by decide +kernel
theorem d_MO_send_258 : decode prog_12_method_31_code 258 = .ok (.iastore, 1) := by decide +kernel
theorem d_MO_send_259 : decode prog_12_method_31_code 259 = .ok (.iload 6, 2) := by decide +kernel
theorem d_MO_send_261 : decode prog_12_method_31_code 261 = .ok (.ireturn, 1) := by decide +kernel
theorem d_MO_alter_0 : decode prog_12_method_32_code 0 = .ok (.aload_n 0, 1) := by decide +kernel
theorem d_MO_alter_1 : decode prog_12_method_32_code 1 = .ok (.getfield 51, 3) := by decide +kernel
theorem d_MO_alter_4 : decode prog_12_method_32_code 4 = .ok (.iconst 0, 1) := by decide +kernel
theorem d_MO_alter_5 : decode prog_12_method_32_code 5 = .ok (.iaload, 1) := by decide +kernel
theorem d_MO_alter_6 : decode prog_12_method_32_code 6 = .ok (.ifCond .eq 29, 3) := by decide +kernel
theorem d_MO_alter_9 : decode prog_12_method_32_code 9 = .ok (.iload_n 1, 1) := by decide +kernel
theorem d_MO_alter_10 : decode prog_12_method_32_code 10 = .ok (.ifCond .lt 25, 3) := by decide +kernel
theorem d_MO_alter_13 : decode prog_12_method_32_code 13 = .ok (.iload_n 1, 1) := by decide +kernel
theorem d_MO_alter_14 : decode prog_12_method_32_code 14 = .ok (.aload_n 0, 1) := by decide +kernel
theorem d_MO_alter_15 : decode prog_12_method_32_code 15 = .ok (.getfield 45, 3) := by decide +kernel
theorem d_MO_alter_18 : decode prog_12_method_32_code 18 = .ok (.iconst 0, 1) := by decide +kernel
theorem d_MO_alter_19 : decode prog_12_method_32_code 19 = .ok (.iaload, 1) := by decide +kernel
theorem d_MO_alter_20 : decode prog_12_method_32_code 20 = .ok (.if_icmp .ge 15, 3) := by decide +kernel
theorem d_MO_alter_23 : decode prog_12_method_32_code 23 = .ok (.iload_n 2, 1) := by decide +kernel
theorem d_MO_alter_24 : decode prog_12_method_32_code 24 = .ok (.iconst 1, 1) := by decide +kernel
theorem d_MO_alter_25 : decode prog_12_method_32_code 25 = .ok (.if_icmp .lt 10, 3) := by decide +kernel
theorem d_MO_alter_28 : decode prog_12_method_32_code 28 = .ok (.iload_n 2, 1) := by decide +kernel
theorem d_MO_alter_29 : decode prog_12_method_32_code 29 = .ok (.sipush 255, 3) := by decide +kernel
theorem d_MO_alter_32 : decode prog_12_method_32_code 32 = .ok (.if_icmp .le 5, 3) := by decide +kernel
theorem d_MO_alter_35 : decode prog_12_method_32_code 35 = .ok (.iconst 0, 1) := by decide +kernel
theorem d_MO_alter_36 : decode prog_12_method_32_code 36 = .ok (.ireturn, 1) := by decide +kernel
theorem d_MO_alter_37 : decode prog_12_method_32_code 37 = .ok (.aload_n 0, 1) := by decide +kernel
theorem d_MO_alter_38 : decode prog_12_method_32_code 38 = .ok (.getfield 42, 3) := by decide +kernel
theorem d_MO_alter_41 : decode prog_12_method_32_code 41 = .ok (.iload_n 1, 1) := by decide +kernel
theorem d_MO_alter_42 : decode prog_12_method_32_code 42 = .ok (.aload_n 0, 1) := by decide +kernel
theorem d_MO_alter_43 : decode prog_12_method_32_code 43 = .ok (.getfield 42, 3) := by decide +kernel
theorem d_MO_alter_46 : decode prog_12_method_32_code 46 = .ok (.iload_n 1, 1) := by decide +kernel
theorem d_MO_alter_47 : decode prog_12_method_32_code 47 = .ok (.iaload, 1) := by decide +kernel
theorem d_MO_alter_48 : decode prog_12_method_32_code 48 = .ok (.iload_n 2, 1) := by decide +kernel
theorem d_MO_alter_49 : decode prog_12_method_32_code 49 = .ok (.ixor, 1) := by decide +kernel
theorem d_MO_alter_50 : decode prog_12_method_32_code 50 = .ok (.iastore, 1) := by decide +kernel
theorem d_MO_alter_51 : decode prog_12_method_32_code 51 = .ok (.iconst 1, 1) := by decide +kernel
theorem d_MO_alter_52 : decode prog_12_method_32_code 52 = .ok (.ireturn, 1) := by decide +kernel
theorem d_MO_receive_0 : decode prog_12_method_33_code 0 = .ok (.aload_n 0, 1) := by decide +kernel
theorem d_MO_receive_1 : decode prog_12_method_33_code 1 = .ok (.getfield 51, 3) := by decide +kernel
theorem d_MO_receive_4 : decode prog_12_method_33_code 4 = .ok (.iconst 0, 1) := by decide +kernel
theorem d_MO_receive_5 : decode prog_12_method_33_code 5 = .ok (.iaload, 1) := by decide +kernel
theorem d_MO_receive_6 : decode prog_12_method_33_code 6 = .ok (.ifCond .ne 6, 3) := by decide +kernel
theorem d_MO_receive_9 : decode prog_12_method_33_code 9 = .ok (.bipush (-2), 2) := by decide +kernel
theorem d_MO_receive_11 : decode prog_12_method_33_code 11 = .ok (.ireturn, 1) := by decide +kernel
theorem d_MO_receive_12 : decode prog_12_method_33_code 12 = .ok (.aload_n 0, 1) := by decide +kernel
theorem d_MO_receive_13 : decode prog_12_method_33_code 13 = .ok (.getfield 211, 3) := by decide +kernel
theorem d_MO_receive_16 : decode prog_12_method_33_code 16 = .ok (.bipush 12, 2) := by decide +kernel
theorem d_MO_receive_18 : decode prog_12_method_33_code 18 = .ok (.if_icmp .eq 12, 3) := by decide +kernel
theorem d_MO_receive_21 : decode prog_12_method_33_code 21 = .ok (.aload_n 0, 1) := by decide +kernel
theorem d_MO_receive_22 : decode prog_12_method_33_code 22 = .ok (.getfield 214, 3) := by decide +kernel
theorem d_MO_receive_25 : decode prog_12_method_33_code 25 = .ok (.bipush 100, 2) := by decide +kernel
theorem d_MO_receive_27 : decode prog_12_method_33_code 27 = .ok (.if_icmp .ne 6, 3) := by decide +kernel
theorem d_MO_receive_30 : decode prog_12_method_33_code 30 = .ok (.bipush (-3), 2) := by decide +kernel
theorem d_MO_receive_32 : decode prog_12_method_33_code 32 = .ok (.ireturn, 1) := by decide +kernel
theorem d_MO_receive_33 : decode prog_12_method_33_code 33 = .ok (.aload_n 0, 1) := by decide +kernel
theorem d_MO_receive_34 : decode prog_12_method_33_code 34 = .ok (.iconst 0, 1) := by decide +kernel
theorem d_MO_receive_35 : decode prog_12_method_33_code 35 = .ok (.invokevirtual 217, 3) := by decide +kernel
theorem d_MO_receive_38 : decode prog_12_method_33_code 38 = .ok (.aload_n 0, 1) := by decide +kernel
theorem d_MO_receive_39 : decode prog_12_method_33_code 39 = .ok (.invokevirtual 220, 3) := by decide +kernel
theorem d_MO_receive_42 : decode prog_12_method_33_code 42 = .ok (.istore_n 1, 1) := by decide +kernel
theorem d_MO_receive_43 : decode prog_12_method_33_code 43 = .ok (.aload_n 0, 1) := by decide +kernel
theorem d_MO_receive_44 : decode prog_12_method_33_code 44 = .ok (.getfield 48, 3) := by decide +kernel
theorem d_MO_receive_47 : decode prog_12_method_33_code 47 = .ok (.iconst 0, 1) := by decide +kernel
theorem d_MO_receive_48 : decode prog_12_method_33_code 48 = .ok (.iaload, 1) := by decide +kernel
theorem d_MO_receive_49 : decode prog_12_method_33_code 49 = .ok (.istore_n 2, 1) := by decide +kernel
theorem d_MO_receive_50 : decode prog_12_method_33_code 50 = .ok (.aload_n 0, 1) := by decide +kernel
theorem d_MO_receive_51 : decode prog_12_method_33_code 51 = .ok (.iconst 0, 1) := by decide +kernel
theorem d_MO_receive_52 : decode prog_12_method_33_code 52 = .ok (.invokevirtual 217, 3) := by decide +kernel
theorem d_MO_receive_55 : decode prog_12_method_33_code 55 = .ok (.aload_n 0, 1) := by decide +kernel
theorem d_MO_receive_56 : decode prog_12_method_33_code 56 = .ok (.iconst 0, 1) := by decide +kernel
theorem d_MO_receive_57 : decode prog_12_method_33_code 57 = .ok (.invokevirtual 223, 3) := by decide +kernel
theorem d_MO_receive_60 : decode prog_12_method_33_code 60 = .ok (.iload_n 1, 1) := by decide +kernel
theorem d_MO_receive_61 : decode prog_12_method_33_code 61 = .ok (.ifCond .ge 6, 3) := by decide +kernel
theorem d_MO_receive_64 : decode prog_12_method_33_code 64 = .ok (.bipush (-6), 2) := by decide +kernel
theorem d_MO_receive_66 : decode prog_12_method_33_code 66 = .ok (.ireturn, 1) := by decide +kernel
theorem d_MO_receive_67 : decode prog_12_method_33_code 67 = .ok (.aload_n 0, 1) := by decide +kernel
theorem d_MO_receive_68 : decode prog_12_method_33_code 68 = .ok (.getfield 214, 3) := by decide +kernel
theorem d_MO_receive_71 : decode prog_12_method_33_code 71 = .ok (.istore_n 3, 1) := by decide +kernel
theorem d_MO_receive_72 : decode prog_12_method_33_code 72 = .ok (.aload_n 0, 1) := by decide +kernel
theorem d_MO_receive_73 : decode prog_12_method_33_code 73 = .ok (.dup, 1) := by decide +kernel
theorem d_MO_receive_74 : decode prog_12_method_33_code 74 = .ok (.getfield 214, 3) := by decide +kernel
theorem d_MO_receive_77 : decode prog_12_method_33_code 77 = .ok (.iconst 1, 1) := by decide +kernel
theorem d_MO_receive_78 : decode prog_12_method_33_code 78 = .ok (.iadd, 1) := by decide +kernel
theorem d_MO_receive_79 : decode prog_12_method_33_code 79 = .ok (.putfield 214, 3) := by decide +kernel
theorem d_MO_receive_82 : decode prog_12_method_33_code 82 = .ok (.aload_n 0, 1) := by decide +kernel
theorem d_MO_receive_83 : decode prog_12_method_33_code 83 = .ok (.dup, 1) := by decide +kernel
theorem d_MO_receive_84 : decode prog_12_method_33_code 84 = .ok (.getfield 211, 3) := by decide +kernel
theorem d_MO_receive_87 : decode prog_12_method_33_code 87 = .ok (.iconst 1, 1) := by decide +kernel
theorem d_MO_receive_88 : decode prog_12_method_33_code 88 = .ok (.iadd, 1) := by decide +kernel
theorem d_MO_receive_89 : decode prog_12_method_33_code 89 = .ok (.putfield 211, 3) := by decide +kernel
theorem d_MO_receive_92 : decode prog_12_method_33_code 92 = .ok (.aload_n 0, 1) := by decide +kernel
theorem d_MO_receive_93 : decode prog_12_method_33_code 93 = .ok (.getfield 54, 3) := by decide +kernel
theorem d_MO_receive_96 : decode prog_12_method_33_code 96 = .ok (.iload_n 3, 1) := by decide +kernel
theorem d_MO_receive_97 : decode prog_12_method_33_code 97 = .ok (.iload_n 2, 1) := by decide +kernel
theorem d_MO_receive_98 : decode prog_12_method_33_code 98 = .ok (.iastore, 1) := by decide +kernel
theorem d_MO_receive_99 : decode prog_12_method_33_code 99 = .ok (.aload_n 0, 1) := by decide +kernel
theorem d_MO_receive_100 : decode prog_12_method_33_code 100 = .ok (.getfield 57, 3) := by decide +kernel
theorem d_MO_receive_103 : decode prog_12_method_33_code 103 = .ok (.iload_n 3, 1) := by decide +kernel
theorem d_MO_receive_104 : decode prog_12_method_33_code 104 = .ok (.aload_n 0, 1) := by decide +kernel
theorem d_MO_receive_105 : decode prog_12_method_33_code 105 = .ok (.getfield 39, 3) := by decide +kernel
theorem d_MO_receive_108 : decode prog_12_method_33_code 108 = .ok (.iconst 1, 1) := by decide +kernel
theorem d_MO_receive_109 : decode prog_12_method_33_code 109 = .ok (.iaload, 1) := by decide +kernel
theorem d_MO_receive_110 : decode prog_12_method_33_code 110 = .ok (.iastore, 1) := by decide +kernel
theorem d_MO_receive_111 : decode prog_12_method_33_code 111 = .ok (.aload_n 0, 1) := by decide +kernel
theorem d_MO_receive_112 : decode prog_12_method_33_code 112 = .ok (.getfield 60, 3) := by decide +kernel
theorem d_MO_receive_115 : decode prog_12_method_33_code 115 = .ok (.iload_n 3, 1) := by decide +kernel
theorem d_MO_receive_116 : decode prog_12_method_33_code 116 = .ok (.aload_n 0, 1) := by decide +kernel
theorem d_MO_receive_117 : decode prog_12_method_33_code 117 = .ok (.getfield 16, 3) := by decide +kernel
theorem d_MO_receive_120 : decode prog_12_method_33_code 120 = .ok (.iload_n 2, 1) := by decide +kernel
theorem d_MO_receive_121 : decode prog_12_method_33_code 121 = .ok (.laload, 1) := by decide +kernel
theorem d_MO_receive_122 : decode prog_12_method_33_code 122 = .ok (.lastore, 1) := by decide +kernel
theorem d_MO_receive_123 : decode prog_12_method_33_code 123 = .ok (.aload_n 0, 1) := by decide +kernel
theorem d_MO_receive_124 : decode prog_12_method_33_code 124 = .ok (.getfield 63, 3) := by decide +kernel
theorem d_MO_receive_127 : decode prog_12_method_33_code 127 = .ok (.iload_n 3, 1) := by decide +kernel
theorem d_MO_receive_128 : decode prog_12_method_33_code 128 = .ok (.aload_n 0, 1) := by decide +kernel
theorem d_MO_receive_129 : decode prog_12_method_33_code 129 = .ok (.iconst 2, 1) := by decide +kernel
theorem d_MO_receive_130 : decode prog_12_method_33_code 130 = .ok (.invokevirtual 170, 3) := by decide +kernel
theorem d_MO_receive_133 : decode prog_12_method_33_code 133 = .ok (.lastore, 1) := by decide +kernel
theorem d_MO_receive_134 : decode prog_12_method_33_code 134 = .ok (.aload_n 0, 1) := by decide +kernel
theorem d_MO_receive_135 : decode prog_12_method_33_code 135 = .ok (.getfield 66, 3) := by decide +kernel
theorem d_MO_receive_138 : decode prog_12_method_33_code 138 = .ok (.iload_n 3, 1) := by decide +kernel
theorem d_MO_receive_139 : decode prog_12_method_33_code 139 = .ok (.aload_n 0, 1) := by decide +kernel
theorem d_MO_receive_140 : decode prog_12_method_33_code 140 = .ok (.getfield 39, 3) := by decide +kernel
theorem d_MO_receive_143 : decode prog_12_method_33_code 143 = .ok (.iconst 0, 1) := by decide +kernel
theorem d_MO_receive_144 : decode prog_12_method_33_code 144 = .ok (.iaload, 1) := by decide +kernel
theorem d_MO_receive_145 : decode prog_12_method_33_code 145 = .ok (.bipush 32, 2) := by decide +kernel
theorem d_MO_receive_147 : decode prog_12_method_33_code 147 = .ok (.iand, 1) := by decide +kernel
theorem d_MO_receive_148 : decode prog_12_method_33_code 148 = .ok (.ifCond .eq 7, 3) := by decide +kernel
theorem d_MO_receive_151 : decode prog_12_method_33_code 151 = .ok (.iconst 1, 1) := by decide +kernel
theorem d_MO_receive_152 : decode prog_12_method_33_code 152 = .ok (.goto 4, 3) := by decide +kernel
theorem d_MO_receive_155 : decode prog_12_method_33_code 155 = .ok (.iconst 0, 1) := by decide +kernel
theorem d_MO_receive_156 : decode prog_12_method_33_code 156 = .ok (.bastore, 1) := by decide +kernel
theorem d_MO_receive_157 : decode prog_12_method_33_code 157 = .ok (.aload_n 0, 1) := by decide +kernel
theorem d_MO_receive_158 : decode prog_12_method_33_code 158 = .ok (.getfield 69, 3) := by decide +kernel
theorem d_MO_receive_161 : decode prog_12_method_33_code 161 = .ok (.iload_n 3, 1) := by decide +kernel
theorem d_MO_receive_162 : decode prog_12_method_33_code 162 = .ok (.aload_n 0, 1) := by decide +kernel
theorem d_MO_receive_163 : decode prog_12_method_33_code 163 = .ok (.getfield 39, 3) := by decide +kernel
theorem d_MO_receive_166 : decode prog_12_method_33_code 166 = .ok (.iconst 0, 1) := by decide +kernel
theorem d_MO_receive_167 : decode prog_12_method_33_code 167 = .ok (.iaload, 1) := by decide +kernel
theorem d_MO_receive_168 : decode prog_12_method_33_code 168 = .ok (.bipush 64, 2) := by decide +kernel
theorem d_MO_receive_170 : decode prog_12_method_33_code 170 = .ok (.iand, 1) := by decide +kernel
theorem d_MO_receive_171 : decode prog_12_method_33_code 171 = .ok (.ifCond .eq 7, 3) := by decide +kernel
theorem d_MO_receive_174 : decode prog_12_method_33_code 174 = .ok (.iconst 1, 1) := by decide +kernel
theorem d_MO_receive_175 : decode prog_12_method_33_code 175 = .ok (.goto 4, 3) := by decide +kernel
theorem d_MO_receive_178 : decode prog_12_method_33_code 178 = .ok (.iconst 0, 1) := by decide +kernel
theorem d_MO_receive_179 : decode prog_12_method_33_code 179 = .ok (.bastore, 1) := by decide +kernel
theorem d_MO_receive_180 : decode prog_12_method_33_code 180 = .ok (.aload_n 0, 1) := by decide +kernel
theorem d_MO_receive_181 : decode prog_12_method_33_code 181 = .ok (.getfield 72, 3) := by decide +kernel
theorem d_MO_receive_184 : decode prog_12_method_33_code 184 = .ok (.iload_n 3, 1) := by decide +kernel
theorem d_MO_receive_185 : decode prog_12_method_33_code 185 = .ok (.aload_n 0, 1) := by decide +kernel
theorem d_MO_receive_186 : decode prog_12_method_33_code 186 = .ok (.getfield 226, 3) := by decide +kernel
theorem d_MO_receive_189 : decode prog_12_method_33_code 189 = .ok (.iastore, 1) := by decide +kernel
theorem d_MO_receive_190 : decode prog_12_method_33_code 190 = .ok (.aload_n 0, 1) := by decide +kernel
theorem d_MO_receive_191 : decode prog_12_method_33_code 191 = .ok (.getfield 75, 3) := by decide +kernel
theorem d_MO_receive_194 : decode prog_12_method_33_code 194 = .ok (.iload_n 3, 1) := by decide +kernel
theorem d_MO_receive_195 : decode prog_12_method_33_code 195 = .ok (.aload_n 0, 1) := by decide +kernel
theorem d_MO_receive_196 : decode prog_12_method_33_code 196 = .ok (.getfield 226, 3) := by decide +kernel
theorem d_MO_receive_199 : decode prog_12_method_33_code 199 = .ok (.iconst 5, 1) := by decide +kernel
theorem d_MO_receive_200 : decode prog_12_method_33_code 200 = .ok (.aload_n 0, 1) := by decide +kernel
theorem d_MO_receive_201 : decode prog_12_method_33_code 201 = .ok (.getfield 39, 3) := by decide +kernel
theorem d_MO_receive_204 : decode prog_12_method_33_code 204 = .ok (.iload_n 1, 1) := by decide +kernel
theorem d_MO_receive_205 : decode prog_12_method_33_code 205 = .ok (.iconst 1, 1) := by decide +kernel
theorem d_MO_receive_206 : decode prog_12_method_33_code 206 = .ok (.isub, 1) := by decide +kernel
theorem d_MO_receive_207 : decode prog_12_method_33_code 207 = .ok (.iaload, 1) := by decide +kernel
theorem d_MO_receive_208 : decode prog_12_method_33_code 208 = .ok (.iconst 1, 1) := by decide +kernel
theorem d_MO_receive_209 : decode prog_12_method_33_code 209 = .ok (.iadd, 1) := by decide +kernel
theorem d_MO_receive_210 : decode prog_12_method_33_code 210 = .ok (.imul, 1) := by decide +kernel
theorem d_MO_receive_211 : decode prog_12_method_33_code 211 = .ok (.iadd, 1) := by decide +kernel
theorem d_MO_receive_212 : decode prog_12_method_33_code 212 = .ok (.iastore, 1) := by decide +kernel
theorem d_MO_receive_213 : decode prog_12_method_33_code 213 = .ok (.aload_n 0, 1) := by decide +kernel
theorem d_MO_receive_214 : decode prog_12_method_33_code 214 = .ok (.getfield 78, 3) := by decide +kernel
theorem d_MO_receive_217 : decode prog_12_method_33_code 217 = .ok (.iload_n 3, 1) := by decide +kernel
theorem d_MO_receive_218 : decode prog_12_method_33_code 218 = .ok (.aload_n 0, 1) := by decide +kernel
theorem d_MO_receive_219 : decode prog_12_method_33_code 219 = .ok (.getfield 226, 3) := by decide +kernel
theorem d_MO_receive_222 : decode prog_12_method_33_code 222 = .ok (.iastore, 1) := by decide +kernel
theorem d_MO_receive_223 : decode prog_12_method_33_code 223 = .ok (.aload_n 0, 1) := by decide +kernel
theorem d_MO_receive_224 : decode prog_12_method_33_code 224 = .ok (.iload_n 3, 1) := by decide +kernel
theorem d_MO_receive_225 : decode prog_12_method_33_code 225 = .ok (.iload_n 1, 1) := by decide +kernel
theorem d_MO_receive_226 : decode prog_12_method_33_code 226 = .ok (.invokevirtual 229, 3) := by decide +kernel
theorem d_MO_receive_229 : decode prog_12_method_33_code 229 = .ok (.iload_n 3, 1) := by decide +kernel
theorem d_MO_receive_230 : decode prog_12_method_33_code 230 = .ok (.ireturn, 1) := by decide +kernel
theorem d_MO_keepData_0 : decode prog_12_method_34_code 0 = .ok (.iconst 0, 1) := by decide +kernel
theorem d_MO_keepData_1 : decode prog_12_method_34_code 1 = .ok (.istore_n 3, 1) := by decide +kernel
theorem d_MO_keepData_2 : decode prog_12_method_34_code 2 = .ok (.aload_n 0, 1) := by decide +kernel
theorem d_MO_keepData_3 : decode prog_12_method_34_code 3 = .ok (.getfield 90, 3) := by decide +kernel
theorem d_MO_keepData_6 : decode prog_12_method_34_code 6 = .ok (.iload_n 3, 1) := by decide +kernel
theorem d_MO_keepData_7 : decode prog_12_method_34_code 7 = .ok (.baload, 1) := by decide +kernel
theorem d_MO_keepData_8 : decode prog_12_method_34_code 8 = .ok (.ifCond .eq 9, 3) := by decide +kernel
theorem d_MO_keepData_11 : decode prog_12_method_34_code 11 = .ok (.iinc 3 1, 3) := by decide +kernel
theorem d_MO_keepData_14 : decode prog_12_method_34_code 14 = .ok (.goto (-12), 3) := by decide +kernel
theorem d_MO_keepData_17 : decode prog_12_method_34_code 17 = .ok (.aload_n 0, 1) := by decide +kernel
theorem d_MO_keepData_18 : decode prog_12_method_34_code 18 = .ok (.getfield 90, 3) := by decide +kernel
theorem d_MO_keepData_21 : decode prog_12_method_34_code 21 = .ok (.iload_n 3, 1) := by decide +kernel
theorem d_MO_keepData_22 : decode prog_12_method_34_code 22 = .ok (.iconst 1, 1) := by decide +kernel
theorem d_MO_keepData_23 : decode prog_12_method_34_code 23 = .ok (.bastore, 1) := by decide +kernel
theorem d_MO_keepData_24 : decode prog_12_method_34_code 24 = .ok (.aload_n 0, 1) := by decide +kernel
theorem d_MO_keepData_25 : decode prog_12_method_34_code 25 = .ok (.getfield 87, 3) := by decide +kernel
theorem d_MO_keepData_28 : decode prog_12_method_34_code 28 = .ok (.iload_n 1, 1) := by decide +kernel
theorem d_MO_keepData_29 : decode prog_12_method_34_code 29 = .ok (.iload_n 3, 1) := by decide +kernel
theorem d_MO_keepData_30 : decode prog_12_method_34_code 30 = .ok (.iastore, 1) := by decide +kernel
theorem d_MO_keepData_31 : decode prog_12_method_34_code 31 = .ok (.aload_n 0, 1) := by decide +kernel
theorem d_MO_keepData_32 : decode prog_12_method_34_code 32 = .ok (.getfield 93, 3) := by decide +kernel
theorem d_MO_keepData_35 : decode prog_12_method_34_code 35 = .ok (.iload_n 3, 1) := by decide +kernel
theorem d_MO_keepData_36 : decode prog_12_method_34_code 36 = .ok (.aload_n 0, 1) := by decide +kernel
theorem d_MO_keepData_37 : decode prog_12_method_34_code 37 = .ok (.getfield 131, 3) := by decide +kernel
theorem d_MO_keepData_40 : decode prog_12_method_34_code 40 = .ok (.iload_n 2, 1) := by decide +kernel
theorem d_MO_keepData_41 : decode prog_12_method_34_code 41 = .ok (.isub, 1) := by decide +kernel
theorem d_MO_keepData_42 : decode prog_12_method_34_code 42 = .ok (.iastore, 1) := by decide +kernel
theorem d_MO_keepData_43 : decode prog_12_method_34_code 43 = .ok (.iload_n 2, 1) := by decide +kernel
theorem d_MO_keepData_44 : decode prog_12_method_34_code 44 = .ok (.istore 4, 2) := by decide +kernel
theorem d_MO_keepData_46 : decode prog_12_method_34_code 46 = .ok (.iload 4, 2) := by decide +kernel
theorem d_MO_keepData_48 : decode prog_12_method_34_code 48 = .ok (.aload_n 0, 1) := by decide +kernel
theorem d_MO_keepData_49 : decode prog_12_method_34_code 49 = .ok (.getfield 131, 3) := by decide +kernel
theorem d_MO_keepData_52 : decode prog_12_method_34_code 52 = .ok (.if_icmp .ge 31, 3) := by decide +kernel
theorem d_MO_keepData_55 : decode prog_12_method_34_code 55 = .ok (.aload_n 0, 1) := by decide +kernel
theorem d_MO_keepData_56 : decode prog_12_method_34_code 56 = .ok (.getfield 96, 3) := by decide +kernel
theorem d_MO_keepData_59 : decode prog_12_method_34_code 59 = .ok (.sipush 144, 3) := by decide +kernel
theorem d_MO_keepData_62 : decode prog_12_method_34_code 62 = .ok (.iload_n 3, 1) := by decide +kernel
theorem d_MO_keepData_63 : decode prog_12_method_34_code 63 = .ok (.imul, 1) := by decide +kernel
theorem d_MO_keepData_64 : decode prog_12_method_34_code 64 = .ok (.iload 4, 2) := by decide +kernel
theorem d_MO_keepData_66 : decode prog_12_method_34_code 66 = .ok (.iadd, 1) := by decide +kernel
theorem d_MO_keepData_67 : decode prog_12_method_34_code 67 = .ok (.iload_n 2, 1) := by decide +kernel
theorem d_MO_keepData_68 : decode prog_12_method_34_code 68 = .ok (.isub, 1) := by decide +kernel
theorem d_MO_keepData_69 : decode prog_12_method_34_code 69 = .ok (.aload_n 0, 1) := by decide +kernel
theorem d_MO_keepData_70 : decode prog_12_method_34_code 70 = .ok (.getfield 39, 3) := by decide +kernel
theorem d_MO_keepData_73 : decode prog_12_method_34_code 73 = .ok (.iload 4, 2) := by decide +kernel
theorem d_MO_keepData_75 : decode prog_12_method_34_code 75 = .ok (.iaload, 1) := by decide +kernel
theorem d_MO_keepData_76 : decode prog_12_method_34_code 76 = .ok (.iastore, 1) := by decide +kernel
theorem d_MO_keepData_77 : decode prog_12_method_34_code 77 = .ok (.iinc 4 1, 3) := by decide +kernel
theorem d_MO_keepData_80 : decode prog_12_method_34_code 80 = .ok (.goto (-34), 3) := by decide +kernel
theorem d_MO_keepData_83 : decode prog_12_method_34_code 83 = .ok (.return_, 1) := by decide +kernel
theorem d_MO_owner_0 : decode prog_12_method_35_code 0 = .ok (.iconst 0, 1) := by decide +kernel
theorem d_MO_owner_1 : decode prog_12_method_35_code 1 = .ok (.istore_n 3, 1) := by decide +kernel
theorem d_MO_owner_2 : decode prog_12_method_35_code 2 = .ok (.iload_n 3, 1) := by decide +kernel
theorem d_MO_owner_3 : decode prog_12_method_35_code 3 = .ok (.iconst 4, 1) := by decide +kernel
theorem d_MO_owner_4 : decode prog_12_method_35_code 4 = .ok (.if_icmp .ge 20, 3) := by decide +kernel
theorem d_MO_owner_7 : decode prog_12_method_35_code 7 = .ok (.aload_n 0, 1) := by decide +kernel
theorem d_MO_owner_8 : decode prog_12_method_35_code 8 = .ok (.getfield 16, 3) := by decide +kernel
theorem d_MO_owner_11 : decode prog_12_method_35_code 11 = .ok (.iload_n 3, 1) := by decide +kernel
theorem d_MO_owner_12 : decode prog_12_method_35_code 12 = .ok (.laload, 1) := by decide +kernel
theorem d_MO_owner_13 : decode prog_12_method_35_code 13 = .ok (.lload_n 1, 1) := by decide +kernel
theorem d_MO_owner_14 : decode prog_12_method_35_code 14 = .ok (.lcmp, 1) := by decide +kernel
theorem d_MO_owner_15 : decode prog_12_method_35_code 15 = .ok (.ifCond .eq 9, 3) := by decide +kernel
theorem d_MO_owner_18 : decode prog_12_method_35_code 18 = .ok (.iinc 3 1, 3) := by decide +kernel
theorem d_MO_owner_21 : decode prog_12_method_35_code 21 = .ok (.goto (-19), 3) := by decide +kernel
theorem d_MO_owner_24 : decode prog_12_method_35_code 24 = .ok (.iload_n 3, 1) := by decide +kernel
theorem d_MO_owner_25 : decode prog_12_method_35_code 25 = .ok (.ireturn, 1) := by decide +kernel
theorem d_MO_moment_0 : decode prog_12_method_36_code 0 = .ok (.aload_n 0, 1) := by decide +kernel
theorem d_MO_moment_1 : decode prog_12_method_36_code 1 = .ok (.getfield 78, 3) := by decide +kernel
theorem d_MO_moment_4 : decode prog_12_method_36_code 4 = .ok (.iload_n 1, 1) := by decide +kernel
theorem d_MO_moment_5 : decode prog_12_method_36_code 5 = .ok (.iaload, 1) := by decide +kernel
theorem d_MO_moment_6 : decode prog_12_method_36_code 6 = .ok (.aload_n 0, 1) := by decide +kernel
theorem d_MO_moment_7 : decode prog_12_method_36_code 7 = .ok (.getfield 75, 3) := by decide +kernel
theorem d_MO_moment_10 : decode prog_12_method_36_code 10 = .ok (.iload_n 1, 1) := by decide +kernel
theorem d_MO_moment_11 : decode prog_12_method_36_code 11 = .ok (.iaload, 1) := by decide +kernel
theorem d_MO_moment_12 : decode prog_12_method_36_code 12 = .ok (.if_icmp .ge 12, 3) := by decide +kernel
theorem d_MO_moment_15 : decode prog_12_method_36_code 15 = .ok (.aload_n 0, 1) := by decide +kernel
theorem d_MO_moment_16 : decode prog_12_method_36_code 16 = .ok (.getfield 78, 3) := by decide +kernel
theorem d_MO_moment_19 : decode prog_12_method_36_code 19 = .ok (.iload_n 1, 1) := by decide +kernel
theorem d_MO_moment_20 : decode prog_12_method_36_code 20 = .ok (.iaload, 1) := by decide +kernel
theorem d_MO_moment_21 : decode prog_12_method_36_code 21 = .ok (.goto 9, 3) := by decide +kernel
theorem d_MO_moment_24 : decode prog_12_method_36_code 24 = .ok (.aload_n 0, 1) := by decide +kernel
theorem d_MO_moment_25 : decode prog_12_method_36_code 25 = .ok (.getfield 75, 3) := by decide +kernel
theorem d_MO_moment_28 : decode prog_12_method_36_code 28 = .ok (.iload_n 1, 1) := by decide +kernel
theorem d_MO_moment_29 : decode prog_12_method_36_code 29 = .ok (.iaload, 1) := by decide +kernel
theorem d_MO_moment_30 : decode prog_12_method_36_code 30 = .ok (.ireturn, 1) := by decide +kernel
theorem d_MO_earliest_0 : decode prog_12_method_37_code 0 = .ok (.iconst (-1), 1) := by decide +kernel
theorem d_MO_earliest_1 : decode prog_12_method_37_code 1 = .ok (.istore_n 1, 1) := by decide +kernel
theorem d_MO_earliest_2 : decode prog_12_method_37_code 2 = .ok (.iconst 0, 1) := by decide +kernel
theorem d_MO_earliest_3 : decode prog_12_method_37_code 3 = .ok (.istore_n 2, 1) := by decide +kernel
theorem d_MO_earliest_4 : decode prog_12_method_37_code 4 = .ok (.iload_n 2, 1) := by decide +kernel
theorem d_MO_earliest_5 : decode prog_12_method_37_code 5 = .ok (.aload_n 0, 1) := by decide +kernel
theorem d_MO_earliest_6 : decode prog_12_method_37_code 6 = .ok (.getfield 214, 3) := by decide +kernel
theorem d_MO_earliest_9 : decode prog_12_method_37_code 9 = .ok (.if_icmp .ge 41, 3) := by decide +kernel
theorem d_MO_earliest_12 : decode prog_12_method_37_code 12 = .ok (.aload_n 0, 1) := by decide +kernel
theorem d_MO_earliest_13 : decode prog_12_method_37_code 13 = .ok (.getfield 84, 3) := by decide +kernel
theorem d_MO_earliest_16 : decode prog_12_method_37_code 16 = .ok (.iload_n 2, 1) := by decide +kernel
theorem d_MO_earliest_17 : decode prog_12_method_37_code 17 = .ok (.iaload, 1) := by decide +kernel
theorem d_MO_earliest_18 : decode prog_12_method_37_code 18 = .ok (.ifCond .ne 24, 3) := by decide +kernel
theorem d_MO_earliest_21 : decode prog_12_method_37_code 21 = .ok (.iload_n 1, 1) := by decide +kernel
theorem d_MO_earliest_22 : decode prog_12_method_37_code 22 = .ok (.ifCond .lt 16, 3) := by decide +kernel
theorem d_MO_earliest_25 : decode prog_12_method_37_code 25 = .ok (.aload_n 0, 1) := by decide +kernel
theorem d_MO_earliest_26 : decode prog_12_method_37_code 26 = .ok (.iload_n 2, 1) := by decide +kernel
theorem d_MO_earliest_27 : decode prog_12_method_37_code 27 = .ok (.invokevirtual 232, 3) := by decide +kernel
theorem d_MO_earliest_30 : decode prog_12_method_37_code 30 = .ok (.aload_n 0, 1) := by decide +kernel
theorem d_MO_earliest_31 : decode prog_12_method_37_code 31 = .ok (.iload_n 1, 1) := by decide +kernel
theorem d_MO_earliest_32 : decode prog_12_method_37_code 32 = .ok (.invokevirtual 232, 3) := by decide +kernel
theorem d_MO_earliest_35 : decode prog_12_method_37_code 35 = .ok (.if_icmp .ge 7, 3) := by decide +kernel
theorem d_MO_earliest_38 : decode prog_12_method_37_code 38 = .ok (.iload_n 2, 1) := by decide +kernel
theorem d_MO_earliest_39 : decode prog_12_method_37_code 39 = .ok (.goto 4, 3) := by decide +kernel
theorem d_MO_earliest_42 : decode prog_12_method_37_code 42 = .ok (.iload_n 1, 1) := by decide +kernel
theorem d_MO_earliest_43 : decode prog_12_method_37_code 43 = .ok (.istore_n 1, 1) := by decide +kernel
theorem d_MO_earliest_44 : decode prog_12_method_37_code 44 = .ok (.iinc 2 1, 3) := by decide +kernel
theorem d_MO_earliest_47 : decode prog_12_method_37_code 47 = .ok (.goto (-43), 3) := by decide +kernel
theorem d_MO_earliest_50 : decode prog_12_method_37_code 50 = .ok (.iload_n 1, 1) := by decide +kernel
theorem d_MO_earliest_51 : decode prog_12_method_37_code 51 = .ok (.ireturn, 1) := by decide +kernel
theorem d_MO_settle_0 : decode prog_12_method_38_code 0 = .ok (.aload_n 0, 1) := by decide +kernel
theorem d_MO_settle_1 : decode prog_12_method_38_code 1 = .ok (.getfield 84, 3) := by decide +kernel
theorem d_MO_settle_4 : decode prog_12_method_38_code 4 = .ok (.iload_n 1, 1) := by decide +kernel
theorem d_MO_settle_5 : decode prog_12_method_38_code 5 = .ok (.iload_n 2, 1) := by decide +kernel
theorem d_MO_settle_6 : decode prog_12_method_38_code 6 = .ok (.iastore, 1) := by decide +kernel
theorem d_MO_settle_7 : decode prog_12_method_38_code 7 = .ok (.aload_n 0, 1) := by decide +kernel
theorem d_MO_settle_8 : decode prog_12_method_38_code 8 = .ok (.dup, 1) := by decide +kernel
theorem d_MO_settle_9 : decode prog_12_method_38_code 9 = .ok (.getfield 211, 3) := by decide +kernel
theorem d_MO_settle_12 : decode prog_12_method_38_code 12 = .ok (.iconst 1, 1) := by decide +kernel
theorem d_MO_settle_13 : decode prog_12_method_38_code 13 = .ok (.isub, 1) := by decide +kernel
theorem d_MO_settle_14 : decode prog_12_method_38_code 14 = .ok (.putfield 211, 3) := by decide +kernel
theorem d_MO_settle_17 : decode prog_12_method_38_code 17 = .ok (.aload_n 0, 1) := by decide +kernel
theorem d_MO_settle_18 : decode prog_12_method_38_code 18 = .ok (.getfield 90, 3) := by decide +kernel
theorem d_MO_settle_21 : decode prog_12_method_38_code 21 = .ok (.aload_n 0, 1) := by decide +kernel
theorem d_MO_settle_22 : decode prog_12_method_38_code 22 = .ok (.getfield 87, 3) := by decide +kernel
theorem d_MO_settle_25 : decode prog_12_method_38_code 25 = .ok (.iload_n 1, 1) := by decide +kernel
theorem d_MO_settle_26 : decode prog_12_method_38_code 26 = .ok (.iaload, 1) := by decide +kernel
theorem d_MO_settle_27 : decode prog_12_method_38_code 27 = .ok (.iconst 0, 1) := by decide +kernel
theorem d_MO_settle_28 : decode prog_12_method_38_code 28 = .ok (.bastore, 1) := by decide +kernel
theorem d_MO_settle_29 : decode prog_12_method_38_code 29 = .ok (.iconst 5, 1) := by decide +kernel
theorem d_MO_settle_30 : decode prog_12_method_38_code 30 = .ok (.aload_n 0, 1) := by decide +kernel
theorem d_MO_settle_31 : decode prog_12_method_38_code 31 = .ok (.getfield 54, 3) := by decide +kernel
theorem d_MO_settle_34 : decode prog_12_method_38_code 34 = .ok (.iload_n 1, 1) := by decide +kernel
theorem d_MO_settle_35 : decode prog_12_method_38_code 35 = .ok (.iaload, 1) := by decide +kernel
theorem d_MO_settle_36 : decode prog_12_method_38_code 36 = .ok (.iadd, 1) := by decide +kernel
theorem d_MO_settle_37 : decode prog_12_method_38_code 37 = .ok (.istore 4, 2) := by decide +kernel
theorem d_MO_settle_39 : decode prog_12_method_38_code 39 = .ok (.aload_n 0, 1) := by decide +kernel
theorem d_MO_settle_40 : decode prog_12_method_38_code 40 = .ok (.getfield 66, 3) := by decide +kernel
theorem d_MO_settle_43 : decode prog_12_method_38_code 43 = .ok (.iload_n 1, 1) := by decide +kernel
theorem d_MO_settle_44 : decode prog_12_method_38_code 44 = .ok (.baload, 1) := by decide +kernel
theorem d_MO_settle_45 : decode prog_12_method_38_code 45 = .ok (.ifCond .eq 15, 3) := by decide +kernel
theorem d_MO_settle_48 : decode prog_12_method_38_code 48 = .ok (.aload_n 0, 1) := by decide +kernel
theorem d_MO_settle_49 : decode prog_12_method_38_code 49 = .ok (.getfield 51, 3) := by decide +kernel
theorem d_MO_settle_52 : decode prog_12_method_38_code 52 = .ok (.iload 4, 2) := by decide +kernel
theorem d_MO_settle_54 : decode prog_12_method_38_code 54 = .ok (.iaload, 1) := by decide +kernel
theorem d_MO_settle_55 : decode prog_12_method_38_code 55 = .ok (.bipush 6, 2) := by decide +kernel
theorem d_MO_settle_57 : decode prog_12_method_38_code 57 = .ok (.if_icmp .ne 4, 3) := by decide +kernel
theorem d_MO_settle_60 : decode prog_12_method_38_code 60 = .ok (.return_, 1) := by decide +kernel
theorem d_MO_settle_61 : decode prog_12_method_38_code 61 = .ok (.aload_n 0, 1) := by decide +kernel
theorem d_MO_settle_62 : decode prog_12_method_38_code 62 = .ok (.iconst 0, 1) := by decide +kernel
theorem d_MO_settle_63 : decode prog_12_method_38_code 63 = .ok (.putfield 131, 3) := by decide +kernel
theorem d_MO_settle_66 : decode prog_12_method_38_code 66 = .ok (.aload_n 0, 1) := by decide +kernel
theorem d_MO_settle_67 : decode prog_12_method_38_code 67 = .ok (.iconst 2, 1) := by decide +kernel
theorem d_MO_settle_68 : decode prog_12_method_38_code 68 = .ok (.invokevirtual 140, 3) := by decide +kernel
theorem d_MO_settle_71 : decode prog_12_method_38_code 71 = .ok (.aload_n 0, 1) := by decide +kernel
theorem d_MO_settle_72 : decode prog_12_method_38_code 72 = .ok (.aload_n 0, 1) := by decide +kernel
theorem d_MO_settle_73 : decode prog_12_method_38_code 73 = .ok (.getfield 57, 3) := by decide +kernel
theorem d_MO_settle_76 : decode prog_12_method_38_code 76 = .ok (.iload_n 1, 1) := by decide +kernel
theorem d_MO_settle_77 : decode prog_12_method_38_code 77 = .ok (.iaload, 1) := by decide +kernel
theorem d_MO_settle_78 : decode prog_12_method_38_code 78 = .ok (.invokevirtual 140, 3) := by decide +kernel
theorem d_MO_settle_81 : decode prog_12_method_38_code 81 = .ok (.aload_n 0, 1) := by decide +kernel
theorem d_MO_settle_82 : decode prog_12_method_38_code 82 = .ok (.aload_n 0, 1) := by decide +kernel
theorem d_MO_settle_83 : decode prog_12_method_38_code 83 = .ok (.getfield 63, 3) := by decide +kernel
theorem d_MO_settle_86 : decode prog_12_method_38_code 86 = .ok (.iload_n 1, 1) := by decide +kernel
theorem d_MO_settle_87 : decode prog_12_method_38_code 87 = .ok (.laload, 1) := by decide +kernel
theorem d_MO_settle_88 : decode prog_12_method_38_code 88 = .ok (.invokevirtual 151, 3) := by decide +kernel
theorem d_MO_settle_91 : decode prog_12_method_38_code 91 = .ok (.aload_n 0, 1) := by decide +kernel
theorem d_MO_settle_92 : decode prog_12_method_38_code 92 = .ok (.aload_n 0, 1) := by decide +kernel
theorem d_MO_settle_93 : decode prog_12_method_38_code 93 = .ok (.getfield 72, 3) := by decide +kernel
theorem d_MO_settle_96 : decode prog_12_method_38_code 96 = .ok (.iload_n 1, 1) := by decide +kernel
theorem d_MO_settle_97 : decode prog_12_method_38_code 97 = .ok (.iaload, 1) := by decide +kernel
theorem d_MO_settle_98 : decode prog_12_method_38_code 98 = .ok (.i2l, 1) := by decide +kernel
theorem d_MO_settle_99 : decode prog_12_method_38_code 99 = .ok (.bipush 14, 2) := by decide +kernel
theorem d_MO_settle_101 : decode prog_12_method_38_code 101 = .ok (.invokevirtual 144, 3) := by decide +kernel
theorem d_MO_settle_104 : decode prog_12_method_38_code 104 = .ok (.aload_n 0, 1) := by decide +kernel
theorem d_MO_settle_105 : decode prog_12_method_38_code 105 = .ok (.iload_n 3, 1) := by decide +kernel
theorem d_MO_settle_106 : decode prog_12_method_38_code 106 = .ok (.i2l, 1) := by decide +kernel
theorem d_MO_settle_107 : decode prog_12_method_38_code 107 = .ok (.bipush 14, 2) := by decide +kernel
theorem d_MO_settle_109 : decode prog_12_method_38_code 109 = .ok (.invokevirtual 144, 3) := by decide +kernel
theorem d_MO_settle_112 : decode prog_12_method_38_code 112 = .ok (.aload_n 0, 1) := by decide +kernel
theorem d_MO_settle_113 : decode prog_12_method_38_code 113 = .ok (.iload_n 2, 1) := by decide +kernel
theorem d_MO_settle_114 : decode prog_12_method_38_code 114 = .ok (.iconst 1, 1) := by decide +kernel
theorem d_MO_settle_115 : decode prog_12_method_38_code 115 = .ok (.if_icmp .ne 7, 3) := by decide +kernel
theorem d_MO_settle_118 : decode prog_12_method_38_code 118 = .ok (.iconst 0, 1) := by decide +kernel
theorem d_MO_settle_119 : decode prog_12_method_38_code 119 = .ok (.goto 15, 3) := by decide +kernel
theorem d_MO_settle_122 : decode prog_12_method_38_code 122 = .ok (.iload_n 2, 1) := by decide +kernel
theorem d_MO_settle_123 : decode prog_12_method_38_code 123 = .ok (.iconst 2, 1) := by decide +kernel
theorem d_MO_settle_124 : decode prog_12_method_38_code 124 = .ok (.if_icmp .ne 8, 3) := by decide +kernel
theorem d_MO_settle_127 : decode prog_12_method_38_code 127 = .ok (.bipush 70, 2) := by decide +kernel
theorem d_MO_settle_129 : decode prog_12_method_38_code 129 = .ok (.goto 5, 3) := by decide +kernel
theorem d_MO_settle_132 : decode prog_12_method_38_code 132 = .ok (.bipush 73, 2) := by decide +kernel
theorem d_MO_settle_134 : decode prog_12_method_38_code 134 = .ok (.invokevirtual 140, 3) := by decide +kernel
theorem d_MO_settle_137 : decode prog_12_method_38_code 137 = .ok (.aload_n 0, 1) := by decide +kernel
theorem d_MO_settle_138 : decode prog_12_method_38_code 138 = .ok (.iload 4, 2) := by decide +kernel
theorem d_MO_settle_140 : decode prog_12_method_38_code 140 = .ok (.iconst 0, 1) := by decide +kernel
theorem d_MO_settle_141 : decode prog_12_method_38_code 141 = .ok (.invokevirtual 208, 3) := by decide +kernel
theorem d_MO_settle_144 : decode prog_12_method_38_code 144 = .ok (.return_, 1) := by decide +kernel
theorem d_MO_deliver_0 : decode prog_12_method_39_code 0 = .ok (.aload_n 0, 1) := by decide +kernel
theorem d_MO_deliver_1 : decode prog_12_method_39_code 1 = .ok (.iconst 0, 1) := by decide +kernel
theorem d_MO_deliver_2 : decode prog_12_method_39_code 2 = .ok (.putfield 131, 3) := by decide +kernel
theorem d_MO_deliver_5 : decode prog_12_method_39_code 5 = .ok (.aload_n 0, 1) := by decide +kernel
theorem d_MO_deliver_6 : decode prog_12_method_39_code 6 = .ok (.aload_n 0, 1) := by decide +kernel
theorem d_MO_deliver_7 : decode prog_12_method_39_code 7 = .ok (.getfield 69, 3) := by decide +kernel
theorem d_MO_deliver_10 : decode prog_12_method_39_code 10 = .ok (.iload_n 1, 1) := by decide +kernel
theorem d_MO_deliver_11 : decode prog_12_method_39_code 11 = .ok (.baload, 1) := by decide +kernel
theorem d_MO_deliver_12 : decode prog_12_method_39_code 12 = .ok (.ifCond .eq 8, 3) := by decide +kernel
theorem d_MO_deliver_15 : decode prog_12_method_39_code 15 = .ok (.bipush 68, 2) := by decide +kernel
theorem d_MO_deliver_17 : decode prog_12_method_39_code 17 = .ok (.goto 4, 3) := by decide +kernel
theorem d_MO_deliver_20 : decode prog_12_method_39_code 20 = .ok (.iconst 4, 1) := by decide +kernel
theorem d_MO_deliver_21 : decode prog_12_method_39_code 21 = .ok (.invokevirtual 140, 3) := by decide +kernel
theorem d_MO_deliver_24 : decode prog_12_method_39_code 24 = .ok (.aload_n 0, 1) := by decide +kernel
theorem d_MO_deliver_25 : decode prog_12_method_39_code 25 = .ok (.aload_n 0, 1) := by decide +kernel
theorem d_MO_deliver_26 : decode prog_12_method_39_code 26 = .ok (.getfield 60, 3) := by decide +kernel
theorem d_MO_deliver_29 : decode prog_12_method_39_code 29 = .ok (.iload_n 1, 1) := by decide +kernel
theorem d_MO_deliver_30 : decode prog_12_method_39_code 30 = .ok (.laload, 1) := by decide +kernel
theorem d_MO_deliver_31 : decode prog_12_method_39_code 31 = .ok (.invokevirtual 151, 3) := by decide +kernel
theorem d_MO_deliver_34 : decode prog_12_method_39_code 34 = .ok (.aload_n 0, 1) := by decide +kernel
theorem d_MO_deliver_35 : decode prog_12_method_39_code 35 = .ok (.iconst 0, 1) := by decide +kernel
theorem d_MO_deliver_36 : decode prog_12_method_39_code 36 = .ok (.invokevirtual 140, 3) := by decide +kernel
theorem d_MO_deliver_39 : decode prog_12_method_39_code 39 = .ok (.aload_n 0, 1) := by decide +kernel
theorem d_MO_deliver_40 : decode prog_12_method_39_code 40 = .ok (.iconst 0, 1) := by decide +kernel
theorem d_MO_deliver_41 : decode prog_12_method_39_code 41 = .ok (.invokevirtual 140, 3) := by decide +kernel
theorem d_MO_deliver_44 : decode prog_12_method_39_code 44 = .ok (.aload_n 0, 1) := by decide +kernel
theorem d_MO_deliver_45 : decode prog_12_method_39_code 45 = .ok (.aload_n 0, 1) := by decide +kernel
theorem d_MO_deliver_46 : decode prog_12_method_39_code 46 = .ok (.getfield 72, 3) := by decide +kernel
theorem d_MO_deliver_49 : decode prog_12_method_39_code 49 = .ok (.iload_n 1, 1) := by decide +kernel
theorem d_MO_deliver_50 : decode prog_12_method_39_code 50 = .ok (.iaload, 1) := by decide +kernel
theorem d_MO_deliver_51 : decode prog_12_method_39_code 51 = .ok (.i2l, 1) := by decide +kernel
theorem d_MO_deliver_52 : decode prog_12_method_39_code 52 = .ok (.bipush 14, 2) := by decide +kernel
theorem d_MO_deliver_54 : decode prog_12_method_39_code 54 = .ok (.invokevirtual 144, 3) := by decide +kernel
theorem d_MO_deliver_57 : decode prog_12_method_39_code 57 = .ok (.iconst 0, 1) := by decide +kernel
theorem d_MO_deliver_58 : decode prog_12_method_39_code 58 = .ok (.istore_n 3, 1) := by decide +kernel
theorem d_MO_deliver_59 : decode prog_12_method_39_code 59 = .ok (.iload_n 3, 1) := by decide +kernel
theorem d_MO_deliver_60 : decode prog_12_method_39_code 60 = .ok (.aload_n 0, 1) := by decide +kernel
theorem d_MO_deliver_61 : decode prog_12_method_39_code 61 = .ok (.getfield 93, 3) := by decide +kernel
theorem d_MO_deliver_64 : decode prog_12_method_39_code 64 = .ok (.aload_n 0, 1) := by decide +kernel
theorem d_MO_deliver_65 : decode prog_12_method_39_code 65 = .ok (.getfield 87, 3) := by decide +kernel
theorem d_MO_deliver_68 : decode prog_12_method_39_code 68 = .ok (.iload_n 1, 1) := by decide +kernel
theorem d_MO_deliver_69 : decode prog_12_method_39_code 69 = .ok (.iaload, 1) := by decide +kernel
theorem d_MO_deliver_70 : decode prog_12_method_39_code 70 = .ok (.iaload, 1) := by decide +kernel
theorem d_MO_deliver_71 : decode prog_12_method_39_code 71 = .ok (.if_icmp .ge 30, 3) := by decide +kernel
theorem d_MO_deliver_74 : decode prog_12_method_39_code 74 = .ok (.aload_n 0, 1) := by decide +kernel
theorem d_MO_deliver_75 : decode prog_12_method_39_code 75 = .ok (.aload_n 0, 1) := by decide +kernel
theorem d_MO_deliver_76 : decode prog_12_method_39_code 76 = .ok (.getfield 96, 3) := by decide +kernel
theorem d_MO_deliver_79 : decode prog_12_method_39_code 79 = .ok (.sipush 144, 3) := by decide +kernel
theorem d_MO_deliver_82 : decode prog_12_method_39_code 82 = .ok (.aload_n 0, 1) := by decide +kernel
theorem d_MO_deliver_83 : decode prog_12_method_39_code 83 = .ok (.getfield 87, 3) := by decide +kernel
theorem d_MO_deliver_86 : decode prog_12_method_39_code 86 = .ok (.iload_n 1, 1) := by decide +kernel
theorem d_MO_deliver_87 : decode prog_12_method_39_code 87 = .ok (.iaload, 1) := by decide +kernel
theorem d_MO_deliver_88 : decode prog_12_method_39_code 88 = .ok (.imul, 1) := by decide +kernel
theorem d_MO_deliver_89 : decode prog_12_method_39_code 89 = .ok (.iload_n 3, 1) := by decide +kernel
theorem d_MO_deliver_90 : decode prog_12_method_39_code 90 = .ok (.iadd, 1) := by decide +kernel
theorem d_MO_deliver_91 : decode prog_12_method_39_code 91 = .ok (.iaload, 1) := by decide +kernel
theorem d_MO_deliver_92 : decode prog_12_method_39_code 92 = .ok (.invokevirtual 140, 3) := by decide +kernel
theorem d_MO_deliver_95 : decode prog_12_method_39_code 95 = .ok (.iinc 3 1, 3) := by decide +kernel
theorem d_MO_deliver_98 : decode prog_12_method_39_code 98 = .ok (.goto (-39), 3) := by decide +kernel
theorem d_MO_deliver_101 : decode prog_12_method_39_code 101 = .ok (.aload_n 0, 1) := by decide +kernel
theorem d_MO_deliver_102 : decode prog_12_method_39_code 102 = .ok (.iconst 1, 1) := by decide +kernel
theorem d_MO_deliver_103 : decode prog_12_method_39_code 103 = .ok (.iload_n 2, 1) := by decide +kernel
theorem d_MO_deliver_104 : decode prog_12_method_39_code 104 = .ok (.iadd, 1) := by decide +kernel
theorem d_MO_deliver_105 : decode prog_12_method_39_code 105 = .ok (.iconst 0, 1) := by decide +kernel
theorem d_MO_deliver_106 : decode prog_12_method_39_code 106 = .ok (.invokevirtual 208, 3) := by decide +kernel
theorem d_MO_deliver_109 : decode prog_12_method_39_code 109 = .ok (.return_, 1) := by decide +kernel