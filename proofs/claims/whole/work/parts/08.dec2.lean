theorem d_SC_dealWith_0 : decode prog_1_method_26_code 0 = .ok (.iload_n 2, 1) := by decide +kernel
theorem d_SC_dealWith_1 : decode prog_1_method_26_code 1 = .ok (.aload_n 1, 1) := by decide +kernel
theorem d_SC_dealWith_2 : decode prog_1_method_26_code 2 = .ok (.getfield 242, 3) := by decide +kernel
theorem d_SC_dealWith_5 : decode prog_1_method_26_code 5 = .ok (.if_icmp .ne 11, 3) := by decide +kernel
theorem d_SC_dealWith_8 : decode prog_1_method_26_code 8 = .ok (.aload_n 1, 1) := by decide +kernel
theorem d_SC_dealWith_9 : decode prog_1_method_26_code 9 = .ok (.getstatic 245, 3) := by decide +kernel
theorem d_SC_dealWith_12 : decode prog_1_method_26_code 12 = .ok (.putfield 145, 3) := by decide +kernel
theorem d_SC_dealWith_15 : decode prog_1_method_26_code 15 = .ok (.return_, 1) := by decide +kernel
theorem d_SC_dealWith_16 : decode prog_1_method_26_code 16 = .ok (.aload_n 1, 1) := by decide +kernel
theorem d_SC_dealWith_17 : decode prog_1_method_26_code 17 = .ok (.dup, 1) := by decide +kernel
theorem d_SC_dealWith_18 : decode prog_1_method_26_code 18 = .ok (.getfield 199, 3) := by decide +kernel
theorem d_SC_dealWith_21 : decode prog_1_method_26_code 21 = .ok (.iconst 1, 1) := by decide +kernel
theorem d_SC_dealWith_22 : decode prog_1_method_26_code 22 = .ok (.iadd, 1) := by decide +kernel
theorem d_SC_dealWith_23 : decode prog_1_method_26_code 23 = .ok (.putfield 199, 3) := by decide +kernel
theorem d_SC_dealWith_26 : decode prog_1_method_26_code 26 = .ok (.aload_n 0, 1) := by decide +kernel
theorem d_SC_dealWith_27 : decode prog_1_method_26_code 27 = .ok (.aload_n 1, 1) := by decide +kernel
theorem d_SC_dealWith_28 : decode prog_1_method_26_code 28 = .ok (.getfield 248, 3) := by decide +kernel
theorem d_SC_dealWith_31 : decode prog_1_method_26_code 31 = .ok (.invokevirtual 251, 3) := by decide +kernel
theorem d_SC_dealWith_34 : decode prog_1_method_26_code 34 = .ok (.astore_n 3, 1) := by decide +kernel
theorem d_SC_dealWith_35 : decode prog_1_method_26_code 35 = .ok (.aload_n 3, 1) := by decide +kernel
theorem d_SC_dealWith_36 : decode prog_1_method_26_code 36 = .ok (.ifnonnull 13, 3) := by decide +kernel
theorem d_SC_dealWith_39 : decode prog_1_method_26_code 39 = .ok (.aload_n 1, 1) := by decide +kernel
theorem d_SC_dealWith_40 : decode prog_1_method_26_code 40 = .ok (.getstatic 255, 3) := by decide +kernel
theorem d_SC_dealWith_43 : decode prog_1_method_26_code 43 = .ok (.putfield 145, 3) := by decide +kernel
theorem d_SC_dealWith_46 : decode prog_1_method_26_code 46 = .ok (.goto 46, 3) := by decide +kernel
theorem d_SC_dealWith_49 : decode prog_1_method_26_code 49 = .ok (.aload_n 3, 1) := by decide +kernel
theorem d_SC_dealWith_50 : decode prog_1_method_26_code 50 = .ok (.getfield 54, 3) := by decide +kernel
theorem d_SC_dealWith_53 : decode prog_1_method_26_code 53 = .ok (.ifCond .eq 34, 3) := by decide +kernel
theorem d_SC_dealWith_56 : decode prog_1_method_26_code 56 = .ok (.aload_n 3, 1) := by decide +kernel
theorem d_SC_dealWith_57 : decode prog_1_method_26_code 57 = .ok (.getfield 160, 3) := by decide +kernel
theorem d_SC_dealWith_60 : decode prog_1_method_26_code 60 = .ok (.invokevirtual 83, 3) := by decide +kernel
theorem d_SC_dealWith_63 : decode prog_1_method_26_code 63 = .ok (.ifCond .le 24, 3) := by decide +kernel
theorem d_SC_dealWith_66 : decode prog_1_method_26_code 66 = .ok (.aload_n 3, 1) := by decide +kernel
theorem d_SC_dealWith_67 : decode prog_1_method_26_code 67 = .ok (.getfield 160, 3) := by decide +kernel
theorem d_SC_dealWith_70 : decode prog_1_method_26_code 70 = .ok (.aload_n 1, 1) := by decide +kernel
theorem d_SC_dealWith_71 : decode prog_1_method_26_code 71 = .ok (.invokevirtual 258, 3) := by decide +kernel
theorem d_SC_dealWith_74 : decode prog_1_method_26_code 74 = .ok (.invokevirtual 167, 3) := by decide +kernel
theorem d_SC_dealWith_77 : decode prog_1_method_26_code 77 = .ok (.aload_n 1, 1) := by decide +kernel
theorem d_SC_dealWith_78 : decode prog_1_method_26_code 78 = .ok (.getstatic 261, 3) := by decide +kernel
theorem d_SC_dealWith_81 : decode prog_1_method_26_code 81 = .ok (.putfield 145, 3) := by decide +kernel
theorem d_SC_dealWith_84 : decode prog_1_method_26_code 84 = .ok (.goto 8, 3) := by decide +kernel
theorem d_SC_dealWith_87 : decode prog_1_method_26_code 87 = .ok (.aload_n 1, 1) := by decide +kernel
theorem d_SC_dealWith_88 : decode prog_1_method_26_code 88 = .ok (.iload_n 2, 1) := by decide +kernel
theorem d_SC_dealWith_89 : decode prog_1_method_26_code 89 = .ok (.invokevirtual 264, 3) := by decide +kernel
theorem d_SC_dealWith_92 : decode prog_1_method_26_code 92 = .ok (.return_, 1) := by decide +kernel
theorem d_SC_holderOf_0 : decode prog_1_method_27_code 0 = .ok (.iconst 0, 1) := by decide +kernel
theorem d_SC_holderOf_1 : decode prog_1_method_27_code 1 = .ok (.istore_n 3, 1) := by decide +kernel
theorem d_SC_holderOf_2 : decode prog_1_method_27_code 2 = .ok (.iload_n 3, 1) := by decide +kernel
theorem d_SC_holderOf_3 : decode prog_1_method_27_code 3 = .ok (.iconst 4, 1) := by decide +kernel
theorem d_SC_holderOf_4 : decode prog_1_method_27_code 4 = .ok (.if_icmp .ge 30, 3) := by decide +kernel
theorem d_SC_holderOf_7 : decode prog_1_method_27_code 7 = .ok (.aload_n 0, 1) := by decide +kernel
theorem d_SC_holderOf_8 : decode prog_1_method_27_code 8 = .ok (.getfield 11, 3) := by decide +kernel
theorem d_SC_holderOf_11 : decode prog_1_method_27_code 11 = .ok (.iload_n 3, 1) := by decide +kernel
theorem d_SC_holderOf_12 : decode prog_1_method_27_code 12 = .ok (.aaload, 1) := by decide +kernel
theorem d_SC_holderOf_13 : decode prog_1_method_27_code 13 = .ok (.getfield 50, 3) := by decide +kernel
theorem d_SC_holderOf_16 : decode prog_1_method_27_code 16 = .ok (.lload_n 1, 1) := by decide +kernel
theorem d_SC_holderOf_17 : decode prog_1_method_27_code 17 = .ok (.lcmp, 1) := by decide +kernel
theorem d_SC_holderOf_18 : decode prog_1_method_27_code 18 = .ok (.ifCond .ne 10, 3) := by decide +kernel
theorem d_SC_holderOf_21 : decode prog_1_method_27_code 21 = .ok (.aload_n 0, 1) := by decide +kernel
theorem d_SC_holderOf_22 : decode prog_1_method_27_code 22 = .ok (.getfield 11, 3) := by decide +kernel
theorem d_SC_holderOf_25 : decode prog_1_method_27_code 25 = .ok (.iload_n 3, 1) := by decide +kernel
theorem d_SC_holderOf_26 : decode prog_1_method_27_code 26 = .ok (.aaload, 1) := by decide +kernel
theorem d_SC_holderOf_27 : decode prog_1_method_27_code 27 = .ok (.areturn, 1) := by decide +kernel
theorem d_SC_holderOf_28 : decode prog_1_method_27_code 28 = .ok (.iinc 3 1, 3) := by decide +kernel
theorem d_SC_holderOf_31 : decode prog_1_method_27_code 31 = .ok (.goto (-29), 3) := by decide +kernel
theorem d_SC_holderOf_34 : decode prog_1_method_27_code 34 = .ok (.aconst_null, 1) := by decide +kernel
theorem d_SC_holderOf_35 : decode prog_1_method_27_code 35 = .ok (.areturn, 1) := by decide +kernel
theorem d_MO_init_0 : decode prog_12_method_1_code 0 = .ok (.aload_n 0, 1) := by decide +kernel
theorem d_MO_init_1 : decode prog_12_method_1_code 1 = .ok (.invokespecial 1, 3) := by decide +kernel
theorem d_MO_init_4 : decode prog_12_method_1_code 4 = .ok (.aload_n 0, 1) := by decide +kernel
theorem d_MO_init_5 : decode prog_12_method_1_code 5 = .ok (.sipush 480, 3) := by decide +kernel
theorem d_MO_init_8 : decode prog_12_method_1_code 8 = .ok (.newarray .int, 2) := by decide +kernel
theorem d_MO_init_10 : decode prog_12_method_1_code 10 = .ok (.putfield 7, 3) := by decide +kernel
theorem d_MO_init_13 : decode prog_12_method_1_code 13 = .ok (.aload_n 0, 1) := by decide +kernel
theorem d_MO_init_14 : decode prog_12_method_1_code 14 = .ok (.sipush 960, 3) := by decide +kernel
theorem d_MO_init_17 : decode prog_12_method_1_code 17 = .ok (.newarray .int, 2) := by decide +kernel
theorem d_MO_init_19 : decode prog_12_method_1_code 19 = .ok (.putfield 13, 3) := by decide +kernel
theorem d_MO_init_22 : decode prog_12_method_1_code 22 = .ok (.aload_n 0, 1) := by decide +kernel
theorem d_MO_init_23 : decode prog_12_method_1_code 23 = .ok (.iconst 4, 1) := by decide +kernel
theorem d_MO_init_24 : decode prog_12_method_1_code 24 = .ok (.newarray .long, 2) := by decide +kernel
theorem d_MO_init_26 : decode prog_12_method_1_code 26 = .ok (.putfield 16, 3) := by decide +kernel
theorem d_MO_init_29 : decode prog_12_method_1_code 29 = .ok (.aload_n 0, 1) := by decide +kernel
theorem d_MO_init_30 : decode prog_12_method_1_code 30 = .ok (.iconst 4, 1) := by decide +kernel
theorem d_MO_init_31 : decode prog_12_method_1_code 31 = .ok (.newarray .boolean, 2) := by decide +kernel
theorem d_MO_init_33 : decode prog_12_method_1_code 33 = .ok (.putfield 20, 3) := by decide +kernel
theorem d_MO_init_36 : decode prog_12_method_1_code 36 = .ok (.aload_n 0, 1) := by decide +kernel
theorem d_MO_init_37 : decode prog_12_method_1_code 37 = .ok (.iconst 4, 1) := by decide +kernel
theorem d_MO_init_38 : decode prog_12_method_1_code 38 = .ok (.newarray .int, 2) := by decide +kernel
theorem d_MO_init_40 : decode prog_12_method_1_code 40 = .ok (.putfield 24, 3) := by decide +kernel
theorem d_MO_init_43 : decode prog_12_method_1_code 43 = .ok (.aload_n 0, 1) := by decide +kernel
theorem d_MO_init_44 : decode prog_12_method_1_code 44 = .ok (.iconst 4, 1) := by decide +kernel
theorem d_MO_init_45 : decode prog_12_method_1_code 45 = .ok (.newarray .int, 2) := by decide +kernel
theorem d_MO_init_47 : decode prog_12_method_1_code 47 = .ok (.putfield 27, 3) := by decide +kernel
theorem d_MO_init_50 : decode prog_12_method_1_code 50 = .ok (.aload_n 0, 1) := by decide +kernel
theorem d_MO_init_51 : decode prog_12_method_1_code 51 = .ok (.iconst 4, 1) := by decide +kernel
theorem d_MO_init_52 : decode prog_12_method_1_code 52 = .ok (.newarray .int, 2) := by decide +kernel
theorem d_MO_init_54 : decode prog_12_method_1_code 54 = .ok (.putfield 30, 3) := by decide +kernel
theorem d_MO_init_57 : decode prog_12_method_1_code 57 = .ok (.aload_n 0, 1) := by decide +kernel
theorem d_MO_init_58 : decode prog_12_method_1_code 58 = .ok (.sipush 1920, 3) := by decide +kernel
theorem d_MO_init_61 : decode prog_12_method_1_code 61 = .ok (.newarray .int, 2) := by decide +kernel
theorem d_MO_init_63 : decode prog_12_method_1_code 63 = .ok (.putfield 33, 3) := by decide +kernel
theorem d_MO_init_66 : decode prog_12_method_1_code 66 = .ok (.aload_n 0, 1) := by decide +kernel
theorem d_MO_init_67 : decode prog_12_method_1_code 67 = .ok (.iconst 4, 1) := by decide +kernel
theorem d_MO_init_68 : decode prog_12_method_1_code 68 = .ok (.newarray .long, 2) := by decide +kernel
theorem d_MO_init_70 : decode prog_12_method_1_code 70 = .ok (.putfield 36, 3) := by decide +kernel
theorem d_MO_init_73 : decode prog_12_method_1_code 73 = .ok (.aload_n 0, 1) := by decide +kernel
theorem d_MO_init_74 : decode prog_12_method_1_code 74 = .ok (.sipush 176, 3) := by decide +kernel
theorem d_MO_init_77 : decode prog_12_method_1_code 77 = .ok (.newarray .int, 2) := by decide +kernel
theorem d_MO_init_79 : decode prog_12_method_1_code 79 = .ok (.putfield 39, 3) := by decide +kernel
theorem d_MO_init_82 : decode prog_12_method_1_code 82 = .ok (.aload_n 0, 1) := by decide +kernel
theorem d_MO_init_83 : decode prog_12_method_1_code 83 = .ok (.sipush 8960, 3) := by decide +kernel
theorem d_MO_init_86 : decode prog_12_method_1_code 86 = .ok (.newarray .int, 2) := by decide +kernel
theorem d_MO_init_88 : decode prog_12_method_1_code 88 = .ok (.putfield 42, 3) := by decide +kernel
theorem d_MO_init_91 : decode prog_12_method_1_code 91 = .ok (.aload_n 0, 1) := by decide +kernel
theorem d_MO_init_92 : decode prog_12_method_1_code 92 = .ok (.bipush 56, 2) := by decide +kernel
theorem d_MO_init_94 : decode prog_12_method_1_code 94 = .ok (.newarray .int, 2) := by decide +kernel
theorem d_MO_init_96 : decode prog_12_method_1_code 96 = .ok (.putfield 45, 3) := by decide +kernel
theorem d_MO_init_99 : decode prog_12_method_1_code 99 = .ok (.aload_n 0, 1) := by decide +kernel
theorem d_MO_init_100 : decode prog_12_method_1_code 100 = .ok (.bipush 56, 2) := by decide +kernel
theorem d_MO_init_102 : decode prog_12_method_1_code 102 = .ok (.newarray .int, 2) := by decide +kernel
theorem d_MO_init_104 : decode prog_12_method_1_code 104 = .ok (.putfield 48, 3) := by decide +kernel
theorem d_MO_init_107 : decode prog_12_method_1_code 107 = .ok (.aload_n 0, 1) := by decide +kernel
theorem d_MO_init_108 : decode prog_12_method_1_code 108 = .ok (.bipush 9, 2) := by decide +kernel
theorem d_MO_init_110 : decode prog_12_method_1_code 110 = .ok (.newarray .int, 2) := by decide +kernel
theorem d_MO_init_112 : decode prog_12_method_1_code 112 = .ok (.putfield 51, 3) := by decide +kernel
theorem d_MO_init_115 : decode prog_12_method_1_code 115 = .ok (.aload_n 0, 1) := by decide +kernel
theorem d_MO_init_116 : decode prog_12_method_1_code 116 = .ok (.bipush 100, 2) := by decide +kernel
theorem d_MO_init_118 : decode prog_12_method_1_code 118 = .ok (.newarray .int, 2) := by decide +kernel
theorem d_MO_init_120 : decode prog_12_method_1_code 120 = .ok (.putfield 54, 3) := by decide +kernel
theorem d_MO_init_123 : decode prog_12_method_1_code 123 = .ok (.aload_n 0, 1) := by decide +kernel
theorem d_MO_init_124 : decode prog_12_method_1_code 124 = .ok (.bipush 100, 2) := by decide +kernel
theorem d_MO_init_126 : decode prog_12_method_1_code 126 = .ok (.newarray .int, 2) := by decide +kernel
theorem d_MO_init_128 : decode prog_12_method_1_code 128 = .ok (.putfield 57, 3) := by decide +kernel
theorem d_MO_init_131 : decode prog_12_method_1_code 131 = .ok (.aload_n 0, 1) := by decide +kernel
theorem d_MO_init_132 : decode prog_12_method_1_code 132 = .ok (.bipush 100, 2) := by decide +kernel
theorem d_MO_init_134 : decode prog_12_method_1_code 134 = .ok (.newarray .long, 2) := by decide +kernel
theorem d_MO_init_136 : decode prog_12_method_1_code 136 = .ok (.putfield 60, 3) := by decide +kernel
theorem d_MO_init_139 : decode prog_12_method_1_code 139 = .ok (.aload_n 0, 1) := by decide +kernel
theorem d_MO_init_140 : decode prog_12_method_1_code 140 = .ok (.bipush 100, 2) := by decide +kernel
theorem d_MO_init_142 : decode prog_12_method_1_code 142 = .ok (.newarray .long, 2) := by decide +kernel
theorem d_MO_init_144 : decode prog_12_method_1_code 144 = .ok (.putfield 63, 3) := by decide +kernel
theorem d_MO_init_147 : decode prog_12_method_1_code 147 = .ok (.aload_n 0, 1) := by decide +kernel
theorem d_MO_init_148 : decode prog_12_method_1_code 148 = .ok (.bipush 100, 2) := by decide +kernel
theorem d_MO_init_150 : decode prog_12_method_1_code 150 = .ok (.newarray .boolean, 2) := by decide +kernel
theorem d_MO_init_152 : decode prog_12_method_1_code 152 = .ok (.putfield 66, 3) := by decide +kernel
theorem d_MO_init_155 : decode prog_12_method_1_code 155 = .ok (.aload_n 0, 1) := by decide +kernel
theorem d_MO_init_156 : decode prog_12_method_1_code 156 = .ok (.bipush 100, 2) := by decide +kernel
theorem d_MO_init_158 : decode prog_12_method_1_code 158 = .ok (.newarray .boolean, 2) := by decide +kernel
theorem d_MO_init_160 : decode prog_12_method_1_code 160 = .ok (.putfield 69, 3) := by decide +kernel
theorem d_MO_init_163 : decode prog_12_method_1_code 163 = .ok (.aload_n 0, 1) := by decide +kernel
theorem d_MO_init_164 : decode prog_12_method_1_code 164 = .ok (.bipush 100, 2) := by decide +kernel
theorem d_MO_init_166 : decode prog_12_method_1_code 166 = .ok (.newarray .int, 2) := by decide +kernel
theorem d_MO_init_168 : decode prog_12_method_1_code 168 = .ok (.putfield 72, 3) := by decide +kernel
theorem d_MO_init_171 : decode prog_12_method_1_code 171 = .ok (.aload_n 0, 1) := by decide +kernel
theorem d_MO_init_172 : decode prog_12_method_1_code 172 = .ok (.bipush 100, 2) := by decide +kernel
theorem d_MO_init_174 : decode prog_12_method_1_code 174 = .ok (.newarray .int, 2) := by decide +kernel
theorem d_MO_init_176 : decode prog_12_method_1_code 176 = .ok (.putfield 75, 3) := by decide +kernel
theorem d_MO_init_179 : decode prog_12_method_1_code 179 = .ok (.aload_n 0, 1) := by decide +kernel
theorem d_MO_init_180 : decode prog_12_method_1_code 180 = .ok (.bipush 100, 2) := by decide +kernel
theorem d_MO_init_182 : decode prog_12_method_1_code 182 = .ok (.newarray .int, 2) := by decide +kernel
theorem d_MO_init_184 : decode prog_12_method_1_code 184 = .ok (.putfield 78, 3) := by decide +kernel
theorem d_MO_init_187 : decode prog_12_method_1_code 187 = .ok (.aload_n 0, 1) := by decide +kernel
theorem d_MO_init_188 : decode prog_12_method_1_code 188 = .ok (.bipush 100, 2) := by decide +kernel
theorem d_MO_init_190 : decode prog_12_method_1_code 190 = .ok (.newarray .int, 2) := by decide +kernel
theorem d_MO_init_192 : decode prog_12_method_1_code 192 = .ok (.putfield 81, 3) := by decide +kernel
theorem d_MO_init_195 : decode prog_12_method_1_code 195 = .ok (.aload_n 0, 1) := by decide +kernel
theorem d_MO_init_196 : decode prog_12_method_1_code 196 = .ok (.bipush 100, 2) := by decide +kernel
theorem d_MO_init_198 : decode prog_12_method_1_code 198 = .ok (.newarray .int, 2) := by decide +kernel
theorem d_MO_init_200 : decode prog_12_method_1_code 200 = .ok (.putfield 84, 3) := by decide +kernel
theorem d_MO_init_203 : decode prog_12_method_1_code 203 = .ok (.aload_n 0, 1) := by decide +kernel
theorem d_MO_init_204 : decode prog_12_method_1_code 204 = .ok (.bipush 100, 2) := by decide +kernel
theorem d_MO_init_206 : decode prog_12_method_1_code 206 = .ok (.newarray .int, 2) := by decide +kernel
theorem d_MO_init_208 : decode prog_12_method_1_code 208 = .ok (.putfield 87, 3) := by decide +kernel
theorem d_MO_init_211 : decode prog_12_method_1_code 211 = .ok (.aload_n 0, 1) := by decide +kernel
theorem d_MO_init_212 : decode prog_12_method_1_code 212 = .ok (.bipush 12, 2) := by decide +kernel
theorem d_MO_init_214 : decode prog_12_method_1_code 214 = .ok (.newarray .boolean, 2) := by decide +kernel
theorem d_MO_init_216 : decode prog_12_method_1_code 216 = .ok (.putfield 90, 3) := by decide +kernel
theorem d_MO_init_219 : decode prog_12_method_1_code 219 = .ok (.aload_n 0, 1) := by decide +kernel
theorem d_MO_init_220 : decode prog_12_method_1_code 220 = .ok (.bipush 12, 2) := by decide +kernel
theorem d_MO_init_222 : decode prog_12_method_1_code 222 = .ok (.newarray .int, 2) := by decide +kernel
theorem d_MO_init_224 : decode prog_12_method_1_code 224 = .ok (.putfield 93, 3) := by decide +kernel
theorem d_MO_init_227 : decode prog_12_method_1_code 227 = .ok (.aload_n 0, 1) := by decide +kernel
theorem d_MO_init_228 : decode prog_12_method_1_code 228 = .ok (.sipush 1728, 3) := by decide +kernel
theorem d_MO_init_231 : decode prog_12_method_1_code 231 = .ok (.newarray .int, 2) := by decide +kernel
theorem d_MO_init_233 : decode prog_12_method_1_code 233 = .ok (.putfield 96, 3) := by decide +kernel
theorem d_MO_init_236 : decode prog_12_method_1_code 236 = .ok (.aload_n 0, 1) := by decide +kernel
theorem d_MO_init_237 : decode prog_12_method_1_code 237 = .ok (.bipush 12, 2) := by decide +kernel
theorem d_MO_init_239 : decode prog_12_method_1_code 239 = .ok (.newarray .long, 2) := by decide +kernel
theorem d_MO_init_241 : decode prog_12_method_1_code 241 = .ok (.putfield 99, 3) := by decide +kernel
theorem d_MO_init_244 : decode prog_12_method_1_code 244 = .ok (.aload_n 0, 1) := by decide +kernel
theorem d_MO_init_245 : decode prog_12_method_1_code 245 = .ok (.bipush 12, 2) := by decide +kernel
theorem d_MO_init_247 : decode prog_12_method_1_code 247 = .ok (.newarray .int, 2) := by decide +kernel
theorem d_MO_init_249 : decode prog_12_method_1_code 249 = .ok (.putfield 102, 3) := by decide +kernel
theorem d_MO_init_252 : decode prog_12_method_1_code 252 = .ok (.aload_n 0, 1) := by decide +kernel
theorem d_MO_init_253 : decode prog_12_method_1_code 253 = .ok (.bipush 12, 2) := by decide +kernel
theorem d_MO_init_255 : decode prog_12_method_1_code 255 = .ok (.newarray .int, 2) := by decide +kernel
theorem d_MO_init_257 : decode prog_12_method_1_code 257 = .ok (.putfield 105, 3) := by decide +kernel
theorem d_MO_init_260 : decode prog_12_method_1_code 260 = .ok (.aload_n 0, 1) := by decide +kernel
theorem d_MO_init_261 : decode prog_12_method_1_code 261 = .ok (.iconst 4, 1) := by decide +kernel
theorem d_MO_init_262 : decode prog_12_method_1_code 262 = .ok (.newarray .int, 2) := by decide +kernel
theorem d_MO_init_264 : decode prog_12_method_1_code 264 = .ok (.putfield 108, 3) := by decide +kernel
theorem d_MO_init_267 : decode prog_12_method_1_code 267 = .ok (.aload_n 0, 1) := by decide +kernel
theorem d_MO_init_268 : decode prog_12_method_1_code 268 = .ok (.bipush 36, 2) := by decide +kernel
theorem d_MO_init_270 : decode prog_12_method_1_code 270 = .ok (.newarray .int, 2) := by decide +kernel
theorem d_MO_init_272 : decode prog_12_method_1_code 272 = .ok (.putfield 111, 3) := by decide +kernel
theorem d_MO_init_275 : decode prog_12_method_1_code 275 = .ok (.aload_n 0, 1) := by decide +kernel
theorem d_MO_init_276 : decode prog_12_method_1_code 276 = .ok (.sipush 5508, 3) := by decide +kernel
theorem d_MO_init_279 : decode prog_12_method_1_code 279 = .ok (.newarray .int, 2) := by decide +kernel
theorem d_MO_init_281 : decode prog_12_method_1_code 281 = .ok (.putfield 114, 3) := by decide +kernel
theorem d_MO_init_284 : decode prog_12_method_1_code 284 = .ok (.return_, 1) := by decide +kernel
theorem d_MO_plain_0 : decode prog_12_method_2_code 0 = .ok (.iload_n 0, 1) := by decide +kernel
theorem d_MO_plain_1 : decode prog_12_method_2_code 1 = .ok (.tableswitch 644 0 127 #[527, 530, 534, 537, 541, 545, 549, 553, 557, 561, 644, 565, 569, 644, 573, 577, 581, 585, 588, 592, 596, 600, 604, 608, 612, 616, 620, 644, 624, 628, 632, 636, 644, 644, 644, 644, 644, 644, 644, 644, 644, 644, 644, 644, 644, 644, 644, 644, 644, 644, 644, 644, 644, 644, 644, 644, 644, 644, 644, 644, 644, 644, 644, 644, 644, 644, 644, 644, 644, 644, 644, 644, 644, 644, 644, 644, 644, 644, 644, 644, 644, 644, 644, 644, 644, 644, 644, 644, 644, 644, 644, 644, 644, 644, 644, 644, 644, 644, 644, 644, 644, 644, 644, 644, 644, 644, 644, 644, 644, 644, 644, 644, 644, 644, 644, 644, 644, 644, 644, 644, 644, 644, 644, 644, 644, 644, 644, 640], 527) := by decide +kernel
theorem d_MO_plain_528 : decode prog_12_method_2_code 528 = .ok (.bipush 64, 2) := by decide +kernel
theorem d_MO_plain_530 : decode prog_12_method_2_code 530 = .ok (.ireturn, 1) := by decide +kernel
theorem d_MO_plain_531 : decode prog_12_method_2_code 531 = .ok (.sipush 163, 3) := by decide +kernel
theorem d_MO_plain_534 : decode prog_12_method_2_code 534 = .ok (.ireturn, 1) := by decide +kernel
theorem d_MO_plain_535 : decode prog_12_method_2_code 535 = .ok (.bipush 36, 2) := by decide +kernel
theorem d_MO_plain_537 : decode prog_12_method_2_code 537 = .ok (.ireturn, 1) := by decide +kernel
theorem d_MO_plain_538 : decode prog_12_method_2_code 538 = .ok (.sipush 165, 3) := by decide +kernel
theorem d_MO_plain_541 : decode prog_12_method_2_code 541 = .ok (.ireturn, 1) := by decide +kernel
theorem d_MO_plain_542 : decode prog_12_method_2_code 542 = .ok (.sipush 232, 3) := by decide +kernel
theorem d_MO_plain_545 : decode prog_12_method_2_code 545 = .ok (.ireturn, 1) := by decide +kernel
theorem d_MO_plain_546 : decode prog_12_method_2_code 546 = .ok (.sipush 233, 3) := by decide +kernel
theorem d_MO_plain_549 : decode prog_12_method_2_code 549 = .ok (.ireturn, 1) := by decide +kernel
theorem d_MO_plain_550 : decode prog_12_method_2_code 550 = .ok (.sipush 249, 3) := by decide +kernel
theorem d_MO_plain_553 : decode prog_12_method_2_code 553 = .ok (.ireturn, 1) := by decide +kernel
theorem d_MO_plain_554 : decode prog_12_method_2_code 554 = .ok (.sipush 236, 3) := by decide +kernel
theorem d_MO_plain_557 : decode prog_12_method_2_code 557 = .ok (.ireturn, 1) := by decide +kernel
theorem d_MO_plain_558 : decode prog_12_method_2_code 558 = .ok (.sipush 242, 3) := by decide +kernel
theorem d_MO_plain_561 : decode prog_12_method_2_code 561 = .ok (.ireturn, 1) := by decide +kernel
theorem d_MO_plain_562 : decode prog_12_method_2_code 562 = .ok (.sipush 199, 3) := by decide +kernel
theorem d_MO_plain_565 : decode prog_12_method_2_code 565 = .ok (.ireturn, 1) := by decide +kernel
theorem d_MO_plain_566 : decode prog_12_method_2_code 566 = .ok (.sipush 216, 3) := by decide +kernel
theorem d_MO_plain_569 : decode prog_12_method_2_code 569 = .ok (.ireturn, 1) := by decide +kernel
theorem d_MO_plain_570 : decode prog_12_method_2_code 570 = .ok (.sipush 248, 3) := by decide +kernel
theorem d_MO_plain_573 : decode prog_12_method_2_code 573 = .ok (.ireturn, 1) := by decide +kernel
theorem d_MO_plain_574 : decode prog_12_method_2_code 574 = .ok (.sipush 197, 3) := by decide +kernel
theorem d_MO_plain_577 : decode prog_12_method_2_code 577 = .ok (.ireturn, 1) := by decide +kernel
theorem d_MO_plain_578 : decode prog_12_method_2_code 578 = .ok (.sipush 229, 3) := by decide +kernel
theorem d_MO_plain_581 : decode prog_12_method_2_code 581 = .ok (.ireturn, 1) := by decide +kernel
theorem d_MO_plain_582 : decode prog_12_method_2_code 582 = .ok (.sipush 916, 3) := by decide +kernel
theorem d_MO_plain_585 : decode prog_12_method_2_code 585 = .ok (.ireturn, 1) := by decide +kernel
theorem d_MO_plain_586 : decode prog_12_method_2_code 586 = .ok (.bipush 95, 2) := by decide +kernel
theorem d_MO_plain_588 : decode prog_12_method_2_code 588 = .ok (.ireturn, 1) := by decide +kernel
theorem d_MO_plain_589 : decode prog_12_method_2_code 589 = .ok (.sipush 934, 3) := by decide +kernel
theorem d_MO_plain_592 : decode prog_12_method_2_code 592 = .ok (.ireturn, 1) := by decide +kernel
theorem d_MO_plain_593 : decode prog_12_method_2_code 593 = .ok (.sipush 915, 3) := by decide +kernel
theorem d_MO_plain_596 : decode prog_12_method_2_code 596 = .ok (.ireturn, 1) := by decide +kernel
theorem d_MO_plain_597 : decode prog_12_method_2_code 597 = .ok (.sipush 923, 3) := by decide +kernel
theorem d_MO_plain_600 : decode prog_12_method_2_code 600 = .ok (.ireturn, 1) := by decide +kernel
theorem d_MO_plain_601 : decode prog_12_method_2_code 601 = .ok (.sipush 937, 3) := by decide +kernel
theorem d_MO_plain_604 : decode prog_12_method_2_code 604 = .ok (.ireturn, 1) := by decide +kernel
theorem d_MO_plain_605 : decode prog_12_method_2_code 605 = .ok (.sipush 928, 3) := by decide +kernel
theorem d_MO_plain_608 : decode prog_12_method_2_code 608 = .ok (.ireturn, 1) := by decide +kernel
theorem d_MO_plain_609 : decode prog_12_method_2_code 609 = .ok (.sipush 936, 3) := by decide +kernel
theorem d_MO_plain_612 : decode prog_12_method_2_code 612 = .ok (.ireturn, 1) := by decide +kernel
theorem d_MO_plain_613 : decode prog_12_method_2_code 613 = .ok (.sipush 931, 3) := by decide +kernel
theorem d_MO_plain_616 : decode prog_12_method_2_code 616 = .ok (.ireturn, 1) := by decide +kernel
theorem d_MO_plain_617 : decode prog_12_method_2_code 617 = .ok (.sipush 920, 3) := by decide +kernel
theorem d_MO_plain_620 : decode prog_12_method_2_code 620 = .ok (.ireturn, 1) := by decide +kernel
theorem d_MO_plain_621 : decode prog_12_method_2_code 621 = .ok (.sipush 926, 3) := by decide +kernel
theorem d_MO_plain_624 : decode prog_12_method_2_code 624 = .ok (.ireturn, 1) := by decide +kernel
theorem d_MO_plain_625 : decode prog_12_method_2_code 625 = .ok (.sipush 198, 3) := by decide +kernel
theorem d_MO_plain_628 : decode prog_12_method_2_code 628 = .ok (.ireturn, 1) := by decide +kernel
theorem d_MO_plain_629 : decode prog_12_method_2_code 629 = .ok (.sipush 230, 3) := by decide +kernel
theorem d_MO_plain_632 : decode prog_12_method_2_code 632 = .ok (.ireturn, 1) := by decide +kernel
theorem d_MO_plain_633 : decode prog_12_method_2_code 633 = .ok (.sipush 223, 3) := by decide +kernel
theorem d_MO_plain_636 : decode prog_12_method_2_code 636 = .ok (.ireturn, 1) := by decide +kernel
theorem d_MO_plain_637 : decode prog_12_method_2_code 637 = .ok (.sipush 201, 3) := by decide +kernel
theorem d_MO_plain_640 : decode prog_12_method_2_code 640 = .ok (.ireturn, 1) := by decide +kernel
theorem d_MO_plain_641 : decode prog_12_method_2_code 641 = .ok (.sipush 224, 3) := by decide +kernel
theorem d_MO_plain_644 : decode prog_12_method_2_code 644 = .ok (.ireturn, 1) := by decide +kernel
theorem d_MO_plain_645 : decode prog_12_method_2_code 645 = .ok (.iload_n 0, 1) := by decide +kernel
theorem d_MO_plain_646 : decode prog_12_method_2_code 646 = .ok (.invokestatic 117, 3) := by decide +kernel
theorem d_MO_plain_649 : decode prog_12_method_2_code 649 = .ok (.ireturn, 1) := by decide +kernel
theorem d_MO_upper_0 : decode prog_12_method_3_code 0 = .ok (.iload_n 0, 1) := by decide +kernel
theorem d_MO_upper_1 : decode prog_12_method_3_code 1 = .ok (.lookupswitch 155 #[(36, 107), (64, 111), (91, 115), (92, 119), (93, 123), (94, 127), (95, 131), (96, 135), (123, 139), (124, 143), (125, 147), (126, 151)], 107) := by decide +kernel
theorem d_MO_upper_108 : decode prog_12_method_3_code 108 = .ok (.sipush 164, 3) := by decide +kernel
theorem d_MO_upper_111 : decode prog_12_method_3_code 111 = .ok (.ireturn, 1) := by decide +kernel
theorem d_MO_upper_112 : decode prog_12_method_3_code 112 = .ok (.sipush 161, 3) := by decide +kernel
theorem d_MO_upper_115 : decode prog_12_method_3_code 115 = .ok (.ireturn, 1) := by decide +kernel
theorem d_MO_upper_116 : decode prog_12_method_3_code 116 = .ok (.sipush 196, 3) := by decide +kernel
theorem d_MO_upper_119 : decode prog_12_method_3_code 119 = .ok (.ireturn, 1) := by decide +kernel
theorem d_MO_upper_120 : decode prog_12_method_3_code 120 = .ok (.sipush 214, 3) := by decide +kernel
theorem d_MO_upper_123 : decode prog_12_method_3_code 123 = .ok (.ireturn, 1) := by decide +kernel
theorem d_MO_upper_124 : decode prog_12_method_3_code 124 = .ok (.sipush 209, 3) := by decide +kernel
theorem d_MO_upper_127 : decode prog_12_method_3_code 127 = .ok (.ireturn, 1) := by decide +kernel
theorem d_MO_upper_128 : decode prog_12_method_3_code 128 = .ok (.sipush 220, 3) := by decide +kernel
theorem d_MO_upper_131 : decode prog_12_method_3_code 131 = .ok (.ireturn, 1) := by decide +kernel
theorem d_MO_upper_132 : decode prog_12_method_3_code 132 = .ok (.sipush 167, 3) := by decide +kernel
theorem d_MO_upper_135 : decode prog_12_method_3_code 135 = .ok (.ireturn, 1) := by decide +kernel
theorem d_MO_upper_136 : decode prog_12_method_3_code 136 = .ok (.sipush 191, 3) := by decide +kernel
theorem d_MO_upper_139 : decode prog_12_method_3_code 139 = .ok (.ireturn, 1) := by decide +kernel
theorem d_MO_upper_140 : decode prog_12_method_3_code 140 = .ok (.sipush 228, 3) := by decide +kernel
theorem d_MO_upper_143 : decode prog_12_method_3_code 143 = .ok (.ireturn, 1) := by decide +kernel
theorem d_MO_upper_144 : decode prog_12_method_3_code 144 = .ok (.sipush 246, 3) := by decide +kernel
theorem d_MO_upper_147 : decode prog_12_method_3_code 147 = .ok (.ireturn, 1) := by decide +kernel
theorem d_MO_upper_148 : decode prog_12_method_3_code 148 = .ok (.sipush 241, 3) := by decide +kernel
theorem d_MO_upper_151 : decode prog_12_method_3_code 151 = .ok (.ireturn, 1) := by decide +kernel
theorem d_MO_upper_152 : decode prog_12_method_3_code 152 = .ok (.sipush 252, 3) := by decide +kernel
theorem d_MO_upper_155 : decode prog_12_method_3_code 155 = .ok (.ireturn, 1) := by decide +kernel
theorem d_MO_upper_156 : decode prog_12_method_3_code 156 = .ok (.iload_n 0, 1) := by decide +kernel
theorem d_MO_upper_157 : decode prog_12_method_3_code 157 = .ok (.ireturn, 1) := by decide +kernel
theorem d_MO_escaped_0 : decode prog_12_method_4_code 0 = .ok (.iload_n 0, 1) := by decide +kernel
theorem d_MO_escaped_1 : decode prog_12_method_4_code 1 = .ok (.lookupswitch 122 #[(10, 91), (20, 94), (40, 97), (41, 100), (47, 103), (60, 106), (61, 109), (62, 112), (64, 115), (101, 118)], 91) := by decide +kernel
theorem d_MO_escaped_92 : decode prog_12_method_4_code 92 = .ok (.bipush 12, 2) := by decide +kernel
theorem d_MO_escaped_94 : decode prog_12_method_4_code 94 = .ok (.ireturn, 1) := by decide +kernel
theorem d_MO_escaped_95 : decode prog_12_method_4_code 95 = .ok (.bipush 94, 2) := by decide +kernel
theorem d_MO_escaped_97 : decode prog_12_method_4_code 97 = .ok (.ireturn, 1) := by decide +kernel
theorem d_MO_escaped_98 : decode prog_12_method_4_code 98 = .ok (.bipush 123, 2) := by decide +kernel
theorem d_MO_escaped_100 : decode prog_12_method_4_code 100 = .ok (.ireturn, 1) := by decide +kernel
theorem d_MO_escaped_101 : decode prog_12_method_4_code 101 = .ok (.bipush 125, 2) := by decide +kernel
theorem d_MO_escaped_103 : decode prog_12_method_4_code 103 = .ok (.ireturn, 1) := by decide +kernel
theorem d_MO_escaped_104 : decode prog_12_method_4_code 104 = .ok (.bipush 92, 2) := by decide +kernel
theorem d_MO_escaped_106 : decode prog_12_method_4_code 106 = .ok (.ireturn, 1) := by decide +kernel
theorem d_MO_escaped_107 : decode prog_12_method_4_code 107 = .ok (.bipush 91, 2) := by decide +kernel
theorem d_MO_escaped_109 : decode prog_12_method_4_code 109 = .ok (.ireturn, 1) := by decide +kernel
theorem d_MO_escaped_110 : decode prog_12_method_4_code 110 = .ok (.bipush 126, 2) := by decide +kernel
theorem d_MO_escaped_112 : decode prog_12_method_4_code 112 = .ok (.ireturn, 1) := by decide +kernel
theorem d_MO_escaped_113 : decode prog_12_method_4_code 113 = .ok (.bipush 93, 2) := by decide +kernel
theorem d_MO_escaped_115 : decode prog_12_method_4_code 115 = .ok (.ireturn, 1) := by decide +kernel
theorem d_MO_escaped_116 : decode prog_12_method_4_code 116 = .ok (.bipush 124, 2) := by decide +kernel
theorem d_MO_escaped_118 : decode prog_12_method_4_code 118 = .ok (.ireturn, 1) := by decide +kernel
theorem d_MO_escaped_119 : decode prog_12_method_4_code 119 = .ok (.sipush 8364, 3) := by decide +kernel
theorem d_MO_escaped_122 : decode prog_12_method_4_code 122 = .ok (.ireturn, 1) := by decide +kernel
theorem d_MO_escaped_123 : decode prog_12_method_4_code 123 = .ok (.iconst (-1), 1) := by decide +kernel
theorem d_MO_escaped_124 : decode prog_12_method_4_code 124 = .ok (.ireturn, 1) := by decide +kernel
theorem d_MO_encode_0 : decode prog_12_method_5_code 0 = .ok (.iconst 0, 1) := by decide +kernel
theorem d_MO_encode_1 : decode prog_12_method_5_code 1 = .ok (.istore_n 2, 1) := by decide +kernel
theorem d_MO_encode_2 : decode prog_12_method_5_code 2 = .ok (.iload_n 2, 1) := by decide +kernel
theorem d_MO_encode_3 : decode prog_12_method_5_code 3 = .ok (.sipush 128, 3) := by decide +kernel
theorem d_MO_encode_6 : decode prog_12_method_5_code 6 = .ok (.if_icmp .ge 88, 3) := by decide +kernel
theorem d_MO_encode_9 : decode prog_12_method_5_code 9 = .ok (.iload_n 2, 1) := by decide +kernel
theorem d_MO_encode_10 : decode prog_12_method_5_code 10 = .ok (.bipush 27, 2) := by decide +kernel
theorem d_MO_encode_12 : decode prog_12_method_5_code 12 = .ok (.if_icmp .eq 33, 3) := by decide +kernel
theorem d_MO_encode_15 : decode prog_12_method_5_code 15 = .ok (.iload_n 2, 1) := by decide +kernel
theorem d_MO_encode_16 : decode prog_12_method_5_code 16 = .ok (.invokestatic 121, 3) := by decide +kernel
theorem d_MO_encode_19 : decode prog_12_method_5_code 19 = .ok (.iload_n 1, 1) := by decide +kernel
theorem d_MO_encode_20 : decode prog_12_method_5_code 20 = .ok (.if_icmp .ne 25, 3) := by decide +kernel
theorem d_MO_encode_23 : decode prog_12_method_5_code 23 = .ok (.aload_n 0, 1) := by decide +kernel
theorem d_MO_encode_24 : decode prog_12_method_5_code 24 = .ok (.getfield 13, 3) := by decide +kernel
theorem d_MO_encode_27 : decode prog_12_method_5_code 27 = .ok (.aload_n 0, 1) := by decide +kernel
theorem d_MO_encode_28 : decode prog_12_method_5_code 28 = .ok (.getfield 124, 3) := by decide +kernel
theorem d_MO_encode_31 : decode prog_12_method_5_code 31 = .ok (.iload_n 2, 1) := by decide +kernel
theorem d_MO_encode_32 : decode prog_12_method_5_code 32 = .ok (.iastore, 1) := by decide +kernel
theorem d_MO_encode_33 : decode prog_12_method_5_code 33 = .ok (.aload_n 0, 1) := by decide +kernel
theorem d_MO_encode_34 : decode prog_12_method_5_code 34 = .ok (.dup, 1) := by decide +kernel
theorem d_MO_encode_35 : decode prog_12_method_5_code 35 = .ok (.getfield 124, 3) := by decide +kernel
theorem d_MO_encode_38 : decode prog_12_method_5_code 38 = .ok (.iconst 1, 1) := by decide +kernel
theorem d_MO_encode_39 : decode prog_12_method_5_code 39 = .ok (.iadd, 1) := by decide +kernel
theorem d_MO_encode_40 : decode prog_12_method_5_code 40 = .ok (.putfield 124, 3) := by decide +kernel
theorem d_MO_encode_43 : decode prog_12_method_5_code 43 = .ok (.iconst 1, 1) := by decide +kernel
theorem d_MO_encode_44 : decode prog_12_method_5_code 44 = .ok (.ireturn, 1) := by decide +kernel
theorem d_MO_encode_45 : decode prog_12_method_5_code 45 = .ok (.iload_n 2, 1) := by decide +kernel
theorem d_MO_encode_46 : decode prog_12_method_5_code 46 = .ok (.invokestatic 128, 3) := by decide +kernel
theorem d_MO_encode_49 : decode prog_12_method_5_code 49 = .ok (.iload_n 1, 1) := by decide +kernel
theorem d_MO_encode_50 : decode prog_12_method_5_code 50 = .ok (.if_icmp .ne 38, 3) := by decide +kernel
theorem d_MO_encode_53 : decode prog_12_method_5_code 53 = .ok (.aload_n 0, 1) := by decide +kernel
theorem d_MO_encode_54 : decode prog_12_method_5_code 54 = .ok (.getfield 13, 3) := by decide +kernel
theorem d_MO_encode_57 : decode prog_12_method_5_code 57 = .ok (.aload_n 0, 1) := by decide +kernel
theorem d_MO_encode_58 : decode prog_12_method_5_code 58 = .ok (.getfield 124, 3) := by decide +kernel
theorem d_MO_encode_61 : decode prog_12_method_5_code 61 = .ok (.bipush 27, 2) := by decide +kernel
theorem d_MO_encode_63 : decode prog_12_method_5_code 63 = .ok (.iastore, 1) := by decide +kernel
theorem d_MO_encode_64 : decode prog_12_method_5_code 64 = .ok (.aload_n 0, 1) := by decide +kernel
theorem d_MO_encode_65 : decode prog_12_method_5_code 65 = .ok (.getfield 13, 3) := by decide +kernel
theorem d_MO_encode_68 : decode prog_12_method_5_code 68 = .ok (.aload_n 0, 1) := by decide +kernel
theorem d_MO_encode_69 : decode prog_12_method_5_code 69 = .ok (.getfield 124, 3) := by decide +kernel
theorem d_MO_encode_72 : decode prog_12_method_5_code 72 = .ok (.iconst 1, 1) := by decide +kernel
theorem d_MO_encode_73 : decode prog_12_method_5_code 73 = .ok (.iadd, 1) := by decide +kernel
theorem d_MO_encode_74 : decode prog_12_method_5_code 74 = .ok (.iload_n 2, 1) := by decide +kernel
theorem d_MO_encode_75 : decode prog_12_method_5_code 75 = .ok (.iastore, 1) := by decide +kernel
theorem d_MO_encode_76 : decode prog_12_method_5_code 76 = .ok (.aload_n 0, 1) := by decide +kernel
theorem d_MO_encode_77 : decode prog_12_method_5_code 77 = .ok (.aload_n 0, 1) := by decide +kernel
theorem d_MO_encode_78 : decode prog_12_method_5_code 78 = .ok (.getfield 124, 3) := by decide +kernel
theorem d_MO_encode_81 : decode prog_12_method_5_code 81 = .ok (.iconst 2, 1) := by decide +kernel
theorem d_MO_encode_82 : decode prog_12_method_5_code 82 = .ok (.iadd, 1) := by decide +kernel
theorem d_MO_encode_83 : decode prog_12_method_5_code 83 = .ok (.putfield 124, 3) := by decide +kernel
theorem d_MO_encode_86 : decode prog_12_method_5_code 86 = .ok (.iconst 1, 1) := by decide +kernel
theorem d_MO_encode_87 : decode prog_12_method_5_code 87 = .ok (.ireturn, 1) := by decide +kernel
theorem d_MO_encode_88 : decode prog_12_method_5_code 88 = .ok (.iinc 2 1, 3) := by decide +kernel
theorem d_MO_encode_91 : decode prog_12_method_5_code 91 = .ok (.goto (-89), 3) := by decide +kernel
theorem d_MO_encode_94 : decode prog_12_method_5_code 94 = .ok (.iconst 0, 1) := by decide +kernel
theorem d_MO_encode_95 : decode prog_12_method_5_code 95 = .ok (.ireturn, 1) := by decide +kernel
theorem d_MO_put_0 : decode prog_12_method_6_code 0 = .ok (.aload_n 0, 1) := by decide +kernel
theorem d_MO_put_1 : decode prog_12_method_6_code 1 = .ok (.getfield 39, 3) := by decide +kernel
theorem d_MO_put_4 : decode prog_12_method_6_code 4 = .ok (.aload_n 0, 1) := by decide +kernel
theorem d_MO_put_5 : decode prog_12_method_6_code 5 = .ok (.getfield 131, 3) := by decide +kernel
theorem d_MO_put_8 : decode prog_12_method_6_code 8 = .ok (.iload_n 1, 1) := by decide +kernel
theorem d_MO_put_9 : decode prog_12_method_6_code 9 = .ok (.iastore, 1) := by decide +kernel
theorem d_MO_put_10 : decode prog_12_method_6_code 10 = .ok (.aload_n 0, 1) := by decide +kernel
theorem d_MO_put_11 : decode prog_12_method_6_code 11 = .ok (.dup, 1) := by decide +kernel
theorem d_MO_put_12 : decode prog_12_method_6_code 12 = .ok (.getfield 131, 3) := by decide +kernel
theorem d_MO_put_15 : decode prog_12_method_6_code 15 = .ok (.iconst 1, 1) := by decide +kernel
theorem d_MO_put_16 : decode prog_12_method_6_code 16 = .ok (.iadd, 1) := by decide +kernel
theorem d_MO_put_17 : decode prog_12_method_6_code 17 = .ok (.putfield 131, 3) := by decide +kernel
theorem d_MO_put_20 : decode prog_12_method_6_code 20 = .ok (.return_, 1) := by decide +kernel
theorem d_MO_power_0 : decode prog_12_method_7_code 0 = .ok (.lconst 1, 1) := by decide +kernel
theorem d_MO_power_1 : decode prog_12_method_7_code 1 = .ok (.lstore_n 1, 1) := by decide +kernel
theorem d_MO_power_2 : decode prog_12_method_7_code 2 = .ok (.iconst 0, 1) := by decide +kernel
theorem d_MO_power_3 : decode prog_12_method_7_code 3 = .ok (.istore_n 3, 1) := by decide +kernel
theorem d_MO_power_4 : decode prog_12_method_7_code 4 = .ok (.iload_n 3, 1) := by decide +kernel
theorem d_MO_power_5 : decode prog_12_method_7_code 5 = .ok (.iload_n 0, 1) := by decide +kernel
theorem d_MO_power_6 : decode prog_12_method_7_code 6 = .ok (.if_icmp .ge 15, 3) := by decide +kernel
theorem d_MO_power_9 : decode prog_12_method_7_code 9 = .ok (.lload_n 1, 1) := by decide +kernel
theorem d_MO_power_10 : decode prog_12_method_7_code 10 = .ok (.ldc2_w 134, 3) := by decide +kernel
theorem d_MO_power_13 : decode prog_12_method_7_code 13 = .ok (.lmul, 1) := by decide +kernel
theorem d_MO_power_14 : decode prog_12_method_7_code 14 = .ok (.lstore_n 1, 1) := by decide +kernel
theorem d_MO_power_15 : decode prog_12_method_7_code 15 = .ok (.iinc 3 1, 3) := by decide +kernel
theorem d_MO_power_18 : decode prog_12_method_7_code 18 = .ok (.goto (-14), 3) := by decide +kernel
theorem d_MO_power_21 : decode prog_12_method_7_code 21 = .ok (.lload_n 1, 1) := by decide +kernel
theorem d_MO_power_22 : decode prog_12_method_7_code 22 = .ok (.lreturn, 1) := by decide +kernel
theorem d_MO_putDigits_0 : decode prog_12_method_8_code 0 = .ok (.iload_n 3, 1) := by decide +kernel
theorem d_MO_putDigits_1 : decode prog_12_method_8_code 1 = .ok (.iconst 1, 1) := by decide +kernel
theorem d_MO_putDigits_2 : decode prog_12_method_8_code 2 = .ok (.isub, 1) := by decide +kernel
theorem d_MO_putDigits_3 : decode prog_12_method_8_code 3 = .ok (.istore 4, 2) := by decide +kernel
theorem d_MO_putDigits_5 : decode prog_12_method_8_code 5 = .ok (.iload 4, 2) := by decide +kernel
theorem d_MO_putDigits_7 : decode prog_12_method_8_code 7 = .ok (.ifCond .lt 64, 3) := by decide +kernel
theorem d_MO_putDigits_10 : decode prog_12_method_8_code 10 = .ok (.lload_n 1, 1) := by decide +kernel
theorem d_MO_putDigits_11 : decode prog_12_method_8_code 11 = .ok (.iload 4, 2) := by decide +kernel
theorem d_MO_putDigits_13 : decode prog_12_method_8_code 13 = .ok (.invokestatic 136, 3) := by decide +kernel
theorem d_MO_putDigits_16 : decode prog_12_method_8_code 16 = .ok (.ldiv, 1) := by decide +kernel
theorem d_MO_putDigits_17 : decode prog_12_method_8_code 17 = .ok (.ldc2_w 134, 3) := by decide +kernel
theorem d_MO_putDigits_20 : decode prog_12_method_8_code 20 = .ok (.lrem, 1) := by decide +kernel
theorem d_MO_putDigits_21 : decode prog_12_method_8_code 21 = .ok (.l2i, 1) := by decide +kernel
theorem d_MO_putDigits_22 : decode prog_12_method_8_code 22 = .ok (.istore 5, 2) := by decide +kernel
theorem d_MO_putDigits_24 : decode prog_12_method_8_code 24 = .ok (.iload 4, 2) := by decide +kernel
theorem d_MO_putDigits_26 : decode prog_12_method_8_code 26 = .ok (.ifCond .ne 8, 3) := by decide +kernel
theorem d_MO_putDigits_29 : decode prog_12_method_8_code 29 = .ok (.bipush 15, 2) := by decide +kernel
theorem d_MO_putDigits_31 : decode prog_12_method_8_code 31 = .ok (.goto 17, 3) := by decide +kernel
theorem d_MO_putDigits_34 : decode prog_12_method_8_code 34 = .ok (.lload_n 1, 1) := by decide +kernel
theorem d_MO_putDigits_35 : decode prog_12_method_8_code 35 = .ok (.iload 4, 2) := by decide +kernel
theorem d_MO_putDigits_37 : decode prog_12_method_8_code 37 = .ok (.iconst 1, 1) := by decide +kernel
theorem d_MO_putDigits_38 : decode prog_12_method_8_code 38 = .ok (.isub, 1) := by decide +kernel
theorem d_MO_putDigits_39 : decode prog_12_method_8_code 39 = .ok (.invokestatic 136, 3) := by decide +kernel
theorem d_MO_putDigits_42 : decode prog_12_method_8_code 42 = .ok (.ldiv, 1) := by decide +kernel
theorem d_MO_putDigits_43 : decode prog_12_method_8_code 43 = .ok (.ldc2_w 134, 3) := by decide +kernel
theorem d_MO_putDigits_46 : decode prog_12_method_8_code 46 = .ok (.lrem, 1) := by decide +kernel
theorem d_MO_putDigits_47 : decode prog_12_method_8_code 47 = .ok (.l2i, 1) := by decide +kernel
theorem d_MO_putDigits_48 : decode prog_12_method_8_code 48 = .ok (.istore 6, 2) := by decide +kernel
theorem d_MO_putDigits_50 : decode prog_12_method_8_code 50 = .ok (.aload_n 0, 1) := by decide +kernel
theorem d_MO_putDigits_51 : decode prog_12_method_8_code 51 = .ok (.iload 5, 2) := by decide +kernel
theorem d_MO_putDigits_53 : decode prog_12_method_8_code 53 = .ok (.bipush 16, 2) := by decide +kernel
theorem d_MO_putDigits_55 : decode prog_12_method_8_code 55 = .ok (.iload 6, 2) := by decide +kernel
theorem d_MO_putDigits_57 : decode prog_12_method_8_code 57 = .ok (.imul, 1) := by decide +kernel
theorem d_MO_putDigits_58 : decode prog_12_method_8_code 58 = .ok (.iadd, 1) := by decide +kernel
theorem d_MO_putDigits_59 : decode prog_12_method_8_code 59 = .ok (.invokevirtual 140, 3) := by decide +kernel
theorem d_MO_putDigits_62 : decode prog_12_method_8_code 62 = .ok (.iload 4, 2) := by decide +kernel
theorem d_MO_putDigits_64 : decode prog_12_method_8_code 64 = .ok (.iconst 2, 1) := by decide +kernel
theorem d_MO_putDigits_65 : decode prog_12_method_8_code 65 = .ok (.isub, 1) := by decide +kernel
theorem d_MO_putDigits_66 : decode prog_12_method_8_code 66 = .ok (.istore 4, 2) := by decide +kernel
theorem d_MO_putDigits_68 : decode prog_12_method_8_code 68 = .ok (.goto (-63), 3) := by decide +kernel
theorem d_MO_putDigits_71 : decode prog_12_method_8_code 71 = .ok (.return_, 1) := by decide +kernel
theorem d_MO_putAddress_0 : decode prog_12_method_9_code 0 = .ok (.iconst 1, 1) := by decide +kernel
theorem d_MO_putAddress_1 : decode prog_12_method_9_code 1 = .ok (.istore_n 3, 1) := by decide +kernel
theorem d_MO_putAddress_2 : decode prog_12_method_9_code 2 = .ok (.iload_n 3, 1) := by decide +kernel
theorem d_MO_putAddress_3 : decode prog_12_method_9_code 3 = .ok (.bipush 12, 2) := by decide +kernel
theorem d_MO_putAddress_5 : decode prog_12_method_9_code 5 = .ok (.if_icmp .ge 18, 3) := by decide +kernel
theorem d_MO_putAddress_8 : decode prog_12_method_9_code 8 = .ok (.iload_n 3, 1) := by decide +kernel
theorem d_MO_putAddress_9 : decode prog_12_method_9_code 9 = .ok (.invokestatic 136, 3) := by decide +kernel
theorem d_MO_putAddress_12 : decode prog_12_method_9_code 12 = .ok (.lload_n 1, 1) := by decide +kernel
theorem d_MO_putAddress_13 : decode prog_12_method_9_code 13 = .ok (.lcmp, 1) := by decide +kernel
theorem d_MO_putAddress_14 : decode prog_12_method_9_code 14 = .ok (.ifCond .gt 9, 3) := by decide +kernel
theorem d_MO_putAddress_17 : decode prog_12_method_9_code 17 = .ok (.iinc 3 1, 3) := by decide +kernel
theorem d_MO_putAddress_20 : decode prog_12_method_9_code 20 = .ok (.goto (-18), 3) := by decide +kernel
theorem d_MO_putAddress_23 : decode prog_12_method_9_code 23 = .ok (.aload_n 0, 1) := by decide +kernel
theorem d_MO_putAddress_24 : decode prog_12_method_9_code 24 = .ok (.iload_n 3, 1) := by decide +kernel
theorem d_MO_putAddress_25 : decode prog_12_method_9_code 25 = .ok (.invokevirtual 140, 3) := by decide +kernel
theorem d_MO_putAddress_28 : decode prog_12_method_9_code 28 = .ok (.aload_n 0, 1) := by decide +kernel
theorem d_MO_putAddress_29 : decode prog_12_method_9_code 29 = .ok (.sipush 145, 3) := by decide +kernel
theorem d_MO_putAddress_32 : decode prog_12_method_9_code 32 = .ok (.invokevirtual 140, 3) := by decide +kernel
theorem d_MO_putAddress_35 : decode prog_12_method_9_code 35 = .ok (.aload_n 0, 1) := by decide +kernel
theorem d_MO_putAddress_36 : decode prog_12_method_9_code 36 = .ok (.lload_n 1, 1) := by decide +kernel
theorem d_MO_putAddress_37 : decode prog_12_method_9_code 37 = .ok (.iload_n 3, 1) := by decide +kernel
theorem d_MO_putAddress_38 : decode prog_12_method_9_code 38 = .ok (.invokevirtual 144, 3) := by decide +kernel
theorem d_MO_putAddress_41 : decode prog_12_method_9_code 41 = .ok (.return_, 1) := by decide +kernel
theorem d_MO_bytesFor_0 : decode prog_12_method_10_code 0 = .ok (.bipush 7, 2) := by decide +kernel
theorem d_MO_bytesFor_2 : decode prog_12_method_10_code 2 = .ok (.iload_n 0, 1) := by decide +kernel
theorem d_MO_bytesFor_3 : decode prog_12_method_10_code 3 = .ok (.imul, 1) := by decide +kernel
theorem d_MO_bytesFor_4 : decode prog_12_method_10_code 4 = .ok (.bipush 7, 2) := by decide +kernel
theorem d_MO_bytesFor_6 : decode prog_12_method_10_code 6 = .ok (.iadd, 1) := by decide +kernel
theorem d_MO_bytesFor_7 : decode prog_12_method_10_code 7 = .ok (.bipush 8, 2) := by decide +kernel
theorem d_MO_bytesFor_9 : decode prog_12_method_10_code 9 = .ok (.idiv, 1) := by decide +kernel
theorem d_MO_bytesFor_10 : decode prog_12_method_10_code 10 = .ok (.ireturn, 1) := by decide +kernel
theorem d_MO_putData_0 : decode prog_12_method_11_code 0 = .ok (.iload_n 3, 1) := by decide +kernel
theorem d_MO_putData_1 : decode prog_12_method_11_code 1 = .ok (.ifCond .ge 7, 3) := by decide +kernel
theorem d_MO_putData_4 : decode prog_12_method_11_code 4 = .ok (.iload_n 2, 1) := by decide +kernel
theorem d_MO_putData_5 : decode prog_12_method_11_code 5 = .ok (.goto 7, 3) := by decide +kernel
theorem d_MO_putData_8 : decode prog_12_method_11_code 8 = .ok (.bipush 7, 2) := by decide +kernel
theorem d_MO_putData_10 : decode prog_12_method_11_code 10 = .ok (.iload_n 2, 1) := by decide +kernel
theorem d_MO_putData_11 : decode prog_12_method_11_code 11 = .ok (.iadd, 1) := by decide +kernel
theorem d_MO_putData_12 : decode prog_12_method_11_code 12 = .ok (.istore 6, 2) := by decide +kernel
theorem d_MO_putData_14 : decode prog_12_method_11_code 14 = .ok (.aload_n 0, 1) := by decide +kernel
theorem d_MO_putData_15 : decode prog_12_method_11_code 15 = .ok (.iload 6, 2) := by decide +kernel
theorem d_MO_putData_17 : decode prog_12_method_11_code 17 = .ok (.invokevirtual 140, 3) := by decide +kernel
theorem d_MO_putData_20 : decode prog_12_method_11_code 20 = .ok (.aload_n 0, 1) := by decide +kernel
theorem d_MO_putData_21 : decode prog_12_method_11_code 21 = .ok (.getfield 131, 3) := by decide +kernel
theorem d_MO_putData_24 : decode prog_12_method_11_code 24 = .ok (.istore 7, 2) := by decide +kernel
theorem d_MO_putData_26 : decode prog_12_method_11_code 26 = .ok (.iconst 0, 1) := by decide +kernel
theorem d_MO_putData_27 : decode prog_12_method_11_code 27 = .ok (.istore 8, 2) := by decide +kernel
theorem d_MO_putData_29 : decode prog_12_method_11_code 29 = .ok (.iload 8, 2) := by decide +kernel
theorem d_MO_putData_31 : decode prog_12_method_11_code 31 = .ok (.iload 6, 2) := by decide +kernel
theorem d_MO_putData_33 : decode prog_12_method_11_code 33 = .ok (.invokestatic 148, 3) := by decide +kernel
theorem d_MO_putData_36 : decode prog_12_method_11_code 36 = .ok (.if_icmp .ge 14, 3) := by decide +kernel
theorem d_MO_putData_39 : decode prog_12_method_11_code 39 = .ok (.aload_n 0, 1) := by decide +kernel
theorem d_MO_putData_40 : decode prog_12_method_11_code 40 = .ok (.iconst 0, 1) := by decide +kernel
theorem d_MO_putData_41 : decode prog_12_method_11_code 41 = .ok (.invokevirtual 140, 3) := by decide +kernel
theorem d_MO_putData_44 : decode prog_12_method_11_code 44 = .ok (.iinc 8 1, 3) := by decide +kernel
theorem d_MO_putData_47 : decode prog_12_method_11_code 47 = .ok (.goto (-18), 3) := by decide +kernel
theorem d_MO_putData_50 : decode prog_12_method_11_code 50 = .ok (.iload_n 3, 1) := by decide +kernel
theorem d_MO_putData_51 : decode prog_12_method_11_code 51 = .ok (.ifCond .lt 53, 3) := by decide +kernel
theorem d_MO_putData_54 : decode prog_12_method_11_code 54 = .ok (.aload_n 0, 1) := by decide +kernel
theorem d_MO_putData_55 : decode prog_12_method_11_code 55 = .ok (.getfield 39, 3) := by decide +kernel
theorem d_MO_putData_58 : decode prog_12_method_11_code 58 = .ok (.iload 7, 2) := by decide +kernel
theorem d_MO_putData_60 : decode prog_12_method_11_code 60 = .ok (.iconst 5, 1) := by decide +kernel
theorem d_MO_putData_61 : decode prog_12_method_11_code 61 = .ok (.iastore, 1) := by decide +kernel
theorem d_MO_putData_62 : decode prog_12_method_11_code 62 = .ok (.aload_n 0, 1) := by decide +kernel
theorem d_MO_putData_63 : decode prog_12_method_11_code 63 = .ok (.getfield 39, 3) := by decide +kernel
theorem d_MO_putData_66 : decode prog_12_method_11_code 66 = .ok (.iload 7, 2) := by decide +kernel
theorem d_MO_putData_68 : decode prog_12_method_11_code 68 = .ok (.iconst 2, 1) := by decide +kernel
theorem d_MO_putData_69 : decode prog_12_method_11_code 69 = .ok (.iadd, 1) := by decide +kernel
theorem d_MO_putData_70 : decode prog_12_method_11_code 70 = .ok (.iconst 3, 1) := by decide +kernel
theorem d_MO_putData_71 : decode prog_12_method_11_code 71 = .ok (.iastore, 1) := by decide +kernel
theorem d_MO_putData_72 : decode prog_12_method_11_code 72 = .ok (.aload_n 0, 1) := by decide +kernel
theorem d_MO_putData_73 : decode prog_12_method_11_code 73 = .ok (.getfield 39, 3) := by decide +kernel
theorem d_MO_putData_76 : decode prog_12_method_11_code 76 = .ok (.iload 7, 2) := by decide +kernel
theorem d_MO_putData_78 : decode prog_12_method_11_code 78 = .ok (.iconst 3, 1) := by decide +kernel
theorem d_MO_putData_79 : decode prog_12_method_11_code 79 = .ok (.iadd, 1) := by decide +kernel
theorem d_MO_putData_80 : decode prog_12_method_11_code 80 = .ok (.iload_n 3, 1) := by decide +kernel
theorem d_MO_putData_81 : decode prog_12_method_11_code 81 = .ok (.iastore, 1) := by decide +kernel
theorem d_MO_putData_82 : decode prog_12_method_11_code 82 = .ok (.aload_n 0, 1) := by decide +kernel
theorem d_MO_putData_83 : decode prog_12_method_11_code 83 = .ok (.getfield 39, 3) := by decide +kernel
theorem d_MO_putData_86 : decode prog_12_method_11_code 86 = .ok (.iload 7, 2) := by decide +kernel
theorem d_MO_putData_88 : decode prog_12_method_11_code 88 = .ok (.iconst 4, 1) := by decide +kernel
theorem d_MO_putData_89 : decode prog_12_method_11_code 89 = .ok (.iadd, 1) := by decide +kernel
theorem d_MO_putData_90 : decode prog_12_method_11_code 90 = .ok (.iload 4, 2) := by decide +kernel
theorem d_MO_putData_92 : decode prog_12_method_11_code 92 = .ok (.iastore, 1) := by decide +kernel
theorem d_MO_putData_93 : decode prog_12_method_11_code 93 = .ok (.aload_n 0, 1) := by decide +kernel
theorem d_MO_putData_94 : decode prog_12_method_11_code 94 = .ok (.getfield 39, 3) := by decide +kernel
theorem d_MO_putData_97 : decode prog_12_method_11_code 97 = .ok (.iload 7, 2) := by decide +kernel
theorem d_MO_putData_99 : decode prog_12_method_11_code 99 = .ok (.iconst 5, 1) := by decide +kernel
theorem d_MO_putData_100 : decode prog_12_method_11_code 100 = .ok (.iadd, 1) := by decide +kernel
theorem d_MO_putData_101 : decode prog_12_method_11_code 101 = .ok (.iload 5, 2) := by decide +kernel
theorem d_MO_putData_103 : decode prog_12_method_11_code 103 = .ok (.iastore, 1) := by decide +kernel
theorem d_MO_putData_104 : decode prog_12_method_11_code 104 = .ok (.iload_n 3, 1) := by decide +kernel
theorem d_MO_putData_105 : decode prog_12_method_11_code 105 = .ok (.ifCond .ge 7, 3) := by decide +kernel
theorem d_MO_putData_108 : decode prog_12_method_11_code 108 = .ok (.iconst 0, 1) := by decide +kernel
theorem d_MO_putData_109 : decode prog_12_method_11_code 109 = .ok (.goto 5, 3) := by decide +kernel
theorem d_MO_putData_112 : decode prog_12_method_11_code 112 = .ok (.bipush 49, 2) := by decide +kernel
theorem d_MO_putData_114 : decode prog_12_method_11_code 114 = .ok (.istore 8, 2) := by decide +kernel
theorem d_MO_putData_116 : decode prog_12_method_11_code 116 = .ok (.iconst 0, 1) := by decide +kernel
theorem d_MO_putData_117 : decode prog_12_method_11_code 117 = .ok (.istore 9, 2) := by decide +kernel
theorem d_MO_putData_119 : decode prog_12_method_11_code 119 = .ok (.iload 9, 2) := by decide +kernel
theorem d_MO_putData_121 : decode prog_12_method_11_code 121 = .ok (.iload_n 2, 1) := by decide +kernel
theorem d_MO_putData_122 : decode prog_12_method_11_code 122 = .ok (.if_icmp .ge 85, 3) := by decide +kernel
theorem d_MO_putData_125 : decode prog_12_method_11_code 125 = .ok (.iconst 0, 1) := by decide +kernel
theorem d_MO_putData_126 : decode prog_12_method_11_code 126 = .ok (.istore 10, 2) := by decide +kernel
theorem d_MO_putData_128 : decode prog_12_method_11_code 128 = .ok (.iload 10, 2) := by decide +kernel
theorem d_MO_putData_130 : decode prog_12_method_11_code 130 = .ok (.bipush 7, 2) := by decide +kernel
theorem d_MO_putData_132 : decode prog_12_method_11_code 132 = .ok (.if_icmp .ge 69, 3) := by decide +kernel
theorem d_MO_putData_135 : decode prog_12_method_11_code 135 = .ok (.iload 8, 2) := by decide +kernel
theorem d_MO_putData_137 : decode prog_12_method_11_code 137 = .ok (.bipush 7, 2) := by decide +kernel
theorem d_MO_putData_139 : decode prog_12_method_11_code 139 = .ok (.iload 9, 2) := by decide +kernel
theorem d_MO_putData_141 : decode prog_12_method_11_code 141 = .ok (.imul, 1) := by decide +kernel
theorem d_MO_putData_142 : decode prog_12_method_11_code 142 = .ok (.iadd, 1) := by decide +kernel
theorem d_MO_putData_143 : decode prog_12_method_11_code 143 = .ok (.iload 10, 2) := by decide +kernel
theorem d_MO_putData_145 : decode prog_12_method_11_code 145 = .ok (.iadd, 1) := by decide +kernel
theorem d_MO_putData_146 : decode prog_12_method_11_code 146 = .ok (.istore 11, 2) := by decide +kernel
theorem d_MO_putData_148 : decode prog_12_method_11_code 148 = .ok (.aload_n 0, 1) := by decide +kernel
theorem d_MO_putData_149 : decode prog_12_method_11_code 149 = .ok (.getfield 39, 3) := by decide +kernel
theorem d_MO_putData_152 : decode prog_12_method_11_code 152 = .ok (.iload 7, 2) := by decide +kernel
theorem d_MO_putData_154 : decode prog_12_method_11_code 154 = .ok (.iload 11, 2) := by decide +kernel
theorem d_MO_putData_156 : decode prog_12_method_11_code 156 = .ok (.bipush 8, 2) := by decide +kernel
theorem d_MO_putData_158 : decode prog_12_method_11_code 158 = .ok (.idiv, 1) := by decide +kernel
theorem d_MO_putData_159 : decode prog_12_method_11_code 159 = .ok (.iadd, 1) := by decide +kernel
theorem d_MO_putData_160 : decode prog_12_method_11_code 160 = .ok (.aload_n 0, 1) := by decide +kernel
theorem d_MO_putData_161 : decode prog_12_method_11_code 161 = .ok (.getfield 39, 3) := by decide +kernel
theorem d_MO_putData_164 : decode prog_12_method_11_code 164 = .ok (.iload 7, 2) := by decide +kernel
theorem d_MO_putData_166 : decode prog_12_method_11_code 166 = .ok (.iload 11, 2) := by decide +kernel
theorem d_MO_putData_168 : decode prog_12_method_11_code 168 = .ok (.bipush 8, 2) := by decide +kernel
theorem d_MO_putData_170 : decode prog_12_method_11_code 170 = .ok (.idiv, 1) := by decide +kernel
theorem d_MO_putData_171 : decode prog_12_method_11_code 171 = .ok (.iadd, 1) := by decide +kernel
theorem d_MO_putData_172 : decode prog_12_method_11_code 172 = .ok (.iaload, 1) := by decide +kernel
theorem d_MO_putData_173 : decode prog_12_method_11_code 173 = .ok (.aload_n 0, 1) := by decide +kernel
theorem d_MO_putData_174 : decode prog_12_method_11_code 174 = .ok (.getfield 13, 3) := by decide +kernel
theorem d_MO_putData_177 : decode prog_12_method_11_code 177 = .ok (.iload_n 1, 1) := by decide +kernel
theorem d_MO_putData_178 : decode prog_12_method_11_code 178 = .ok (.iload 9, 2) := by decide +kernel
theorem d_MO_putData_180 : decode prog_12_method_11_code 180 = .ok (.iadd, 1) := by decide +kernel
theorem d_MO_putData_181 : decode prog_12_method_11_code 181 = .ok (.iaload, 1) := by decide +kernel
theorem d_MO_putData_182 : decode prog_12_method_11_code 182 = .ok (.iload 10, 2) := by decide +kernel
theorem d_MO_putData_184 : decode prog_12_method_11_code 184 = .ok (.ishr, 1) := by decide +kernel
theorem d_MO_putData_185 : decode prog_12_method_11_code 185 = .ok (.iconst 1, 1) := by decide +kernel
theorem d_MO_putData_186 : decode prog_12_method_11_code 186 = .ok (.iand, 1) := by decide +kernel
theorem d_MO_putData_187 : decode prog_12_method_11_code 187 = .ok (.iload 11, 2) := by decide +kernel
theorem d_MO_putData_189 : decode prog_12_method_11_code 189 = .ok (.bipush 8, 2) := by decide +kernel
theorem d_MO_putData_191 : decode prog_12_method_11_code 191 = .ok (.irem, 1) := by decide +kernel
theorem d_MO_putData_192 : decode prog_12_method_11_code 192 = .ok (.ishl, 1) := by decide +kernel
theorem d_MO_putData_193 : decode prog_12_method_11_code 193 = .ok (.ior, 1) := by decide +kernel
theorem d_MO_putData_194 : decode prog_12_method_11_code 194 = .ok (.iastore, 1) := by decide +kernel
theorem d_MO_putData_195 : decode prog_12_method_11_code 195 = .ok (.iinc 10 1, 3) := by decide +kernel
theorem d_MO_putData_198 : decode prog_12_method_11_code 198 = .ok (.goto (-70), 3) := by decide +kernel
theorem d_MO_putData_201 : decode prog_12_method_11_code 201 = .ok (.iinc 9 1, 3) := by decide +kernel
theorem d_MO_putData_204 : decode prog_12_method_11_code 204 = .ok (.goto (-85), 3) := by decide +kernel
theorem d_MO_putData_207 : decode prog_12_method_11_code 207 = .ok (.return_, 1) := by decide +kernel
theorem d_MO_putSubmit_0 : decode prog_12_method_12_code 0 = .ok (.aload_n 0, 1) := by decide +kernel
theorem d_MO_putSubmit_1 : decode prog_12_method_12_code 1 = .ok (.iconst 0, 1) := by decide +kernel
theorem d_MO_putSubmit_2 : decode prog_12_method_12_code 2 = .ok (.putfield 131, 3) := by decide +kernel
theorem d_MO_putSubmit_5 : decode prog_12_method_12_code 5 = .ok (.aload_n 0, 1) := by decide +kernel
theorem d_MO_putSubmit_6 : decode prog_12_method_12_code 6 = .ok (.bipush 17, 2) := by decide +kernel
theorem d_MO_putSubmit_8 : decode prog_12_method_12_code 8 = .ok (.iload_n 1, 1) := by decide +kernel
theorem d_MO_putSubmit_9 : decode prog_12_method_12_code 9 = .ok (.ifCond .eq 8, 3) := by decide +kernel
theorem d_MO_putSubmit_12 : decode prog_12_method_12_code 12 = .ok (.bipush 32, 2) := by decide +kernel
theorem d_MO_putSubmit_14 : decode prog_12_method_12_code 14 = .ok (.goto 4, 3) := by decide +kernel
theorem d_MO_putSubmit_17 : decode prog_12_method_12_code 17 = .ok (.iconst 0, 1) := by decide +kernel
theorem d_MO_putSubmit_18 : decode prog_12_method_12_code 18 = .ok (.iadd, 1) := by decide +kernel
theorem d_MO_putSubmit_19 : decode prog_12_method_12_code 19 = .ok (.iload 8, 2) := by decide +kernel
theorem d_MO_putSubmit_21 : decode prog_12_method_12_code 21 = .ok (.ifCond .ge 7, 3) := by decide +kernel
theorem d_MO_putSubmit_24 : decode prog_12_method_12_code 24 = .ok (.iconst 0, 1) := by decide +kernel
theorem d_MO_putSubmit_25 : decode prog_12_method_12_code 25 = .ok (.goto 5, 3) := by decide +kernel
theorem d_MO_putSubmit_28 : decode prog_12_method_12_code 28 = .ok (.bipush 64, 2) := by decide +kernel
theorem d_MO_putSubmit_30 : decode prog_12_method_12_code 30 = .ok (.iadd, 1) := by decide +kernel
theorem d_MO_putSubmit_31 : decode prog_12_method_12_code 31 = .ok (.invokevirtual 140, 3) := by decide +kernel
theorem d_MO_putSubmit_34 : decode prog_12_method_12_code 34 = .ok (.aload_n 0, 1) := by decide +kernel
theorem d_MO_putSubmit_35 : decode prog_12_method_12_code 35 = .ok (.iload_n 2, 1) := by decide +kernel
theorem d_MO_putSubmit_36 : decode prog_12_method_12_code 36 = .ok (.invokevirtual 140, 3) := by decide +kernel
theorem d_MO_putSubmit_39 : decode prog_12_method_12_code 39 = .ok (.aload_n 0, 1) := by decide +kernel
theorem d_MO_putSubmit_40 : decode prog_12_method_12_code 40 = .ok (.lload_n 3, 1) := by decide +kernel
theorem d_MO_putSubmit_41 : decode prog_12_method_12_code 41 = .ok (.invokevirtual 151, 3) := by decide +kernel
theorem d_MO_putSubmit_44 : decode prog_12_method_12_code 44 = .ok (.aload_n 0, 1) := by decide +kernel
theorem d_MO_putSubmit_45 : decode prog_12_method_12_code 45 = .ok (.iconst 0, 1) := by decide +kernel
theorem d_MO_putSubmit_46 : decode prog_12_method_12_code 46 = .ok (.invokevirtual 140, 3) := by decide +kernel
theorem d_MO_putSubmit_49 : decode prog_12_method_12_code 49 = .ok (.aload_n 0, 1) := by decide +kernel
theorem d_MO_putSubmit_50 : decode prog_12_method_12_code 50 = .ok (.iconst 0, 1) := by decide +kernel
theorem d_MO_putSubmit_51 : decode prog_12_method_12_code 51 = .ok (.invokevirtual 140, 3) := by decide +kernel
theorem d_MO_putSubmit_54 : decode prog_12_method_12_code 54 = .ok (.aload_n 0, 1) := by decide +kernel
theorem d_MO_putSubmit_55 : decode prog_12_method_12_code 55 = .ok (.iload 5, 2) := by decide +kernel
theorem d_MO_putSubmit_57 : decode prog_12_method_12_code 57 = .ok (.invokevirtual 140, 3) := by decide +kernel
theorem d_MO_putSubmit_60 : decode prog_12_method_12_code 60 = .ok (.aload_n 0, 1) := by decide +kernel
theorem d_MO_putSubmit_61 : decode prog_12_method_12_code 61 = .ok (.iload 6, 2) := by decide +kernel
theorem d_MO_putSubmit_63 : decode prog_12_method_12_code 63 = .ok (.iload 7, 2) := by decide +kernel
theorem d_MO_putSubmit_65 : decode prog_12_method_12_code 65 = .ok (.iload 8, 2) := by decide +kernel
theorem d_MO_putSubmit_67 : decode prog_12_method_12_code 67 = .ok (.iload 9, 2) := by decide +kernel
theorem d_MO_putSubmit_69 : decode prog_12_method_12_code 69 = .ok (.iload 10, 2) := by decide +kernel
theorem d_MO_putSubmit_71 : decode prog_12_method_12_code 71 = .ok (.invokevirtual 155, 3) := by decide +kernel
theorem d_MO_putSubmit_74 : decode prog_12_method_12_code 74 = .ok (.return_, 1) := by decide +kernel
theorem d_MO_baseOf_0 : decode prog_12_method_13_code 0 = .ok (.iload_n 0, 1) := by decide +kernel
theorem d_MO_baseOf_1 : decode prog_12_method_13_code 1 = .ok (.ifCond .ne 7, 3) := by decide +kernel
theorem d_MO_baseOf_4 : decode prog_12_method_13_code 4 = .ok (.iconst 0, 1) := by decide +kernel
theorem d_MO_baseOf_5 : decode prog_12_method_13_code 5 = .ok (.goto 29, 3) := by decide +kernel
theorem d_MO_baseOf_8 : decode prog_12_method_13_code 8 = .ok (.iload_n 0, 1) := by decide +kernel
theorem d_MO_baseOf_9 : decode prog_12_method_13_code 9 = .ok (.iconst 5, 1) := by decide +kernel
theorem d_MO_baseOf_10 : decode prog_12_method_13_code 10 = .ok (.if_icmp .ge 15, 3) := by decide +kernel
theorem d_MO_baseOf_13 : decode prog_12_method_13_code 13 = .ok (.bipush 8, 2) := by decide +kernel
theorem d_MO_baseOf_15 : decode prog_12_method_13_code 15 = .ok (.bipush 6, 2) := by decide +kernel
theorem d_MO_baseOf_17 : decode prog_12_method_13_code 17 = .ok (.iload_n 0, 1) := by decide +kernel
theorem d_MO_baseOf_18 : decode prog_12_method_13_code 18 = .ok (.iconst 1, 1) := by decide +kernel
theorem d_MO_baseOf_19 : decode prog_12_method_13_code 19 = .ok (.isub, 1) := by decide +kernel
theorem d_MO_baseOf_20 : decode prog_12_method_13_code 20 = .ok (.imul, 1) := by decide +kernel
theorem d_MO_baseOf_21 : decode prog_12_method_13_code 21 = .ok (.iadd, 1) := by decide +kernel
theorem d_MO_baseOf_22 : decode prog_12_method_13_code 22 = .ok (.goto 12, 3) := by decide +kernel
theorem d_MO_baseOf_25 : decode prog_12_method_13_code 25 = .ok (.bipush 32, 2) := by decide +kernel
theorem d_MO_baseOf_27 : decode prog_12_method_13_code 27 = .ok (.bipush 6, 2) := by decide +kernel
theorem d_MO_baseOf_29 : decode prog_12_method_13_code 29 = .ok (.iload_n 0, 1) := by decide +kernel
theorem d_MO_baseOf_30 : decode prog_12_method_13_code 30 = .ok (.iconst 5, 1) := by decide +kernel
theorem d_MO_baseOf_31 : decode prog_12_method_13_code 31 = .ok (.isub, 1) := by decide +kernel
theorem d_MO_baseOf_32 : decode prog_12_method_13_code 32 = .ok (.imul, 1) := by decide +kernel
theorem d_MO_baseOf_33 : decode prog_12_method_13_code 33 = .ok (.iadd, 1) := by decide +kernel
theorem d_MO_baseOf_34 : decode prog_12_method_13_code 34 = .ok (.ireturn, 1) := by decide +kernel