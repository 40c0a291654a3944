theorem d_MO_deal_0 : decode prog_12_method_40_code 0 = .ok (.aload_n 0, 1) := by decide +kernel
theorem d_MO_deal_1 : decode prog_12_method_40_code 1 = .ok (.iload_n 1, 1) := by decide +kernel
theorem d_MO_deal_2 : decode prog_12_method_40_code 2 = .ok (.invokevirtual 232, 3) := by decide +kernel
theorem d_MO_deal_5 : decode prog_12_method_40_code 5 = .ok (.istore_n 2, 1) := by decide +kernel
theorem d_MO_deal_6 : decode prog_12_method_40_code 6 = .ok (.iload_n 2, 1) := by decide +kernel
theorem d_MO_deal_7 : decode prog_12_method_40_code 7 = .ok (.aload_n 0, 1) := by decide +kernel
theorem d_MO_deal_8 : decode prog_12_method_40_code 8 = .ok (.getfield 75, 3) := by decide +kernel
theorem d_MO_deal_11 : decode prog_12_method_40_code 11 = .ok (.iload_n 1, 1) := by decide +kernel
theorem d_MO_deal_12 : decode prog_12_method_40_code 12 = .ok (.iaload, 1) := by decide +kernel
theorem d_MO_deal_13 : decode prog_12_method_40_code 13 = .ok (.if_icmp .ne 12, 3) := by decide +kernel
theorem d_MO_deal_16 : decode prog_12_method_40_code 16 = .ok (.aload_n 0, 1) := by decide +kernel
theorem d_MO_deal_17 : decode prog_12_method_40_code 17 = .ok (.iload_n 1, 1) := by decide +kernel
theorem d_MO_deal_18 : decode prog_12_method_40_code 18 = .ok (.iconst 2, 1) := by decide +kernel
theorem d_MO_deal_19 : decode prog_12_method_40_code 19 = .ok (.iload_n 2, 1) := by decide +kernel
theorem d_MO_deal_20 : decode prog_12_method_40_code 20 = .ok (.invokevirtual 235, 3) := by decide +kernel
theorem d_MO_deal_23 : decode prog_12_method_40_code 23 = .ok (.iconst 1, 1) := by decide +kernel
theorem d_MO_deal_24 : decode prog_12_method_40_code 24 = .ok (.ireturn, 1) := by decide +kernel
theorem d_MO_deal_25 : decode prog_12_method_40_code 25 = .ok (.aload_n 0, 1) := by decide +kernel
theorem d_MO_deal_26 : decode prog_12_method_40_code 26 = .ok (.getfield 81, 3) := by decide +kernel
theorem d_MO_deal_29 : decode prog_12_method_40_code 29 = .ok (.iload_n 1, 1) := by decide +kernel
theorem d_MO_deal_30 : decode prog_12_method_40_code 30 = .ok (.dup2, 1) := by decide +kernel
theorem d_MO_deal_31 : decode prog_12_method_40_code 31 = .ok (.iaload, 1) := by decide +kernel
theorem d_MO_deal_32 : decode prog_12_method_40_code 32 = .ok (.iconst 1, 1) := by decide +kernel
theorem d_MO_deal_33 : decode prog_12_method_40_code 33 = .ok (.iadd, 1) := by decide +kernel
theorem d_MO_deal_34 : decode prog_12_method_40_code 34 = .ok (.iastore, 1) := by decide +kernel
theorem d_MO_deal_35 : decode prog_12_method_40_code 35 = .ok (.aload_n 0, 1) := by decide +kernel
theorem d_MO_deal_36 : decode prog_12_method_40_code 36 = .ok (.aload_n 0, 1) := by decide +kernel
theorem d_MO_deal_37 : decode prog_12_method_40_code 37 = .ok (.getfield 63, 3) := by decide +kernel
theorem d_MO_deal_40 : decode prog_12_method_40_code 40 = .ok (.iload_n 1, 1) := by decide +kernel
theorem d_MO_deal_41 : decode prog_12_method_40_code 41 = .ok (.laload, 1) := by decide +kernel
theorem d_MO_deal_42 : decode prog_12_method_40_code 42 = .ok (.invokevirtual 239, 3) := by decide +kernel
theorem d_MO_deal_45 : decode prog_12_method_40_code 45 = .ok (.istore_n 3, 1) := by decide +kernel
theorem d_MO_deal_46 : decode prog_12_method_40_code 46 = .ok (.iload_n 3, 1) := by decide +kernel
theorem d_MO_deal_47 : decode prog_12_method_40_code 47 = .ok (.iconst 4, 1) := by decide +kernel
theorem d_MO_deal_48 : decode prog_12_method_40_code 48 = .ok (.if_icmp .ne 12, 3) := by decide +kernel
theorem d_MO_deal_51 : decode prog_12_method_40_code 51 = .ok (.aload_n 0, 1) := by decide +kernel
theorem d_MO_deal_52 : decode prog_12_method_40_code 52 = .ok (.iload_n 1, 1) := by decide +kernel
theorem d_MO_deal_53 : decode prog_12_method_40_code 53 = .ok (.iconst 3, 1) := by decide +kernel
theorem d_MO_deal_54 : decode prog_12_method_40_code 54 = .ok (.iload_n 2, 1) := by decide +kernel
theorem d_MO_deal_55 : decode prog_12_method_40_code 55 = .ok (.invokevirtual 235, 3) := by decide +kernel
theorem d_MO_deal_58 : decode prog_12_method_40_code 58 = .ok (.iconst 1, 1) := by decide +kernel
theorem d_MO_deal_59 : decode prog_12_method_40_code 59 = .ok (.ireturn, 1) := by decide +kernel
theorem d_MO_deal_60 : decode prog_12_method_40_code 60 = .ok (.aload_n 0, 1) := by decide +kernel
theorem d_MO_deal_61 : decode prog_12_method_40_code 61 = .ok (.getfield 20, 3) := by decide +kernel
theorem d_MO_deal_64 : decode prog_12_method_40_code 64 = .ok (.iload_n 3, 1) := by decide +kernel
theorem d_MO_deal_65 : decode prog_12_method_40_code 65 = .ok (.baload, 1) := by decide +kernel
theorem d_MO_deal_66 : decode prog_12_method_40_code 66 = .ok (.ifCond .eq 31, 3) := by decide +kernel
theorem d_MO_deal_69 : decode prog_12_method_40_code 69 = .ok (.aload_n 0, 1) := by decide +kernel
theorem d_MO_deal_70 : decode prog_12_method_40_code 70 = .ok (.getfield 51, 3) := by decide +kernel
theorem d_MO_deal_73 : decode prog_12_method_40_code 73 = .ok (.iconst 1, 1) := by decide +kernel
theorem d_MO_deal_74 : decode prog_12_method_40_code 74 = .ok (.iload_n 3, 1) := by decide +kernel
theorem d_MO_deal_75 : decode prog_12_method_40_code 75 = .ok (.iadd, 1) := by decide +kernel
theorem d_MO_deal_76 : decode prog_12_method_40_code 76 = .ok (.iaload, 1) := by decide +kernel
theorem d_MO_deal_77 : decode prog_12_method_40_code 77 = .ok (.bipush 6, 2) := by decide +kernel
theorem d_MO_deal_79 : decode prog_12_method_40_code 79 = .ok (.if_icmp .ge 18, 3) := by decide +kernel
theorem d_MO_deal_82 : decode prog_12_method_40_code 82 = .ok (.aload_n 0, 1) := by decide +kernel
theorem d_MO_deal_83 : decode prog_12_method_40_code 83 = .ok (.iload_n 1, 1) := by decide +kernel
theorem d_MO_deal_84 : decode prog_12_method_40_code 84 = .ok (.iload_n 3, 1) := by decide +kernel
theorem d_MO_deal_85 : decode prog_12_method_40_code 85 = .ok (.invokevirtual 243, 3) := by decide +kernel
theorem d_MO_deal_88 : decode prog_12_method_40_code 88 = .ok (.aload_n 0, 1) := by decide +kernel
theorem d_MO_deal_89 : decode prog_12_method_40_code 89 = .ok (.iload_n 1, 1) := by decide +kernel
theorem d_MO_deal_90 : decode prog_12_method_40_code 90 = .ok (.iconst 1, 1) := by decide +kernel
theorem d_MO_deal_91 : decode prog_12_method_40_code 91 = .ok (.iload_n 2, 1) := by decide +kernel
theorem d_MO_deal_92 : decode prog_12_method_40_code 92 = .ok (.invokevirtual 235, 3) := by decide +kernel
theorem d_MO_deal_95 : decode prog_12_method_40_code 95 = .ok (.iconst 1, 1) := by decide +kernel
theorem d_MO_deal_96 : decode prog_12_method_40_code 96 = .ok (.ireturn, 1) := by decide +kernel
theorem d_MO_deal_97 : decode prog_12_method_40_code 97 = .ok (.aload_n 0, 1) := by decide +kernel
theorem d_MO_deal_98 : decode prog_12_method_40_code 98 = .ok (.getfield 78, 3) := by decide +kernel
theorem d_MO_deal_101 : decode prog_12_method_40_code 101 = .ok (.iload_n 1, 1) := by decide +kernel
theorem d_MO_deal_102 : decode prog_12_method_40_code 102 = .ok (.iload_n 2, 1) := by decide +kernel
theorem d_MO_deal_103 : decode prog_12_method_40_code 103 = .ok (.aload_n 0, 1) := by decide +kernel
theorem d_MO_deal_104 : decode prog_12_method_40_code 104 = .ok (.getfield 81, 3) := by decide +kernel
theorem d_MO_deal_107 : decode prog_12_method_40_code 107 = .ok (.iload_n 1, 1) := by decide +kernel
theorem d_MO_deal_108 : decode prog_12_method_40_code 108 = .ok (.iaload, 1) := by decide +kernel
theorem d_MO_deal_109 : decode prog_12_method_40_code 109 = .ok (.iconst 1, 1) := by decide +kernel
theorem d_MO_deal_110 : decode prog_12_method_40_code 110 = .ok (.if_icmp .ne 7, 3) := by decide +kernel
theorem d_MO_deal_113 : decode prog_12_method_40_code 113 = .ok (.iconst 1, 1) := by decide +kernel
theorem d_MO_deal_114 : decode prog_12_method_40_code 114 = .ok (.goto 19, 3) := by decide +kernel
theorem d_MO_deal_117 : decode prog_12_method_40_code 117 = .ok (.aload_n 0, 1) := by decide +kernel
theorem d_MO_deal_118 : decode prog_12_method_40_code 118 = .ok (.getfield 81, 3) := by decide +kernel
theorem d_MO_deal_121 : decode prog_12_method_40_code 121 = .ok (.iload_n 1, 1) := by decide +kernel
theorem d_MO_deal_122 : decode prog_12_method_40_code 122 = .ok (.iaload, 1) := by decide +kernel
theorem d_MO_deal_123 : decode prog_12_method_40_code 123 = .ok (.iconst 2, 1) := by decide +kernel
theorem d_MO_deal_124 : decode prog_12_method_40_code 124 = .ok (.if_icmp .ne 7, 3) := by decide +kernel
theorem d_MO_deal_127 : decode prog_12_method_40_code 127 = .ok (.iconst 4, 1) := by decide +kernel
theorem d_MO_deal_128 : decode prog_12_method_40_code 128 = .ok (.goto 5, 3) := by decide +kernel
theorem d_MO_deal_131 : decode prog_12_method_40_code 131 = .ok (.bipush 16, 2) := by decide +kernel
theorem d_MO_deal_133 : decode prog_12_method_40_code 133 = .ok (.iadd, 1) := by decide +kernel
theorem d_MO_deal_134 : decode prog_12_method_40_code 134 = .ok (.iastore, 1) := by decide +kernel
theorem d_MO_deal_135 : decode prog_12_method_40_code 135 = .ok (.iconst 0, 1) := by decide +kernel
theorem d_MO_deal_136 : decode prog_12_method_40_code 136 = .ok (.ireturn, 1) := by decide +kernel
theorem d_MO_advance_0 : decode prog_12_method_41_code 0 = .ok (.iload_n 1, 1) := by decide +kernel
theorem d_MO_advance_1 : decode prog_12_method_41_code 1 = .ok (.ifCond .lt 9, 3) := by decide +kernel
theorem d_MO_advance_4 : decode prog_12_method_41_code 4 = .ok (.iload_n 1, 1) := by decide +kernel
theorem d_MO_advance_5 : decode prog_12_method_41_code 5 = .ok (.ldc 246, 2) := by decide +kernel
theorem d_MO_advance_7 : decode prog_12_method_41_code 7 = .ok (.if_icmp .le 5, 3) := by decide +kernel
theorem d_MO_advance_10 : decode prog_12_method_41_code 10 = .ok (.iconst (-1), 1) := by decide +kernel
theorem d_MO_advance_11 : decode prog_12_method_41_code 11 = .ok (.ireturn, 1) := by decide +kernel
theorem d_MO_advance_12 : decode prog_12_method_41_code 12 = .ok (.aload_n 0, 1) := by decide +kernel
theorem d_MO_advance_13 : decode prog_12_method_41_code 13 = .ok (.aload_n 0, 1) := by decide +kernel
theorem d_MO_advance_14 : decode prog_12_method_41_code 14 = .ok (.getfield 226, 3) := by decide +kernel
theorem d_MO_advance_17 : decode prog_12_method_41_code 17 = .ok (.iload_n 1, 1) := by decide +kernel
theorem d_MO_advance_18 : decode prog_12_method_41_code 18 = .ok (.iadd, 1) := by decide +kernel
theorem d_MO_advance_19 : decode prog_12_method_41_code 19 = .ok (.putfield 226, 3) := by decide +kernel
theorem d_MO_advance_22 : decode prog_12_method_41_code 22 = .ok (.iconst 0, 1) := by decide +kernel
theorem d_MO_advance_23 : decode prog_12_method_41_code 23 = .ok (.istore_n 2, 1) := by decide +kernel
theorem d_MO_advance_24 : decode prog_12_method_41_code 24 = .ok (.aload_n 0, 1) := by decide +kernel
theorem d_MO_advance_25 : decode prog_12_method_41_code 25 = .ok (.invokevirtual 247, 3) := by decide +kernel
theorem d_MO_advance_28 : decode prog_12_method_41_code 28 = .ok (.istore_n 3, 1) := by decide +kernel
theorem d_MO_advance_29 : decode prog_12_method_41_code 29 = .ok (.iload_n 3, 1) := by decide +kernel
theorem d_MO_advance_30 : decode prog_12_method_41_code 30 = .ok (.ifCond .lt 39, 3) := by decide +kernel
theorem d_MO_advance_33 : decode prog_12_method_41_code 33 = .ok (.aload_n 0, 1) := by decide +kernel
theorem d_MO_advance_34 : decode prog_12_method_41_code 34 = .ok (.iload_n 3, 1) := by decide +kernel
theorem d_MO_advance_35 : decode prog_12_method_41_code 35 = .ok (.invokevirtual 232, 3) := by decide +kernel
theorem d_MO_advance_38 : decode prog_12_method_41_code 38 = .ok (.aload_n 0, 1) := by decide +kernel
theorem d_MO_advance_39 : decode prog_12_method_41_code 39 = .ok (.getfield 226, 3) := by decide +kernel
theorem d_MO_advance_42 : decode prog_12_method_41_code 42 = .ok (.if_icmp .gt 27, 3) := by decide +kernel
theorem d_MO_advance_45 : decode prog_12_method_41_code 45 = .ok (.aload_n 0, 1) := by decide +kernel
theorem d_MO_advance_46 : decode prog_12_method_41_code 46 = .ok (.iload_n 3, 1) := by decide +kernel
theorem d_MO_advance_47 : decode prog_12_method_41_code 47 = .ok (.invokevirtual 250, 3) := by decide +kernel
theorem d_MO_advance_50 : decode prog_12_method_41_code 50 = .ok (.ifCond .eq 9, 3) := by decide +kernel
theorem d_MO_advance_53 : decode prog_12_method_41_code 53 = .ok (.iload_n 2, 1) := by decide +kernel
theorem d_MO_advance_54 : decode prog_12_method_41_code 54 = .ok (.iconst 1, 1) := by decide +kernel
theorem d_MO_advance_55 : decode prog_12_method_41_code 55 = .ok (.iadd, 1) := by decide +kernel
theorem d_MO_advance_56 : decode prog_12_method_41_code 56 = .ok (.goto 4, 3) := by decide +kernel
theorem d_MO_advance_59 : decode prog_12_method_41_code 59 = .ok (.iload_n 2, 1) := by decide +kernel
theorem d_MO_advance_60 : decode prog_12_method_41_code 60 = .ok (.istore_n 2, 1) := by decide +kernel
theorem d_MO_advance_61 : decode prog_12_method_41_code 61 = .ok (.aload_n 0, 1) := by decide +kernel
theorem d_MO_advance_62 : decode prog_12_method_41_code 62 = .ok (.invokevirtual 247, 3) := by decide +kernel
theorem d_MO_advance_65 : decode prog_12_method_41_code 65 = .ok (.istore_n 3, 1) := by decide +kernel
theorem d_MO_advance_66 : decode prog_12_method_41_code 66 = .ok (.goto (-37), 3) := by decide +kernel
theorem d_MO_advance_69 : decode prog_12_method_41_code 69 = .ok (.iload_n 2, 1) := by decide +kernel
theorem d_MO_advance_70 : decode prog_12_method_41_code 70 = .ok (.ireturn, 1) := by decide +kernel
theorem d_MO_decode_0 : decode prog_12_method_42_code 0 = .ok (.iconst 0, 1) := by decide +kernel
theorem d_MO_decode_1 : decode prog_12_method_42_code 1 = .ok (.istore_n 3, 1) := by decide +kernel
theorem d_MO_decode_2 : decode prog_12_method_42_code 2 = .ok (.iconst 0, 1) := by decide +kernel
theorem d_MO_decode_3 : decode prog_12_method_42_code 3 = .ok (.istore 4, 2) := by decide +kernel
theorem d_MO_decode_5 : decode prog_12_method_42_code 5 = .ok (.iload 4, 2) := by decide +kernel
theorem d_MO_decode_7 : decode prog_12_method_42_code 7 = .ok (.aload_n 0, 1) := by decide +kernel
theorem d_MO_decode_8 : decode prog_12_method_42_code 8 = .ok (.getfield 124, 3) := by decide +kernel
theorem d_MO_decode_11 : decode prog_12_method_42_code 11 = .ok (.if_icmp .ge 101, 3) := by decide +kernel
theorem d_MO_decode_14 : decode prog_12_method_42_code 14 = .ok (.aload_n 0, 1) := by decide +kernel
theorem d_MO_decode_15 : decode prog_12_method_42_code 15 = .ok (.getfield 13, 3) := by decide +kernel
theorem d_MO_decode_18 : decode prog_12_method_42_code 18 = .ok (.iload 4, 2) := by decide +kernel
theorem d_MO_decode_20 : decode prog_12_method_42_code 20 = .ok (.iaload, 1) := by decide +kernel
theorem d_MO_decode_21 : decode prog_12_method_42_code 21 = .ok (.bipush 27, 2) := by decide +kernel
theorem d_MO_decode_23 : decode prog_12_method_42_code 23 = .ok (.if_icmp .ne 18, 3) := by decide +kernel
theorem d_MO_decode_26 : decode prog_12_method_42_code 26 = .ok (.aload_n 0, 1) := by decide +kernel
theorem d_MO_decode_27 : decode prog_12_method_42_code 27 = .ok (.getfield 13, 3) := by decide +kernel
theorem d_MO_decode_30 : decode prog_12_method_42_code 30 = .ok (.iload 4, 2) := by decide +kernel
theorem d_MO_decode_32 : decode prog_12_method_42_code 32 = .ok (.iconst 1, 1) := by decide +kernel
theorem d_MO_decode_33 : decode prog_12_method_42_code 33 = .ok (.iadd, 1) := by decide +kernel
theorem d_MO_decode_34 : decode prog_12_method_42_code 34 = .ok (.iaload, 1) := by decide +kernel
theorem d_MO_decode_35 : decode prog_12_method_42_code 35 = .ok (.invokestatic 128, 3) := by decide +kernel
theorem d_MO_decode_38 : decode prog_12_method_42_code 38 = .ok (.goto 13, 3) := by decide +kernel
theorem d_MO_decode_41 : decode prog_12_method_42_code 41 = .ok (.aload_n 0, 1) := by decide +kernel
theorem d_MO_decode_42 : decode prog_12_method_42_code 42 = .ok (.getfield 13, 3) := by decide +kernel
theorem d_MO_decode_45 : decode prog_12_method_42_code 45 = .ok (.iload 4, 2) := by decide +kernel
theorem d_MO_decode_47 : decode prog_12_method_42_code 47 = .ok (.iaload, 1) := by decide +kernel
theorem d_MO_decode_48 : decode prog_12_method_42_code 48 = .ok (.invokestatic 121, 3) := by decide +kernel
theorem d_MO_decode_51 : decode prog_12_method_42_code 51 = .ok (.istore 5, 2) := by decide +kernel
theorem d_MO_decode_53 : decode prog_12_method_42_code 53 = .ok (.aload_n 0, 1) := by decide +kernel
theorem d_MO_decode_54 : decode prog_12_method_42_code 54 = .ok (.getfield 13, 3) := by decide +kernel
theorem d_MO_decode_57 : decode prog_12_method_42_code 57 = .ok (.iload 4, 2) := by decide +kernel
theorem d_MO_decode_59 : decode prog_12_method_42_code 59 = .ok (.iaload, 1) := by decide +kernel
theorem d_MO_decode_60 : decode prog_12_method_42_code 60 = .ok (.bipush 27, 2) := by decide +kernel
theorem d_MO_decode_62 : decode prog_12_method_42_code 62 = .ok (.if_icmp .ne 10, 3) := by decide +kernel
theorem d_MO_decode_65 : decode prog_12_method_42_code 65 = .ok (.iload 4, 2) := by decide +kernel
theorem d_MO_decode_67 : decode prog_12_method_42_code 67 = .ok (.iconst 1, 1) := by decide +kernel
theorem d_MO_decode_68 : decode prog_12_method_42_code 68 = .ok (.iadd, 1) := by decide +kernel
theorem d_MO_decode_69 : decode prog_12_method_42_code 69 = .ok (.goto 5, 3) := by decide +kernel
theorem d_MO_decode_72 : decode prog_12_method_42_code 72 = .ok (.iload 4, 2) := by decide +kernel
theorem d_MO_decode_74 : decode prog_12_method_42_code 74 = .ok (.istore 4, 2) := by decide +kernel
theorem d_MO_decode_76 : decode prog_12_method_42_code 76 = .ok (.iload_n 2, 1) := by decide +kernel
theorem d_MO_decode_77 : decode prog_12_method_42_code 77 = .ok (.ifCond .eq 16, 3) := by decide +kernel
theorem d_MO_decode_80 : decode prog_12_method_42_code 80 = .ok (.aload_n 0, 1) := by decide +kernel
theorem d_MO_decode_81 : decode prog_12_method_42_code 81 = .ok (.getfield 33, 3) := by decide +kernel
theorem d_MO_decode_84 : decode prog_12_method_42_code 84 = .ok (.iload_n 1, 1) := by decide +kernel
theorem d_MO_decode_85 : decode prog_12_method_42_code 85 = .ok (.iload_n 3, 1) := by decide +kernel
theorem d_MO_decode_86 : decode prog_12_method_42_code 86 = .ok (.iadd, 1) := by decide +kernel
theorem d_MO_decode_87 : decode prog_12_method_42_code 87 = .ok (.iload 5, 2) := by decide +kernel
theorem d_MO_decode_89 : decode prog_12_method_42_code 89 = .ok (.iastore, 1) := by decide +kernel
theorem d_MO_decode_90 : decode prog_12_method_42_code 90 = .ok (.goto 13, 3) := by decide +kernel
theorem d_MO_decode_93 : decode prog_12_method_42_code 93 = .ok (.aload_n 0, 1) := by decide +kernel
theorem d_MO_decode_94 : decode prog_12_method_42_code 94 = .ok (.getfield 114, 3) := by decide +kernel
theorem d_MO_decode_97 : decode prog_12_method_42_code 97 = .ok (.iload_n 1, 1) := by decide +kernel
theorem d_MO_decode_98 : decode prog_12_method_42_code 98 = .ok (.iload_n 3, 1) := by decide +kernel
theorem d_MO_decode_99 : decode prog_12_method_42_code 99 = .ok (.iadd, 1) := by decide +kernel
theorem d_MO_decode_100 : decode prog_12_method_42_code 100 = .ok (.iload 5, 2) := by decide +kernel
theorem d_MO_decode_102 : decode prog_12_method_42_code 102 = .ok (.iastore, 1) := by decide +kernel
theorem d_MO_decode_103 : decode prog_12_method_42_code 103 = .ok (.iinc 3 1, 3) := by decide +kernel
theorem d_MO_decode_106 : decode prog_12_method_42_code 106 = .ok (.iinc 4 1, 3) := by decide +kernel
theorem d_MO_decode_109 : decode prog_12_method_42_code 109 = .ok (.goto (-104), 3) := by decide +kernel
theorem d_MO_decode_112 : decode prog_12_method_42_code 112 = .ok (.iload_n 3, 1) := by decide +kernel
theorem d_MO_decode_113 : decode prog_12_method_42_code 113 = .ok (.ireturn, 1) := by decide +kernel
theorem d_MO_movePile_0 : decode prog_12_method_43_code 0 = .ok (.aload_n 0, 1) := by decide +kernel
theorem d_MO_movePile_1 : decode prog_12_method_43_code 1 = .ok (.getfield 99, 3) := by decide +kernel
theorem d_MO_movePile_4 : decode prog_12_method_43_code 4 = .ok (.iload_n 1, 1) := by decide +kernel
theorem d_MO_movePile_5 : decode prog_12_method_43_code 5 = .ok (.aload_n 0, 1) := by decide +kernel
theorem d_MO_movePile_6 : decode prog_12_method_43_code 6 = .ok (.getfield 99, 3) := by decide +kernel
theorem d_MO_movePile_9 : decode prog_12_method_43_code 9 = .ok (.iload_n 2, 1) := by decide +kernel
theorem d_MO_movePile_10 : decode prog_12_method_43_code 10 = .ok (.laload, 1) := by decide +kernel
theorem d_MO_movePile_11 : decode prog_12_method_43_code 11 = .ok (.lastore, 1) := by decide +kernel
theorem d_MO_movePile_12 : decode prog_12_method_43_code 12 = .ok (.aload_n 0, 1) := by decide +kernel
theorem d_MO_movePile_13 : decode prog_12_method_43_code 13 = .ok (.getfield 102, 3) := by decide +kernel
theorem d_MO_movePile_16 : decode prog_12_method_43_code 16 = .ok (.iload_n 1, 1) := by decide +kernel
theorem d_MO_movePile_17 : decode prog_12_method_43_code 17 = .ok (.aload_n 0, 1) := by decide +kernel
theorem d_MO_movePile_18 : decode prog_12_method_43_code 18 = .ok (.getfield 102, 3) := by decide +kernel
theorem d_MO_movePile_21 : decode prog_12_method_43_code 21 = .ok (.iload_n 2, 1) := by decide +kernel
theorem d_MO_movePile_22 : decode prog_12_method_43_code 22 = .ok (.iaload, 1) := by decide +kernel
theorem d_MO_movePile_23 : decode prog_12_method_43_code 23 = .ok (.iastore, 1) := by decide +kernel
theorem d_MO_movePile_24 : decode prog_12_method_43_code 24 = .ok (.aload_n 0, 1) := by decide +kernel
theorem d_MO_movePile_25 : decode prog_12_method_43_code 25 = .ok (.getfield 105, 3) := by decide +kernel
theorem d_MO_movePile_28 : decode prog_12_method_43_code 28 = .ok (.iload_n 1, 1) := by decide +kernel
theorem d_MO_movePile_29 : decode prog_12_method_43_code 29 = .ok (.aload_n 0, 1) := by decide +kernel
theorem d_MO_movePile_30 : decode prog_12_method_43_code 30 = .ok (.getfield 105, 3) := by decide +kernel
theorem d_MO_movePile_33 : decode prog_12_method_43_code 33 = .ok (.iload_n 2, 1) := by decide +kernel
theorem d_MO_movePile_34 : decode prog_12_method_43_code 34 = .ok (.iaload, 1) := by decide +kernel
theorem d_MO_movePile_35 : decode prog_12_method_43_code 35 = .ok (.iastore, 1) := by decide +kernel
theorem d_MO_movePile_36 : decode prog_12_method_43_code 36 = .ok (.iconst 0, 1) := by decide +kernel
theorem d_MO_movePile_37 : decode prog_12_method_43_code 37 = .ok (.istore_n 3, 1) := by decide +kernel
theorem d_MO_movePile_38 : decode prog_12_method_43_code 38 = .ok (.iload_n 3, 1) := by decide +kernel
theorem d_MO_movePile_39 : decode prog_12_method_43_code 39 = .ok (.iconst 3, 1) := by decide +kernel
theorem d_MO_movePile_40 : decode prog_12_method_43_code 40 = .ok (.if_icmp .ge 29, 3) := by decide +kernel
theorem d_MO_movePile_43 : decode prog_12_method_43_code 43 = .ok (.aload_n 0, 1) := by decide +kernel
theorem d_MO_movePile_44 : decode prog_12_method_43_code 44 = .ok (.getfield 111, 3) := by decide +kernel
theorem d_MO_movePile_47 : decode prog_12_method_43_code 47 = .ok (.iconst 3, 1) := by decide +kernel
theorem d_MO_movePile_48 : decode prog_12_method_43_code 48 = .ok (.iload_n 1, 1) := by decide +kernel
theorem d_MO_movePile_49 : decode prog_12_method_43_code 49 = .ok (.imul, 1) := by decide +kernel
theorem d_MO_movePile_50 : decode prog_12_method_43_code 50 = .ok (.iload_n 3, 1) := by decide +kernel
theorem d_MO_movePile_51 : decode prog_12_method_43_code 51 = .ok (.iadd, 1) := by decide +kernel
theorem d_MO_movePile_52 : decode prog_12_method_43_code 52 = .ok (.aload_n 0, 1) := by decide +kernel
theorem d_MO_movePile_53 : decode prog_12_method_43_code 53 = .ok (.getfield 111, 3) := by decide +kernel
theorem d_MO_movePile_56 : decode prog_12_method_43_code 56 = .ok (.iconst 3, 1) := by decide +kernel
theorem d_MO_movePile_57 : decode prog_12_method_43_code 57 = .ok (.iload_n 2, 1) := by decide +kernel
theorem d_MO_movePile_58 : decode prog_12_method_43_code 58 = .ok (.imul, 1) := by decide +kernel
theorem d_MO_movePile_59 : decode prog_12_method_43_code 59 = .ok (.iload_n 3, 1) := by decide +kernel
theorem d_MO_movePile_60 : decode prog_12_method_43_code 60 = .ok (.iadd, 1) := by decide +kernel
theorem d_MO_movePile_61 : decode prog_12_method_43_code 61 = .ok (.iaload, 1) := by decide +kernel
theorem d_MO_movePile_62 : decode prog_12_method_43_code 62 = .ok (.iastore, 1) := by decide +kernel
theorem d_MO_movePile_63 : decode prog_12_method_43_code 63 = .ok (.iinc 3 1, 3) := by decide +kernel
theorem d_MO_movePile_66 : decode prog_12_method_43_code 66 = .ok (.goto (-28), 3) := by decide +kernel
theorem d_MO_movePile_69 : decode prog_12_method_43_code 69 = .ok (.iconst 0, 1) := by decide +kernel
theorem d_MO_movePile_70 : decode prog_12_method_43_code 70 = .ok (.istore_n 3, 1) := by decide +kernel
theorem d_MO_movePile_71 : decode prog_12_method_43_code 71 = .ok (.iload_n 3, 1) := by decide +kernel
theorem d_MO_movePile_72 : decode prog_12_method_43_code 72 = .ok (.sipush 459, 3) := by decide +kernel
theorem d_MO_movePile_75 : decode prog_12_method_43_code 75 = .ok (.if_icmp .ge 33, 3) := by decide +kernel
theorem d_MO_movePile_78 : decode prog_12_method_43_code 78 = .ok (.aload_n 0, 1) := by decide +kernel
theorem d_MO_movePile_79 : decode prog_12_method_43_code 79 = .ok (.getfield 114, 3) := by decide +kernel
theorem d_MO_movePile_82 : decode prog_12_method_43_code 82 = .ok (.sipush 459, 3) := by decide +kernel
theorem d_MO_movePile_85 : decode prog_12_method_43_code 85 = .ok (.iload_n 1, 1) := by decide +kernel
theorem d_MO_movePile_86 : decode prog_12_method_43_code 86 = .ok (.imul, 1) := by decide +kernel
theorem d_MO_movePile_87 : decode prog_12_method_43_code 87 = .ok (.iload_n 3, 1) := by decide +kernel
theorem d_MO_movePile_88 : decode prog_12_method_43_code 88 = .ok (.iadd, 1) := by decide +kernel
theorem d_MO_movePile_89 : decode prog_12_method_43_code 89 = .ok (.aload_n 0, 1) := by decide +kernel
theorem d_MO_movePile_90 : decode prog_12_method_43_code 90 = .ok (.getfield 114, 3) := by decide +kernel
theorem d_MO_movePile_93 : decode prog_12_method_43_code 93 = .ok (.sipush 459, 3) := by decide +kernel
theorem d_MO_movePile_96 : decode prog_12_method_43_code 96 = .ok (.iload_n 2, 1) := by decide +kernel
theorem d_MO_movePile_97 : decode prog_12_method_43_code 97 = .ok (.imul, 1) := by decide +kernel
theorem d_MO_movePile_98 : decode prog_12_method_43_code 98 = .ok (.iload_n 3, 1) := by decide +kernel
theorem d_MO_movePile_99 : decode prog_12_method_43_code 99 = .ok (.iadd, 1) := by decide +kernel
theorem d_MO_movePile_100 : decode prog_12_method_43_code 100 = .ok (.iaload, 1) := by decide +kernel
theorem d_MO_movePile_101 : decode prog_12_method_43_code 101 = .ok (.iastore, 1) := by decide +kernel
theorem d_MO_movePile_102 : decode prog_12_method_43_code 102 = .ok (.iinc 3 1, 3) := by decide +kernel
theorem d_MO_movePile_105 : decode prog_12_method_43_code 105 = .ok (.goto (-34), 3) := by decide +kernel
theorem d_MO_movePile_108 : decode prog_12_method_43_code 108 = .ok (.return_, 1) := by decide +kernel
theorem d_MO_dropPile_0 : decode prog_12_method_44_code 0 = .ok (.aload_n 0, 1) := by decide +kernel
theorem d_MO_dropPile_1 : decode prog_12_method_44_code 1 = .ok (.getfield 108, 3) := by decide +kernel
theorem d_MO_dropPile_4 : decode prog_12_method_44_code 4 = .ok (.iload_n 1, 1) := by decide +kernel
theorem d_MO_dropPile_5 : decode prog_12_method_44_code 5 = .ok (.dup2, 1) := by decide +kernel
theorem d_MO_dropPile_6 : decode prog_12_method_44_code 6 = .ok (.iaload, 1) := by decide +kernel
theorem d_MO_dropPile_7 : decode prog_12_method_44_code 7 = .ok (.iconst 1, 1) := by decide +kernel
theorem d_MO_dropPile_8 : decode prog_12_method_44_code 8 = .ok (.isub, 1) := by decide +kernel
theorem d_MO_dropPile_9 : decode prog_12_method_44_code 9 = .ok (.iastore, 1) := by decide +kernel
theorem d_MO_dropPile_10 : decode prog_12_method_44_code 10 = .ok (.iload_n 2, 1) := by decide +kernel
theorem d_MO_dropPile_11 : decode prog_12_method_44_code 11 = .ok (.istore_n 3, 1) := by decide +kernel
theorem d_MO_dropPile_12 : decode prog_12_method_44_code 12 = .ok (.iload_n 3, 1) := by decide +kernel
theorem d_MO_dropPile_13 : decode prog_12_method_44_code 13 = .ok (.aload_n 0, 1) := by decide +kernel
theorem d_MO_dropPile_14 : decode prog_12_method_44_code 14 = .ok (.getfield 108, 3) := by decide +kernel
theorem d_MO_dropPile_17 : decode prog_12_method_44_code 17 = .ok (.iload_n 1, 1) := by decide +kernel
theorem d_MO_dropPile_18 : decode prog_12_method_44_code 18 = .ok (.iaload, 1) := by decide +kernel
theorem d_MO_dropPile_19 : decode prog_12_method_44_code 19 = .ok (.if_icmp .ge 25, 3) := by decide +kernel
theorem d_MO_dropPile_22 : decode prog_12_method_44_code 22 = .ok (.aload_n 0, 1) := by decide +kernel
theorem d_MO_dropPile_23 : decode prog_12_method_44_code 23 = .ok (.iconst 3, 1) := by decide +kernel
theorem d_MO_dropPile_24 : decode prog_12_method_44_code 24 = .ok (.iload_n 1, 1) := by decide +kernel
theorem d_MO_dropPile_25 : decode prog_12_method_44_code 25 = .ok (.imul, 1) := by decide +kernel
theorem d_MO_dropPile_26 : decode prog_12_method_44_code 26 = .ok (.iload_n 3, 1) := by decide +kernel
theorem d_MO_dropPile_27 : decode prog_12_method_44_code 27 = .ok (.iadd, 1) := by decide +kernel
theorem d_MO_dropPile_28 : decode prog_12_method_44_code 28 = .ok (.iconst 3, 1) := by decide +kernel
theorem d_MO_dropPile_29 : decode prog_12_method_44_code 29 = .ok (.iload_n 1, 1) := by decide +kernel
theorem d_MO_dropPile_30 : decode prog_12_method_44_code 30 = .ok (.imul, 1) := by decide +kernel
theorem d_MO_dropPile_31 : decode prog_12_method_44_code 31 = .ok (.iload_n 3, 1) := by decide +kernel
theorem d_MO_dropPile_32 : decode prog_12_method_44_code 32 = .ok (.iadd, 1) := by decide +kernel
theorem d_MO_dropPile_33 : decode prog_12_method_44_code 33 = .ok (.iconst 1, 1) := by decide +kernel
theorem d_MO_dropPile_34 : decode prog_12_method_44_code 34 = .ok (.iadd, 1) := by decide +kernel
theorem d_MO_dropPile_35 : decode prog_12_method_44_code 35 = .ok (.invokevirtual 253, 3) := by decide +kernel
theorem d_MO_dropPile_38 : decode prog_12_method_44_code 38 = .ok (.iinc 3 1, 3) := by decide +kernel
theorem d_MO_dropPile_41 : decode prog_12_method_44_code 41 = .ok (.goto (-29), 3) := by decide +kernel
theorem d_MO_dropPile_44 : decode prog_12_method_44_code 44 = .ok (.return_, 1) := by decide +kernel
theorem d_MO_pileFor_0 : decode prog_12_method_45_code 0 = .ok (.iconst 0, 1) := by decide +kernel
theorem d_MO_pileFor_1 : decode prog_12_method_45_code 1 = .ok (.istore 6, 2) := by decide +kernel
theorem d_MO_pileFor_3 : decode prog_12_method_45_code 3 = .ok (.iload 6, 2) := by decide +kernel
theorem d_MO_pileFor_5 : decode prog_12_method_45_code 5 = .ok (.aload_n 0, 1) := by decide +kernel
theorem d_MO_pileFor_6 : decode prog_12_method_45_code 6 = .ok (.getfield 108, 3) := by decide +kernel
theorem d_MO_pileFor_9 : decode prog_12_method_45_code 9 = .ok (.iload_n 1, 1) := by decide +kernel
theorem d_MO_pileFor_10 : decode prog_12_method_45_code 10 = .ok (.iaload, 1) := by decide +kernel
theorem d_MO_pileFor_11 : decode prog_12_method_45_code 11 = .ok (.if_icmp .ge 60, 3) := by decide +kernel
theorem d_MO_pileFor_14 : decode prog_12_method_45_code 14 = .ok (.aload_n 0, 1) := by decide +kernel
theorem d_MO_pileFor_15 : decode prog_12_method_45_code 15 = .ok (.getfield 99, 3) := by decide +kernel
theorem d_MO_pileFor_18 : decode prog_12_method_45_code 18 = .ok (.iconst 3, 1) := by decide +kernel
theorem d_MO_pileFor_19 : decode prog_12_method_45_code 19 = .ok (.iload_n 1, 1) := by decide +kernel
theorem d_MO_pileFor_20 : decode prog_12_method_45_code 20 = .ok (.imul, 1) := by decide +kernel
theorem d_MO_pileFor_21 : decode prog_12_method_45_code 21 = .ok (.iload 6, 2) := by decide +kernel
theorem d_MO_pileFor_23 : decode prog_12_method_45_code 23 = .ok (.iadd, 1) := by decide +kernel
theorem d_MO_pileFor_24 : decode prog_12_method_45_code 24 = .ok (.laload, 1) := by decide +kernel
theorem d_MO_pileFor_25 : decode prog_12_method_45_code 25 = .ok (.lload_n 2, 1) := by decide +kernel
theorem d_MO_pileFor_26 : decode prog_12_method_45_code 26 = .ok (.lcmp, 1) := by decide +kernel
theorem d_MO_pileFor_27 : decode prog_12_method_45_code 27 = .ok (.ifCond .ne 38, 3) := by decide +kernel
theorem d_MO_pileFor_30 : decode prog_12_method_45_code 30 = .ok (.aload_n 0, 1) := by decide +kernel
theorem d_MO_pileFor_31 : decode prog_12_method_45_code 31 = .ok (.getfield 102, 3) := by decide +kernel
theorem d_MO_pileFor_34 : decode prog_12_method_45_code 34 = .ok (.iconst 3, 1) := by decide +kernel
theorem d_MO_pileFor_35 : decode prog_12_method_45_code 35 = .ok (.iload_n 1, 1) := by decide +kernel
theorem d_MO_pileFor_36 : decode prog_12_method_45_code 36 = .ok (.imul, 1) := by decide +kernel
theorem d_MO_pileFor_37 : decode prog_12_method_45_code 37 = .ok (.iload 6, 2) := by decide +kernel
theorem d_MO_pileFor_39 : decode prog_12_method_45_code 39 = .ok (.iadd, 1) := by decide +kernel
theorem d_MO_pileFor_40 : decode prog_12_method_45_code 40 = .ok (.iaload, 1) := by decide +kernel
theorem d_MO_pileFor_41 : decode prog_12_method_45_code 41 = .ok (.iload 4, 2) := by decide +kernel
theorem d_MO_pileFor_43 : decode prog_12_method_45_code 43 = .ok (.if_icmp .ne 22, 3) := by decide +kernel
theorem d_MO_pileFor_46 : decode prog_12_method_45_code 46 = .ok (.aload_n 0, 1) := by decide +kernel
theorem d_MO_pileFor_47 : decode prog_12_method_45_code 47 = .ok (.getfield 105, 3) := by decide +kernel
theorem d_MO_pileFor_50 : decode prog_12_method_45_code 50 = .ok (.iconst 3, 1) := by decide +kernel
theorem d_MO_pileFor_51 : decode prog_12_method_45_code 51 = .ok (.iload_n 1, 1) := by decide +kernel
theorem d_MO_pileFor_52 : decode prog_12_method_45_code 52 = .ok (.imul, 1) := by decide +kernel
theorem d_MO_pileFor_53 : decode prog_12_method_45_code 53 = .ok (.iload 6, 2) := by decide +kernel
theorem d_MO_pileFor_55 : decode prog_12_method_45_code 55 = .ok (.iadd, 1) := by decide +kernel
theorem d_MO_pileFor_56 : decode prog_12_method_45_code 56 = .ok (.iaload, 1) := by decide +kernel
theorem d_MO_pileFor_57 : decode prog_12_method_45_code 57 = .ok (.iload 5, 2) := by decide +kernel
theorem d_MO_pileFor_59 : decode prog_12_method_45_code 59 = .ok (.if_icmp .ne 6, 3) := by decide +kernel
theorem d_MO_pileFor_62 : decode prog_12_method_45_code 62 = .ok (.iload 6, 2) := by decide +kernel
theorem d_MO_pileFor_64 : decode prog_12_method_45_code 64 = .ok (.ireturn, 1) := by decide +kernel
theorem d_MO_pileFor_65 : decode prog_12_method_45_code 65 = .ok (.iinc 6 1, 3) := by decide +kernel
theorem d_MO_pileFor_68 : decode prog_12_method_45_code 68 = .ok (.goto (-65), 3) := by decide +kernel
theorem d_MO_pileFor_71 : decode prog_12_method_45_code 71 = .ok (.aload_n 0, 1) := by decide +kernel
theorem d_MO_pileFor_72 : decode prog_12_method_45_code 72 = .ok (.getfield 108, 3) := by decide +kernel
theorem d_MO_pileFor_75 : decode prog_12_method_45_code 75 = .ok (.iload_n 1, 1) := by decide +kernel
theorem d_MO_pileFor_76 : decode prog_12_method_45_code 76 = .ok (.iaload, 1) := by decide +kernel
theorem d_MO_pileFor_77 : decode prog_12_method_45_code 77 = .ok (.iconst 3, 1) := by decide +kernel
theorem d_MO_pileFor_78 : decode prog_12_method_45_code 78 = .ok (.if_icmp .ne 9, 3) := by decide +kernel
theorem d_MO_pileFor_81 : decode prog_12_method_45_code 81 = .ok (.aload_n 0, 1) := by decide +kernel
theorem d_MO_pileFor_82 : decode prog_12_method_45_code 82 = .ok (.iload_n 1, 1) := by decide +kernel
theorem d_MO_pileFor_83 : decode prog_12_method_45_code 83 = .ok (.iconst 0, 1) := by decide +kernel
theorem d_MO_pileFor_84 : decode prog_12_method_45_code 84 = .ok (.invokevirtual 256, 3) := by decide +kernel
theorem d_MO_pileFor_87 : decode prog_12_method_45_code 87 = .ok (.iconst 3, 1) := by decide +kernel
theorem d_MO_pileFor_88 : decode prog_12_method_45_code 88 = .ok (.iload_n 1, 1) := by decide +kernel
theorem d_MO_pileFor_89 : decode prog_12_method_45_code 89 = .ok (.imul, 1) := by decide +kernel
theorem d_MO_pileFor_90 : decode prog_12_method_45_code 90 = .ok (.aload_n 0, 1) := by decide +kernel
theorem d_MO_pileFor_91 : decode prog_12_method_45_code 91 = .ok (.getfield 108, 3) := by decide +kernel
theorem d_MO_pileFor_94 : decode prog_12_method_45_code 94 = .ok (.iload_n 1, 1) := by decide +kernel
theorem d_MO_pileFor_95 : decode prog_12_method_45_code 95 = .ok (.iaload, 1) := by decide +kernel
theorem d_MO_pileFor_96 : decode prog_12_method_45_code 96 = .ok (.iadd, 1) := by decide +kernel
theorem d_MO_pileFor_97 : decode prog_12_method_45_code 97 = .ok (.istore 6, 2) := by decide +kernel
theorem d_MO_pileFor_99 : decode prog_12_method_45_code 99 = .ok (.aload_n 0, 1) := by decide +kernel
theorem d_MO_pileFor_100 : decode prog_12_method_45_code 100 = .ok (.getfield 99, 3) := by decide +kernel
theorem d_MO_pileFor_103 : decode prog_12_method_45_code 103 = .ok (.iload 6, 2) := by decide +kernel
theorem d_MO_pileFor_105 : decode prog_12_method_45_code 105 = .ok (.lload_n 2, 1) := by decide +kernel
theorem d_MO_pileFor_106 : decode prog_12_method_45_code 106 = .ok (.lastore, 1) := by decide +kernel
theorem d_MO_pileFor_107 : decode prog_12_method_45_code 107 = .ok (.aload_n 0, 1) := by decide +kernel
theorem d_MO_pileFor_108 : decode prog_12_method_45_code 108 = .ok (.getfield 102, 3) := by decide +kernel
theorem d_MO_pileFor_111 : decode prog_12_method_45_code 111 = .ok (.iload 6, 2) := by decide +kernel
theorem d_MO_pileFor_113 : decode prog_12_method_45_code 113 = .ok (.iload 4, 2) := by decide +kernel
theorem d_MO_pileFor_115 : decode prog_12_method_45_code 115 = .ok (.iastore, 1) := by decide +kernel
theorem d_MO_pileFor_116 : decode prog_12_method_45_code 116 = .ok (.aload_n 0, 1) := by decide +kernel
theorem d_MO_pileFor_117 : decode prog_12_method_45_code 117 = .ok (.getfield 105, 3) := by decide +kernel
theorem d_MO_pileFor_120 : decode prog_12_method_45_code 120 = .ok (.iload 6, 2) := by decide +kernel
theorem d_MO_pileFor_122 : decode prog_12_method_45_code 122 = .ok (.iload 5, 2) := by decide +kernel
theorem d_MO_pileFor_124 : decode prog_12_method_45_code 124 = .ok (.iastore, 1) := by decide +kernel
theorem d_MO_pileFor_125 : decode prog_12_method_45_code 125 = .ok (.iconst 0, 1) := by decide +kernel
theorem d_MO_pileFor_126 : decode prog_12_method_45_code 126 = .ok (.istore 7, 2) := by decide +kernel
theorem d_MO_pileFor_128 : decode prog_12_method_45_code 128 = .ok (.iload 7, 2) := by decide +kernel
theorem d_MO_pileFor_130 : decode prog_12_method_45_code 130 = .ok (.iconst 3, 1) := by decide +kernel
theorem d_MO_pileFor_131 : decode prog_12_method_45_code 131 = .ok (.if_icmp .ge 22, 3) := by decide +kernel
theorem d_MO_pileFor_134 : decode prog_12_method_45_code 134 = .ok (.aload_n 0, 1) := by decide +kernel
theorem d_MO_pileFor_135 : decode prog_12_method_45_code 135 = .ok (.getfield 111, 3) := by decide +kernel
theorem d_MO_pileFor_138 : decode prog_12_method_45_code 138 = .ok (.iconst 3, 1) := by decide +kernel
theorem d_MO_pileFor_139 : decode prog_12_method_45_code 139 = .ok (.iload 6, 2) := by decide +kernel
theorem d_MO_pileFor_141 : decode prog_12_method_45_code 141 = .ok (.imul, 1) := by decide +kernel
theorem d_MO_pileFor_142 : decode prog_12_method_45_code 142 = .ok (.iload 7, 2) := by decide +kernel
theorem d_MO_pileFor_144 : decode prog_12_method_45_code 144 = .ok (.iadd, 1) := by decide +kernel
theorem d_MO_pileFor_145 : decode prog_12_method_45_code 145 = .ok (.iconst (-1), 1) := by decide +kernel
theorem d_MO_pileFor_146 : decode prog_12_method_45_code 146 = .ok (.iastore, 1) := by decide +kernel
theorem d_MO_pileFor_147 : decode prog_12_method_45_code 147 = .ok (.iinc 7 1, 3) := by decide +kernel
theorem d_MO_pileFor_150 : decode prog_12_method_45_code 150 = .ok (.goto (-22), 3) := by decide +kernel
theorem d_MO_pileFor_153 : decode prog_12_method_45_code 153 = .ok (.aload_n 0, 1) := by decide +kernel
theorem d_MO_pileFor_154 : decode prog_12_method_45_code 154 = .ok (.getfield 108, 3) := by decide +kernel
theorem d_MO_pileFor_157 : decode prog_12_method_45_code 157 = .ok (.iload_n 1, 1) := by decide +kernel
theorem d_MO_pileFor_158 : decode prog_12_method_45_code 158 = .ok (.dup2, 1) := by decide +kernel
theorem d_MO_pileFor_159 : decode prog_12_method_45_code 159 = .ok (.iaload, 1) := by decide +kernel
theorem d_MO_pileFor_160 : decode prog_12_method_45_code 160 = .ok (.iconst 1, 1) := by decide +kernel
theorem d_MO_pileFor_161 : decode prog_12_method_45_code 161 = .ok (.iadd, 1) := by decide +kernel
theorem d_MO_pileFor_162 : decode prog_12_method_45_code 162 = .ok (.iastore, 1) := by decide +kernel
theorem d_MO_pileFor_163 : decode prog_12_method_45_code 163 = .ok (.aload_n 0, 1) := by decide +kernel
theorem d_MO_pileFor_164 : decode prog_12_method_45_code 164 = .ok (.getfield 108, 3) := by decide +kernel
theorem d_MO_pileFor_167 : decode prog_12_method_45_code 167 = .ok (.iload_n 1, 1) := by decide +kernel
theorem d_MO_pileFor_168 : decode prog_12_method_45_code 168 = .ok (.iaload, 1) := by decide +kernel
theorem d_MO_pileFor_169 : decode prog_12_method_45_code 169 = .ok (.iconst 1, 1) := by decide +kernel
theorem d_MO_pileFor_170 : decode prog_12_method_45_code 170 = .ok (.isub, 1) := by decide +kernel
theorem d_MO_pileFor_171 : decode prog_12_method_45_code 171 = .ok (.ireturn, 1) := by decide +kernel
theorem d_MO_together_0 : decode prog_12_method_46_code 0 = .ok (.iconst 0, 1) := by decide +kernel
theorem d_MO_together_1 : decode prog_12_method_46_code 1 = .ok (.istore_n 3, 1) := by decide +kernel
theorem d_MO_together_2 : decode prog_12_method_46_code 2 = .ok (.iconst 0, 1) := by decide +kernel
theorem d_MO_together_3 : decode prog_12_method_46_code 3 = .ok (.istore 4, 2) := by decide +kernel
theorem d_MO_together_5 : decode prog_12_method_46_code 5 = .ok (.iload 4, 2) := by decide +kernel
theorem d_MO_together_7 : decode prog_12_method_46_code 7 = .ok (.aload_n 0, 1) := by decide +kernel
theorem d_MO_together_8 : decode prog_12_method_46_code 8 = .ok (.getfield 105, 3) := by decide +kernel
theorem d_MO_together_11 : decode prog_12_method_46_code 11 = .ok (.iload_n 2, 1) := by decide +kernel
theorem d_MO_together_12 : decode prog_12_method_46_code 12 = .ok (.iaload, 1) := by decide +kernel
theorem d_MO_together_13 : decode prog_12_method_46_code 13 = .ok (.if_icmp .ge 67, 3) := by decide +kernel
theorem d_MO_together_16 : decode prog_12_method_46_code 16 = .ok (.iconst 0, 1) := by decide +kernel
theorem d_MO_together_17 : decode prog_12_method_46_code 17 = .ok (.istore 5, 2) := by decide +kernel
theorem d_MO_together_19 : decode prog_12_method_46_code 19 = .ok (.iload 5, 2) := by decide +kernel
theorem d_MO_together_21 : decode prog_12_method_46_code 21 = .ok (.aload_n 0, 1) := by decide +kernel
theorem d_MO_together_22 : decode prog_12_method_46_code 22 = .ok (.getfield 111, 3) := by decide +kernel
theorem d_MO_together_25 : decode prog_12_method_46_code 25 = .ok (.iconst 3, 1) := by decide +kernel
theorem d_MO_together_26 : decode prog_12_method_46_code 26 = .ok (.iload_n 2, 1) := by decide +kernel
theorem d_MO_together_27 : decode prog_12_method_46_code 27 = .ok (.imul, 1) := by decide +kernel
theorem d_MO_together_28 : decode prog_12_method_46_code 28 = .ok (.iload 4, 2) := by decide +kernel
theorem d_MO_together_30 : decode prog_12_method_46_code 30 = .ok (.iadd, 1) := by decide +kernel
theorem d_MO_together_31 : decode prog_12_method_46_code 31 = .ok (.iaload, 1) := by decide +kernel
theorem d_MO_together_32 : decode prog_12_method_46_code 32 = .ok (.if_icmp .ge 42, 3) := by decide +kernel
theorem d_MO_together_35 : decode prog_12_method_46_code 35 = .ok (.aload_n 0, 1) := by decide +kernel
theorem d_MO_together_36 : decode prog_12_method_46_code 36 = .ok (.getfield 33, 3) := by decide +kernel
theorem d_MO_together_39 : decode prog_12_method_46_code 39 = .ok (.sipush 480, 3) := by decide +kernel
theorem d_MO_together_42 : decode prog_12_method_46_code 42 = .ok (.iload_n 1, 1) := by decide +kernel
theorem d_MO_together_43 : decode prog_12_method_46_code 43 = .ok (.imul, 1) := by decide +kernel
theorem d_MO_together_44 : decode prog_12_method_46_code 44 = .ok (.iload_n 3, 1) := by decide +kernel
theorem d_MO_together_45 : decode prog_12_method_46_code 45 = .ok (.iadd, 1) := by decide +kernel
theorem d_MO_together_46 : decode prog_12_method_46_code 46 = .ok (.aload_n 0, 1) := by decide +kernel
theorem d_MO_together_47 : decode prog_12_method_46_code 47 = .ok (.getfield 114, 3) := by decide +kernel
theorem d_MO_together_50 : decode prog_12_method_46_code 50 = .ok (.sipush 153, 3) := by decide +kernel
theorem d_MO_together_53 : decode prog_12_method_46_code 53 = .ok (.iconst 3, 1) := by decide +kernel
theorem d_MO_together_54 : decode prog_12_method_46_code 54 = .ok (.iload_n 2, 1) := by decide +kernel
theorem d_MO_together_55 : decode prog_12_method_46_code 55 = .ok (.imul, 1) := by decide +kernel
theorem d_MO_together_56 : decode prog_12_method_46_code 56 = .ok (.iload 4, 2) := by decide +kernel
theorem d_MO_together_58 : decode prog_12_method_46_code 58 = .ok (.iadd, 1) := by decide +kernel
theorem d_MO_together_59 : decode prog_12_method_46_code 59 = .ok (.imul, 1) := by decide +kernel
theorem d_MO_together_60 : decode prog_12_method_46_code 60 = .ok (.iload 5, 2) := by decide +kernel
theorem d_MO_together_62 : decode prog_12_method_46_code 62 = .ok (.iadd, 1) := by decide +kernel
theorem d_MO_together_63 : decode prog_12_method_46_code 63 = .ok (.iaload, 1) := by decide +kernel
theorem d_MO_together_64 : decode prog_12_method_46_code 64 = .ok (.iastore, 1) := by decide +kernel
theorem d_MO_together_65 : decode prog_12_method_46_code 65 = .ok (.iinc 3 1, 3) := by decide +kernel
theorem d_MO_together_68 : decode prog_12_method_46_code 68 = .ok (.iinc 5 1, 3) := by decide +kernel
theorem d_MO_together_71 : decode prog_12_method_46_code 71 = .ok (.goto (-52), 3) := by decide +kernel
theorem d_MO_together_74 : decode prog_12_method_46_code 74 = .ok (.iinc 4 1, 3) := by decide +kernel
theorem d_MO_together_77 : decode prog_12_method_46_code 77 = .ok (.goto (-72), 3) := by decide +kernel
theorem d_MO_together_80 : decode prog_12_method_46_code 80 = .ok (.aload_n 0, 1) := by decide +kernel
theorem d_MO_together_81 : decode prog_12_method_46_code 81 = .ok (.getfield 30, 3) := by decide +kernel
theorem d_MO_together_84 : decode prog_12_method_46_code 84 = .ok (.iload_n 1, 1) := by decide +kernel
theorem d_MO_together_85 : decode prog_12_method_46_code 85 = .ok (.iload_n 3, 1) := by decide +kernel
theorem d_MO_together_86 : decode prog_12_method_46_code 86 = .ok (.iastore, 1) := by decide +kernel
theorem d_MO_together_87 : decode prog_12_method_46_code 87 = .ok (.return_, 1) := by decide +kernel
theorem d_MO_take_0 : decode prog_12_method_47_code 0 = .ok (.iload_n 1, 1) := by decide +kernel
theorem d_MO_take_1 : decode prog_12_method_47_code 1 = .ok (.invokestatic 187, 3) := by decide +kernel
theorem d_MO_take_4 : decode prog_12_method_47_code 4 = .ok (.ifCond .ne 5, 3) := by decide +kernel
theorem d_MO_take_7 : decode prog_12_method_47_code 7 = .ok (.iconst (-1), 1) := by decide +kernel
theorem d_MO_take_8 : decode prog_12_method_47_code 8 = .ok (.ireturn, 1) := by decide +kernel
theorem d_MO_take_9 : decode prog_12_method_47_code 9 = .ok (.aload_n 0, 1) := by decide +kernel
theorem d_MO_take_10 : decode prog_12_method_47_code 10 = .ok (.getfield 51, 3) := by decide +kernel
theorem d_MO_take_13 : decode prog_12_method_47_code 13 = .ok (.iconst 1, 1) := by decide +kernel
theorem d_MO_take_14 : decode prog_12_method_47_code 14 = .ok (.iload_n 1, 1) := by decide +kernel
theorem d_MO_take_15 : decode prog_12_method_47_code 15 = .ok (.iadd, 1) := by decide +kernel
theorem d_MO_take_16 : decode prog_12_method_47_code 16 = .ok (.iaload, 1) := by decide +kernel
theorem d_MO_take_17 : decode prog_12_method_47_code 17 = .ok (.ifCond .ne 6, 3) := by decide +kernel
theorem d_MO_take_20 : decode prog_12_method_47_code 20 = .ok (.bipush (-100), 2) := by decide +kernel
theorem d_MO_take_22 : decode prog_12_method_47_code 22 = .ok (.ireturn, 1) := by decide +kernel
theorem d_MO_take_23 : decode prog_12_method_47_code 23 = .ok (.aload_n 0, 1) := by decide +kernel
theorem d_MO_take_24 : decode prog_12_method_47_code 24 = .ok (.iconst 1, 1) := by decide +kernel
theorem d_MO_take_25 : decode prog_12_method_47_code 25 = .ok (.iload_n 1, 1) := by decide +kernel
theorem d_MO_take_26 : decode prog_12_method_47_code 26 = .ok (.iadd, 1) := by decide +kernel
theorem d_MO_take_27 : decode prog_12_method_47_code 27 = .ok (.invokestatic 159, 3) := by decide +kernel
theorem d_MO_take_30 : decode prog_12_method_47_code 30 = .ok (.invokevirtual 217, 3) := by decide +kernel
theorem d_MO_take_33 : decode prog_12_method_47_code 33 = .ok (.aload_n 0, 1) := by decide +kernel
theorem d_MO_take_34 : decode prog_12_method_47_code 34 = .ok (.iconst 1, 1) := by decide +kernel
theorem d_MO_take_35 : decode prog_12_method_47_code 35 = .ok (.iload_n 1, 1) := by decide +kernel
theorem d_MO_take_36 : decode prog_12_method_47_code 36 = .ok (.iadd, 1) := by decide +kernel
theorem d_MO_take_37 : decode prog_12_method_47_code 37 = .ok (.invokevirtual 223, 3) := by decide +kernel
theorem d_MO_take_40 : decode prog_12_method_47_code 40 = .ok (.aload_n 0, 1) := by decide +kernel
theorem d_MO_take_41 : decode prog_12_method_47_code 41 = .ok (.getfield 39, 3) := by decide +kernel
theorem d_MO_take_44 : decode prog_12_method_47_code 44 = .ok (.iconst 0, 1) := by decide +kernel
theorem d_MO_take_45 : decode prog_12_method_47_code 45 = .ok (.iaload, 1) := by decide +kernel
theorem d_MO_take_46 : decode prog_12_method_47_code 46 = .ok (.bipush 68, 2) := by decide +kernel
theorem d_MO_take_48 : decode prog_12_method_47_code 48 = .ok (.if_icmp .ne 7, 3) := by decide +kernel
theorem d_MO_take_51 : decode prog_12_method_47_code 51 = .ok (.iconst 1, 1) := by decide +kernel
theorem d_MO_take_52 : decode prog_12_method_47_code 52 = .ok (.goto 4, 3) := by decide +kernel
theorem d_MO_take_55 : decode prog_12_method_47_code 55 = .ok (.iconst 0, 1) := by decide +kernel
theorem d_MO_take_56 : decode prog_12_method_47_code 56 = .ok (.istore_n 2, 1) := by decide +kernel
theorem d_MO_take_57 : decode prog_12_method_47_code 57 = .ok (.aload_n 0, 1) := by decide +kernel
theorem d_MO_take_58 : decode prog_12_method_47_code 58 = .ok (.iconst 1, 1) := by decide +kernel
theorem d_MO_take_59 : decode prog_12_method_47_code 59 = .ok (.invokevirtual 170, 3) := by decide +kernel
theorem d_MO_take_62 : decode prog_12_method_47_code 62 = .ok (.lstore_n 3, 1) := by decide +kernel
theorem d_MO_take_63 : decode prog_12_method_47_code 63 = .ok (.bipush 12, 2) := by decide +kernel
theorem d_MO_take_65 : decode prog_12_method_47_code 65 = .ok (.aload_n 0, 1) := by decide +kernel
theorem d_MO_take_66 : decode prog_12_method_47_code 66 = .ok (.getfield 39, 3) := by decide +kernel
theorem d_MO_take_69 : decode prog_12_method_47_code 69 = .ok (.iconst 1, 1) := by decide +kernel
theorem d_MO_take_70 : decode prog_12_method_47_code 70 = .ok (.iaload, 1) := by decide +kernel
theorem d_MO_take_71 : decode prog_12_method_47_code 71 = .ok (.iconst 1, 1) := by decide +kernel
theorem d_MO_take_72 : decode prog_12_method_47_code 72 = .ok (.iadd, 1) := by decide +kernel
theorem d_MO_take_73 : decode prog_12_method_47_code 73 = .ok (.iconst 2, 1) := by decide +kernel
theorem d_MO_take_74 : decode prog_12_method_47_code 74 = .ok (.idiv, 1) := by decide +kernel
theorem d_MO_take_75 : decode prog_12_method_47_code 75 = .ok (.iadd, 1) := by decide +kernel
theorem d_MO_take_76 : decode prog_12_method_47_code 76 = .ok (.istore 5, 2) := by decide +kernel
theorem d_MO_take_78 : decode prog_12_method_47_code 78 = .ok (.aload_n 0, 1) := by decide +kernel
theorem d_MO_take_79 : decode prog_12_method_47_code 79 = .ok (.iload 5, 2) := by decide +kernel
theorem d_MO_take_81 : decode prog_12_method_47_code 81 = .ok (.iload_n 2, 1) := by decide +kernel
theorem d_MO_take_82 : decode prog_12_method_47_code 82 = .ok (.invokevirtual 173, 3) := by decide +kernel
theorem d_MO_take_85 : decode prog_12_method_47_code 85 = .ok (.iload_n 2, 1) := by decide +kernel
theorem d_MO_take_86 : decode prog_12_method_47_code 86 = .ok (.ifCond .ne 33, 3) := by decide +kernel
theorem d_MO_take_89 : decode prog_12_method_47_code 89 = .ok (.aload_n 0, 1) := by decide +kernel
theorem d_MO_take_90 : decode prog_12_method_47_code 90 = .ok (.getfield 30, 3) := by decide +kernel
theorem d_MO_take_93 : decode prog_12_method_47_code 93 = .ok (.iload_n 1, 1) := by decide +kernel
theorem d_MO_take_94 : decode prog_12_method_47_code 94 = .ok (.aload_n 0, 1) := by decide +kernel
theorem d_MO_take_95 : decode prog_12_method_47_code 95 = .ok (.sipush 480, 3) := by decide +kernel
theorem d_MO_take_98 : decode prog_12_method_47_code 98 = .ok (.iload_n 1, 1) := by decide +kernel
theorem d_MO_take_99 : decode prog_12_method_47_code 99 = .ok (.imul, 1) := by decide +kernel
theorem d_MO_take_100 : decode prog_12_method_47_code 100 = .ok (.iconst 1, 1) := by decide +kernel
theorem d_MO_take_101 : decode prog_12_method_47_code 101 = .ok (.invokevirtual 259, 3) := by decide +kernel
theorem d_MO_take_104 : decode prog_12_method_47_code 104 = .ok (.iastore, 1) := by decide +kernel
theorem d_MO_take_105 : decode prog_12_method_47_code 105 = .ok (.aload_n 0, 1) := by decide +kernel
theorem d_MO_take_106 : decode prog_12_method_47_code 106 = .ok (.getfield 36, 3) := by decide +kernel
theorem d_MO_take_109 : decode prog_12_method_47_code 109 = .ok (.iload_n 1, 1) := by decide +kernel
theorem d_MO_take_110 : decode prog_12_method_47_code 110 = .ok (.lload_n 3, 1) := by decide +kernel
theorem d_MO_take_111 : decode prog_12_method_47_code 111 = .ok (.lastore, 1) := by decide +kernel
theorem d_MO_take_112 : decode prog_12_method_47_code 112 = .ok (.aload_n 0, 1) := by decide +kernel
theorem d_MO_take_113 : decode prog_12_method_47_code 113 = .ok (.getfield 30, 3) := by decide +kernel
theorem d_MO_take_116 : decode prog_12_method_47_code 116 = .ok (.iload_n 1, 1) := by decide +kernel
theorem d_MO_take_117 : decode prog_12_method_47_code 117 = .ok (.iaload, 1) := by decide +kernel
theorem d_MO_take_118 : decode prog_12_method_47_code 118 = .ok (.ireturn, 1) := by decide +kernel
theorem d_MO_take_119 : decode prog_12_method_47_code 119 = .ok (.aload_n 0, 1) := by decide +kernel
theorem d_MO_take_120 : decode prog_12_method_47_code 120 = .ok (.iload_n 1, 1) := by decide +kernel
theorem d_MO_take_121 : decode prog_12_method_47_code 121 = .ok (.lload_n 3, 1) := by decide +kernel
theorem d_MO_take_122 : decode prog_12_method_47_code 122 = .ok (.aload_n 0, 1) := by decide +kernel
theorem d_MO_take_123 : decode prog_12_method_47_code 123 = .ok (.getfield 39, 3) := by decide +kernel
theorem d_MO_take_126 : decode prog_12_method_47_code 126 = .ok (.iload 5, 2) := by decide +kernel
theorem d_MO_take_128 : decode prog_12_method_47_code 128 = .ok (.iconst 4, 1) := by decide +kernel
theorem d_MO_take_129 : decode prog_12_method_47_code 129 = .ok (.iadd, 1) := by decide +kernel
theorem d_MO_take_130 : decode prog_12_method_47_code 130 = .ok (.iaload, 1) := by decide +kernel
theorem d_MO_take_131 : decode prog_12_method_47_code 131 = .ok (.aload_n 0, 1) := by decide +kernel
theorem d_MO_take_132 : decode prog_12_method_47_code 132 = .ok (.getfield 39, 3) := by decide +kernel
theorem d_MO_take_135 : decode prog_12_method_47_code 135 = .ok (.iload 5, 2) := by decide +kernel
theorem d_MO_take_137 : decode prog_12_method_47_code 137 = .ok (.iconst 5, 1) := by decide +kernel
theorem d_MO_take_138 : decode prog_12_method_47_code 138 = .ok (.iadd, 1) := by decide +kernel
theorem d_MO_take_139 : decode prog_12_method_47_code 139 = .ok (.iaload, 1) := by decide +kernel
theorem d_MO_take_140 : decode prog_12_method_47_code 140 = .ok (.invokevirtual 263, 3) := by decide +kernel
theorem d_MO_take_143 : decode prog_12_method_47_code 143 = .ok (.istore 6, 2) := by decide +kernel
theorem d_MO_take_145 : decode prog_12_method_47_code 145 = .ok (.iconst 3, 1) := by decide +kernel
theorem d_MO_take_146 : decode prog_12_method_47_code 146 = .ok (.iload_n 1, 1) := by decide +kernel
theorem d_MO_take_147 : decode prog_12_method_47_code 147 = .ok (.imul, 1) := by decide +kernel
theorem d_MO_take_148 : decode prog_12_method_47_code 148 = .ok (.iload 6, 2) := by decide +kernel
theorem d_MO_take_150 : decode prog_12_method_47_code 150 = .ok (.iadd, 1) := by decide +kernel
theorem d_MO_take_151 : decode prog_12_method_47_code 151 = .ok (.istore 7, 2) := by decide +kernel
theorem d_MO_take_153 : decode prog_12_method_47_code 153 = .ok (.iconst 3, 1) := by decide +kernel
theorem d_MO_take_154 : decode prog_12_method_47_code 154 = .ok (.iload 7, 2) := by decide +kernel
theorem d_MO_take_156 : decode prog_12_method_47_code 156 = .ok (.imul, 1) := by decide +kernel
theorem d_MO_take_157 : decode prog_12_method_47_code 157 = .ok (.aload_n 0, 1) := by decide +kernel
theorem d_MO_take_158 : decode prog_12_method_47_code 158 = .ok (.getfield 39, 3) := by decide +kernel
theorem d_MO_take_161 : decode prog_12_method_47_code 161 = .ok (.iload 5, 2) := by decide +kernel
theorem d_MO_take_163 : decode prog_12_method_47_code 163 = .ok (.bipush 6, 2) := by decide +kernel
theorem d_MO_take_165 : decode prog_12_method_47_code 165 = .ok (.iadd, 1) := by decide +kernel
theorem d_MO_take_166 : decode prog_12_method_47_code 166 = .ok (.iaload, 1) := by decide +kernel
theorem d_MO_take_167 : decode prog_12_method_47_code 167 = .ok (.iadd, 1) := by decide +kernel
theorem d_MO_take_168 : decode prog_12_method_47_code 168 = .ok (.iconst 1, 1) := by decide +kernel
theorem d_MO_take_169 : decode prog_12_method_47_code 169 = .ok (.isub, 1) := by decide +kernel
theorem d_MO_take_170 : decode prog_12_method_47_code 170 = .ok (.istore 8, 2) := by decide +kernel
theorem d_MO_take_172 : decode prog_12_method_47_code 172 = .ok (.aload_n 0, 1) := by decide +kernel
theorem d_MO_take_173 : decode prog_12_method_47_code 173 = .ok (.getfield 111, 3) := by decide +kernel
theorem d_MO_take_176 : decode prog_12_method_47_code 176 = .ok (.iload 8, 2) := by decide +kernel
theorem d_MO_take_178 : decode prog_12_method_47_code 178 = .ok (.iaload, 1) := by decide +kernel
theorem d_MO_take_179 : decode prog_12_method_47_code 179 = .ok (.ifCond .ge 21, 3) := by decide +kernel
theorem d_MO_take_182 : decode prog_12_method_47_code 182 = .ok (.aload_n 0, 1) := by decide +kernel
theorem d_MO_take_183 : decode prog_12_method_47_code 183 = .ok (.getfield 111, 3) := by decide +kernel
theorem d_MO_take_186 : decode prog_12_method_47_code 186 = .ok (.iload 8, 2) := by decide +kernel
theorem d_MO_take_188 : decode prog_12_method_47_code 188 = .ok (.aload_n 0, 1) := by decide +kernel
theorem d_MO_take_189 : decode prog_12_method_47_code 189 = .ok (.sipush 153, 3) := by decide +kernel
theorem d_MO_take_192 : decode prog_12_method_47_code 192 = .ok (.iload 8, 2) := by decide +kernel
theorem d_MO_take_194 : decode prog_12_method_47_code 194 = .ok (.imul, 1) := by decide +kernel
theorem d_MO_take_195 : decode prog_12_method_47_code 195 = .ok (.iconst 0, 1) := by decide +kernel
theorem d_MO_take_196 : decode prog_12_method_47_code 196 = .ok (.invokevirtual 259, 3) := by decide +kernel
theorem d_MO_take_199 : decode prog_12_method_47_code 199 = .ok (.iastore, 1) := by decide +kernel
theorem d_MO_take_200 : decode prog_12_method_47_code 200 = .ok (.iconst 0, 1) := by decide +kernel
theorem d_MO_take_201 : decode prog_12_method_47_code 201 = .ok (.istore 9, 2) := by decide +kernel
theorem d_MO_take_203 : decode prog_12_method_47_code 203 = .ok (.iconst 0, 1) := by decide +kernel
theorem d_MO_take_204 : decode prog_12_method_47_code 204 = .ok (.istore 10, 2) := by decide +kernel
theorem d_MO_take_206 : decode prog_12_method_47_code 206 = .ok (.iload 10, 2) := by decide +kernel
theorem d_MO_take_208 : decode prog_12_method_47_code 208 = .ok (.aload_n 0, 1) := by decide +kernel
theorem d_MO_take_209 : decode prog_12_method_47_code 209 = .ok (.getfield 105, 3) := by decide +kernel
theorem d_MO_take_212 : decode prog_12_method_47_code 212 = .ok (.iload 7, 2) := by decide +kernel
theorem d_MO_take_214 : decode prog_12_method_47_code 214 = .ok (.iaload, 1) := by decide +kernel
theorem d_MO_take_215 : decode prog_12_method_47_code 215 = .ok (.if_icmp .ge 35, 3) := by decide +kernel
theorem d_MO_take_218 : decode prog_12_method_47_code 218 = .ok (.aload_n 0, 1) := by decide +kernel
theorem d_MO_take_219 : decode prog_12_method_47_code 219 = .ok (.getfield 111, 3) := by decide +kernel
theorem d_MO_take_222 : decode prog_12_method_47_code 222 = .ok (.iconst 3, 1) := by decide +kernel
theorem d_MO_take_223 : decode prog_12_method_47_code 223 = .ok (.iload 7, 2) := by decide +kernel
theorem d_MO_take_225 : decode prog_12_method_47_code 225 = .ok (.imul, 1) := by decide +kernel
theorem d_MO_take_226 : decode prog_12_method_47_code 226 = .ok (.iload 10, 2) := by decide +kernel
theorem d_MO_take_228 : decode prog_12_method_47_code 228 = .ok (.iadd, 1) := by decide +kernel
theorem d_MO_take_229 : decode prog_12_method_47_code 229 = .ok (.iaload, 1) := by decide +kernel
theorem d_MO_take_230 : decode prog_12_method_47_code 230 = .ok (.ifCond .ge 10, 3) := by decide +kernel
theorem d_MO_take_233 : decode prog_12_method_47_code 233 = .ok (.iload 9, 2) := by decide +kernel
theorem d_MO_take_235 : decode prog_12_method_47_code 235 = .ok (.iconst 1, 1) := by decide +kernel
theorem d_MO_take_236 : decode prog_12_method_47_code 236 = .ok (.iadd, 1) := by decide +kernel
theorem d_MO_take_237 : decode prog_12_method_47_code 237 = .ok (.goto 5, 3) := by decide +kernel
theorem d_MO_take_240 : decode prog_12_method_47_code 240 = .ok (.iload 9, 2) := by decide +kernel
theorem d_MO_take_242 : decode prog_12_method_47_code 242 = .ok (.istore 9, 2) := by decide +kernel
theorem d_MO_take_244 : decode prog_12_method_47_code 244 = .ok (.iinc 10 1, 3) := by decide +kernel
theorem d_MO_take_247 : decode prog_12_method_47_code 247 = .ok (.goto (-41), 3) := by decide +kernel
theorem d_MO_take_250 : decode prog_12_method_47_code 250 = .ok (.iload 9, 2) := by decide +kernel
theorem d_MO_take_252 : decode prog_12_method_47_code 252 = .ok (.ifCond .le 8, 3) := by decide +kernel
theorem d_MO_take_255 : decode prog_12_method_47_code 255 = .ok (.iconst (-1), 1) := by decide +kernel
theorem d_MO_take_256 : decode prog_12_method_47_code 256 = .ok (.iload 9, 2) := by decide +kernel
theorem d_MO_take_258 : decode prog_12_method_47_code 258 = .ok (.isub, 1) := by decide +kernel
theorem d_MO_take_259 : decode prog_12_method_47_code 259 = .ok (.ireturn, 1) := by decide +kernel
theorem d_MO_take_260 : decode prog_12_method_47_code 260 = .ok (.aload_n 0, 1) := by decide +kernel
theorem d_MO_take_261 : decode prog_12_method_47_code 261 = .ok (.iload_n 1, 1) := by decide +kernel
theorem d_MO_take_262 : decode prog_12_method_47_code 262 = .ok (.iload 7, 2) := by decide +kernel
theorem d_MO_take_264 : decode prog_12_method_47_code 264 = .ok (.invokevirtual 267, 3) := by decide +kernel
theorem d_MO_take_267 : decode prog_12_method_47_code 267 = .ok (.aload_n 0, 1) := by decide +kernel
theorem d_MO_take_268 : decode prog_12_method_47_code 268 = .ok (.getfield 36, 3) := by decide +kernel
theorem d_MO_take_271 : decode prog_12_method_47_code 271 = .ok (.iload_n 1, 1) := by decide +kernel
theorem d_MO_take_272 : decode prog_12_method_47_code 272 = .ok (.lload_n 3, 1) := by decide +kernel
theorem d_MO_take_273 : decode prog_12_method_47_code 273 = .ok (.lastore, 1) := by decide +kernel
theorem d_MO_take_274 : decode prog_12_method_47_code 274 = .ok (.aload_n 0, 1) := by decide +kernel
theorem d_MO_take_275 : decode prog_12_method_47_code 275 = .ok (.iload_n 1, 1) := by decide +kernel
theorem d_MO_take_276 : decode prog_12_method_47_code 276 = .ok (.iload 6, 2) := by decide +kernel
theorem d_MO_take_278 : decode prog_12_method_47_code 278 = .ok (.invokevirtual 256, 3) := by decide +kernel
theorem d_MO_take_281 : decode prog_12_method_47_code 281 = .ok (.aload_n 0, 1) := by decide +kernel
theorem d_MO_take_282 : decode prog_12_method_47_code 282 = .ok (.getfield 30, 3) := by decide +kernel
theorem d_MO_take_285 : decode prog_12_method_47_code 285 = .ok (.iload_n 1, 1) := by decide +kernel
theorem d_MO_take_286 : decode prog_12_method_47_code 286 = .ok (.iaload, 1) := by decide +kernel
theorem d_MO_take_287 : decode prog_12_method_47_code 287 = .ok (.ireturn, 1) := by decide +kernel
theorem d_MO_copy_0 : decode prog_12_method_48_code 0 = .ok (.iload_n 1, 1) := by decide +kernel
theorem d_MO_copy_1 : decode prog_12_method_48_code 1 = .ok (.invokestatic 187, 3) := by decide +kernel
theorem d_MO_copy_4 : decode prog_12_method_48_code 4 = .ok (.ifCond .eq 27, 3) := by decide +kernel
theorem d_MO_copy_7 : decode prog_12_method_48_code 7 = .ok (.aload_n 0, 1) := by decide +kernel
theorem d_MO_copy_8 : decode prog_12_method_48_code 8 = .ok (.getfield 51, 3) := by decide +kernel
theorem d_MO_copy_11 : decode prog_12_method_48_code 11 = .ok (.iconst 1, 1) := by decide +kernel
theorem d_MO_copy_12 : decode prog_12_method_48_code 12 = .ok (.iload_n 1, 1) := by decide +kernel
theorem d_MO_copy_13 : decode prog_12_method_48_code 13 = .ok (.iadd, 1) := by decide +kernel
theorem d_MO_copy_14 : decode prog_12_method_48_code 14 = .ok (.iaload, 1) := by decide +kernel
theorem d_MO_copy_15 : decode prog_12_method_48_code 15 = .ok (.ifCond .eq 16, 3) := by decide +kernel
theorem d_MO_copy_18 : decode prog_12_method_48_code 18 = .ok (.aload_n 0, 1) := by decide +kernel
theorem d_MO_copy_19 : decode prog_12_method_48_code 19 = .ok (.getfield 51, 3) := by decide +kernel
theorem d_MO_copy_22 : decode prog_12_method_48_code 22 = .ok (.iconst 1, 1) := by decide +kernel
theorem d_MO_copy_23 : decode prog_12_method_48_code 23 = .ok (.iload_n 1, 1) := by decide +kernel
theorem d_MO_copy_24 : decode prog_12_method_48_code 24 = .ok (.iadd, 1) := by decide +kernel
theorem d_MO_copy_25 : decode prog_12_method_48_code 25 = .ok (.iaload, 1) := by decide +kernel
theorem d_MO_copy_26 : decode prog_12_method_48_code 26 = .ok (.bipush 6, 2) := by decide +kernel
theorem d_MO_copy_28 : decode prog_12_method_48_code 28 = .ok (.if_icmp .ne 5, 3) := by decide +kernel
theorem d_MO_copy_31 : decode prog_12_method_48_code 31 = .ok (.iconst 0, 1) := by decide +kernel
theorem d_MO_copy_32 : decode prog_12_method_48_code 32 = .ok (.ireturn, 1) := by decide +kernel
theorem d_MO_copy_33 : decode prog_12_method_48_code 33 = .ok (.aload_n 0, 1) := by decide +kernel
theorem d_MO_copy_34 : decode prog_12_method_48_code 34 = .ok (.iconst 1, 1) := by decide +kernel
theorem d_MO_copy_35 : decode prog_12_method_48_code 35 = .ok (.iload_n 1, 1) := by decide +kernel
theorem d_MO_copy_36 : decode prog_12_method_48_code 36 = .ok (.iadd, 1) := by decide +kernel
theorem d_MO_copy_37 : decode prog_12_method_48_code 37 = .ok (.invokestatic 159, 3) := by decide +kernel
theorem d_MO_copy_40 : decode prog_12_method_48_code 40 = .ok (.invokevirtual 217, 3) := by decide +kernel
theorem d_MO_copy_43 : decode prog_12_method_48_code 43 = .ok (.aload_n 0, 1) := by decide +kernel
theorem d_MO_copy_44 : decode prog_12_method_48_code 44 = .ok (.iconst 1, 1) := by decide +kernel
theorem d_MO_copy_45 : decode prog_12_method_48_code 45 = .ok (.iload_n 1, 1) := by decide +kernel
theorem d_MO_copy_46 : decode prog_12_method_48_code 46 = .ok (.iadd, 1) := by decide +kernel
theorem d_MO_copy_47 : decode prog_12_method_48_code 47 = .ok (.iconst 0, 1) := by decide +kernel
theorem d_MO_copy_48 : decode prog_12_method_48_code 48 = .ok (.invokevirtual 208, 3) := by decide +kernel
theorem d_MO_copy_51 : decode prog_12_method_48_code 51 = .ok (.iconst 1, 1) := by decide +kernel
theorem d_MO_copy_52 : decode prog_12_method_48_code 52 = .ok (.ireturn, 1) := by decide +kernel