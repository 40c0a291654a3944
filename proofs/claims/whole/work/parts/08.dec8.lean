theorem d_Ro_hasHeader_0 : decode prog_9_method_24_code 0 = .ok (.aload_n 0, 1) := by decide +kernel
theorem d_Ro_hasHeader_1 : decode prog_9_method_24_code 1 = .ok (.iconst 0, 1) := by decide +kernel
theorem d_Ro_hasHeader_2 : decode prog_9_method_24_code 2 = .ok (.invokevirtual 58, 3) := by decide +kernel
theorem d_Ro_hasHeader_5 : decode prog_9_method_24_code 5 = .ok (.bipush 64, 2) := by decide +kernel
theorem d_Ro_hasHeader_7 : decode prog_9_method_24_code 7 = .ok (.iand, 1) := by decide +kernel
theorem d_Ro_hasHeader_8 : decode prog_9_method_24_code 8 = .ok (.ifCond .eq 7, 3) := by decide +kernel
theorem d_Ro_hasHeader_11 : decode prog_9_method_24_code 11 = .ok (.iconst 1, 1) := by decide +kernel
theorem d_Ro_hasHeader_12 : decode prog_9_method_24_code 12 = .ok (.goto 4, 3) := by decide +kernel
theorem d_Ro_hasHeader_15 : decode prog_9_method_24_code 15 = .ok (.iconst 0, 1) := by decide +kernel
theorem d_Ro_hasHeader_16 : decode prog_9_method_24_code 16 = .ok (.ireturn, 1) := by decide +kernel
theorem d_Ro_firstBit_0 : decode prog_9_method_25_code 0 = .ok (.aload_n 0, 1) := by decide +kernel
theorem d_Ro_firstBit_1 : decode prog_9_method_25_code 1 = .ok (.invokevirtual 65, 3) := by decide +kernel
theorem d_Ro_firstBit_4 : decode prog_9_method_25_code 4 = .ok (.ifCond .eq 8, 3) := by decide +kernel
theorem d_Ro_firstBit_7 : decode prog_9_method_25_code 7 = .ok (.bipush 49, 2) := by decide +kernel
theorem d_Ro_firstBit_9 : decode prog_9_method_25_code 9 = .ok (.goto 4, 3) := by decide +kernel
theorem d_Ro_firstBit_12 : decode prog_9_method_25_code 12 = .ok (.iconst 0, 1) := by decide +kernel
theorem d_Ro_firstBit_13 : decode prog_9_method_25_code 13 = .ok (.ireturn, 1) := by decide +kernel
theorem d_Ro_submitDataAt_0 : decode prog_9_method_26_code 0 = .ok (.iconst 2, 1) := by decide +kernel
theorem d_Ro_submitDataAt_1 : decode prog_9_method_26_code 1 = .ok (.aload_n 0, 1) := by decide +kernel
theorem d_Ro_submitDataAt_2 : decode prog_9_method_26_code 2 = .ok (.iconst 2, 1) := by decide +kernel
theorem d_Ro_submitDataAt_3 : decode prog_9_method_26_code 3 = .ok (.invokevirtual 58, 3) := by decide +kernel
theorem d_Ro_submitDataAt_6 : decode prog_9_method_26_code 6 = .ok (.invokestatic 23, 3) := by decide +kernel
theorem d_Ro_submitDataAt_9 : decode prog_9_method_26_code 9 = .ok (.iadd, 1) := by decide +kernel
theorem d_Ro_submitDataAt_10 : decode prog_9_method_26_code 10 = .ok (.iconst 3, 1) := by decide +kernel
theorem d_Ro_submitDataAt_11 : decode prog_9_method_26_code 11 = .ok (.iadd, 1) := by decide +kernel
theorem d_Ro_submitDataAt_12 : decode prog_9_method_26_code 12 = .ok (.ireturn, 1) := by decide +kernel
theorem d_Ro_deliverDataAt_0 : decode prog_9_method_27_code 0 = .ok (.iconst 1, 1) := by decide +kernel
theorem d_Ro_deliverDataAt_1 : decode prog_9_method_27_code 1 = .ok (.aload_n 0, 1) := by decide +kernel
theorem d_Ro_deliverDataAt_2 : decode prog_9_method_27_code 2 = .ok (.iconst 1, 1) := by decide +kernel
theorem d_Ro_deliverDataAt_3 : decode prog_9_method_27_code 3 = .ok (.invokevirtual 58, 3) := by decide +kernel
theorem d_Ro_deliverDataAt_6 : decode prog_9_method_27_code 6 = .ok (.invokestatic 23, 3) := by decide +kernel
theorem d_Ro_deliverDataAt_9 : decode prog_9_method_27_code 9 = .ok (.iadd, 1) := by decide +kernel
theorem d_Ro_deliverDataAt_10 : decode prog_9_method_27_code 10 = .ok (.iconst 2, 1) := by decide +kernel
theorem d_Ro_deliverDataAt_11 : decode prog_9_method_27_code 11 = .ok (.iadd, 1) := by decide +kernel
theorem d_Ro_deliverDataAt_12 : decode prog_9_method_27_code 12 = .ok (.bipush 7, 2) := by decide +kernel
theorem d_Ro_deliverDataAt_14 : decode prog_9_method_27_code 14 = .ok (.iadd, 1) := by decide +kernel
theorem d_Ro_deliverDataAt_15 : decode prog_9_method_27_code 15 = .ok (.ireturn, 1) := by decide +kernel
theorem d_Ro_readText_0 : decode prog_9_method_28_code 0 = .ok (.aload_n 0, 1) := by decide +kernel
theorem d_Ro_readText_1 : decode prog_9_method_28_code 1 = .ok (.invokevirtual 69, 3) := by decide +kernel
theorem d_Ro_readText_4 : decode prog_9_method_28_code 4 = .ok (.istore_n 3, 1) := by decide +kernel
theorem d_Ro_readText_5 : decode prog_9_method_28_code 5 = .ok (.iload_n 2, 1) := by decide +kernel
theorem d_Ro_readText_6 : decode prog_9_method_28_code 6 = .ok (.istore 4, 2) := by decide +kernel
theorem d_Ro_readText_8 : decode prog_9_method_28_code 8 = .ok (.bipush 7, 2) := by decide +kernel
theorem d_Ro_readText_10 : decode prog_9_method_28_code 10 = .ok (.aload_n 0, 1) := by decide +kernel
theorem d_Ro_readText_11 : decode prog_9_method_28_code 11 = .ok (.iload_n 3, 1) := by decide +kernel
theorem d_Ro_readText_12 : decode prog_9_method_28_code 12 = .ok (.invokevirtual 58, 3) := by decide +kernel
theorem d_Ro_readText_15 : decode prog_9_method_28_code 15 = .ok (.imul, 1) := by decide +kernel
theorem d_Ro_readText_16 : decode prog_9_method_28_code 16 = .ok (.istore 5, 2) := by decide +kernel
theorem d_Ro_readText_18 : decode prog_9_method_28_code 18 = .ok (.iconst 0, 1) := by decide +kernel
theorem d_Ro_readText_19 : decode prog_9_method_28_code 19 = .ok (.istore 6, 2) := by decide +kernel
theorem d_Ro_readText_21 : decode prog_9_method_28_code 21 = .ok (.aload_n 0, 1) := by decide +kernel
theorem d_Ro_readText_22 : decode prog_9_method_28_code 22 = .ok (.invokevirtual 72, 3) := by decide +kernel
theorem d_Ro_readText_25 : decode prog_9_method_28_code 25 = .ok (.istore 7, 2) := by decide +kernel
theorem d_Ro_readText_27 : decode prog_9_method_28_code 27 = .ok (.iload 7, 2) := by decide +kernel
theorem d_Ro_readText_29 : decode prog_9_method_28_code 29 = .ok (.iload 5, 2) := by decide +kernel
theorem d_Ro_readText_31 : decode prog_9_method_28_code 31 = .ok (.if_icmp .ge 68, 3) := by decide +kernel
theorem d_Ro_readText_34 : decode prog_9_method_28_code 34 = .ok (.iload 4, 2) := by decide +kernel
theorem d_Ro_readText_36 : decode prog_9_method_28_code 36 = .ok (.aload_n 1, 1) := by decide +kernel
theorem d_Ro_readText_37 : decode prog_9_method_28_code 37 = .ok (.arraylength, 1) := by decide +kernel
theorem d_Ro_readText_38 : decode prog_9_method_28_code 38 = .ok (.if_icmp .ge 61, 3) := by decide +kernel
theorem d_Ro_readText_41 : decode prog_9_method_28_code 41 = .ok (.aload_n 0, 1) := by decide +kernel
theorem d_Ro_readText_42 : decode prog_9_method_28_code 42 = .ok (.iload_n 3, 1) := by decide +kernel
theorem d_Ro_readText_43 : decode prog_9_method_28_code 43 = .ok (.iconst 1, 1) := by decide +kernel
theorem d_Ro_readText_44 : decode prog_9_method_28_code 44 = .ok (.iadd, 1) := by decide +kernel
theorem d_Ro_readText_45 : decode prog_9_method_28_code 45 = .ok (.iload 7, 2) := by decide +kernel
theorem d_Ro_readText_47 : decode prog_9_method_28_code 47 = .ok (.invokevirtual 75, 3) := by decide +kernel
theorem d_Ro_readText_50 : decode prog_9_method_28_code 50 = .ok (.istore 8, 2) := by decide +kernel
theorem d_Ro_readText_52 : decode prog_9_method_28_code 52 = .ok (.iload 8, 2) := by decide +kernel
theorem d_Ro_readText_54 : decode prog_9_method_28_code 54 = .ok (.bipush 27, 2) := by decide +kernel
theorem d_Ro_readText_56 : decode prog_9_method_28_code 56 = .ok (.if_icmp .ne 9, 3) := by decide +kernel
theorem d_Ro_readText_59 : decode prog_9_method_28_code 59 = .ok (.iconst 1, 1) := by decide +kernel
theorem d_Ro_readText_60 : decode prog_9_method_28_code 60 = .ok (.istore 6, 2) := by decide +kernel
theorem d_Ro_readText_62 : decode prog_9_method_28_code 62 = .ok (.goto 31, 3) := by decide +kernel
theorem d_Ro_readText_65 : decode prog_9_method_28_code 65 = .ok (.aload_n 1, 1) := by decide +kernel
theorem d_Ro_readText_66 : decode prog_9_method_28_code 66 = .ok (.iload 4, 2) := by decide +kernel
theorem d_Ro_readText_68 : decode prog_9_method_28_code 68 = .ok (.iload 6, 2) := by decide +kernel
theorem d_Ro_readText_70 : decode prog_9_method_28_code 70 = .ok (.ifCond .eq 11, 3) := by decide +kernel
theorem d_Ro_readText_73 : decode prog_9_method_28_code 73 = .ok (.iload 8, 2) := by decide +kernel
theorem d_Ro_readText_75 : decode prog_9_method_28_code 75 = .ok (.invokestatic 80, 3) := by decide +kernel
theorem d_Ro_readText_78 : decode prog_9_method_28_code 78 = .ok (.goto 8, 3) := by decide +kernel
theorem d_Ro_readText_81 : decode prog_9_method_28_code 81 = .ok (.iload 8, 2) := by decide +kernel
theorem d_Ro_readText_83 : decode prog_9_method_28_code 83 = .ok (.invokestatic 83, 3) := by decide +kernel
theorem d_Ro_readText_86 : decode prog_9_method_28_code 86 = .ok (.iastore, 1) := by decide +kernel
theorem d_Ro_readText_87 : decode prog_9_method_28_code 87 = .ok (.iconst 0, 1) := by decide +kernel
theorem d_Ro_readText_88 : decode prog_9_method_28_code 88 = .ok (.istore 6, 2) := by decide +kernel
theorem d_Ro_readText_90 : decode prog_9_method_28_code 90 = .ok (.iinc 4 1, 3) := by decide +kernel
theorem d_Ro_readText_93 : decode prog_9_method_28_code 93 = .ok (.iinc 7 7, 3) := by decide +kernel
theorem d_Ro_readText_96 : decode prog_9_method_28_code 96 = .ok (.goto (-69), 3) := by decide +kernel
theorem d_Ro_readText_99 : decode prog_9_method_28_code 99 = .ok (.iload 4, 2) := by decide +kernel
theorem d_Ro_readText_101 : decode prog_9_method_28_code 101 = .ok (.ireturn, 1) := by decide +kernel
theorem d_Su_areKept_0 : decode prog_10_method_2_code 0 = .ok (.aload_n 0, 1) := by decide +kernel
theorem d_Su_areKept_1 : decode prog_10_method_2_code 1 = .ok (.iconst 0, 1) := by decide +kernel
theorem d_Su_areKept_2 : decode prog_10_method_2_code 2 = .ok (.invokevirtual 9, 3) := by decide +kernel
theorem d_Su_areKept_5 : decode prog_10_method_2_code 5 = .ok (.bipush (-97), 2) := by decide +kernel
theorem d_Su_areKept_7 : decode prog_10_method_2_code 7 = .ok (.iand, 1) := by decide +kernel
theorem d_Su_areKept_8 : decode prog_10_method_2_code 8 = .ok (.istore_n 1, 1) := by decide +kernel
theorem d_Su_areKept_9 : decode prog_10_method_2_code 9 = .ok (.iload_n 1, 1) := by decide +kernel
theorem d_Su_areKept_10 : decode prog_10_method_2_code 10 = .ok (.bipush 17, 2) := by decide +kernel
theorem d_Su_areKept_12 : decode prog_10_method_2_code 12 = .ok (.if_icmp .ne 11, 3) := by decide +kernel
theorem d_Su_areKept_15 : decode prog_10_method_2_code 15 = .ok (.aload_n 0, 1) := by decide +kernel
theorem d_Su_areKept_16 : decode prog_10_method_2_code 16 = .ok (.iconst 2, 1) := by decide +kernel
theorem d_Su_areKept_17 : decode prog_10_method_2_code 17 = .ok (.invokestatic 15, 3) := by decide +kernel
theorem d_Su_areKept_20 : decode prog_10_method_2_code 20 = .ok (.ifCond .ne 5, 3) := by decide +kernel
theorem d_Su_areKept_23 : decode prog_10_method_2_code 23 = .ok (.iconst 0, 1) := by decide +kernel
theorem d_Su_areKept_24 : decode prog_10_method_2_code 24 = .ok (.ireturn, 1) := by decide +kernel
theorem d_Su_areKept_25 : decode prog_10_method_2_code 25 = .ok (.aload_n 0, 1) := by decide +kernel
theorem d_Su_areKept_26 : decode prog_10_method_2_code 26 = .ok (.invokevirtual 21, 3) := by decide +kernel
theorem d_Su_areKept_29 : decode prog_10_method_2_code 29 = .ok (.istore_n 2, 1) := by decide +kernel
theorem d_Su_areKept_30 : decode prog_10_method_2_code 30 = .ok (.aload_n 0, 1) := by decide +kernel
theorem d_Su_areKept_31 : decode prog_10_method_2_code 31 = .ok (.iload_n 2, 1) := by decide +kernel
theorem d_Su_areKept_32 : decode prog_10_method_2_code 32 = .ok (.iconst 1, 1) := by decide +kernel
theorem d_Su_areKept_33 : decode prog_10_method_2_code 33 = .ok (.isub, 1) := by decide +kernel
theorem d_Su_areKept_34 : decode prog_10_method_2_code 34 = .ok (.invokevirtual 9, 3) := by decide +kernel
theorem d_Su_areKept_37 : decode prog_10_method_2_code 37 = .ok (.istore_n 3, 1) := by decide +kernel
theorem d_Su_areKept_38 : decode prog_10_method_2_code 38 = .ok (.aload_n 0, 1) := by decide +kernel
theorem d_Su_areKept_39 : decode prog_10_method_2_code 39 = .ok (.iload_n 2, 1) := by decide +kernel
theorem d_Su_areKept_40 : decode prog_10_method_2_code 40 = .ok (.iconst 3, 1) := by decide +kernel
theorem d_Su_areKept_41 : decode prog_10_method_2_code 41 = .ok (.isub, 1) := by decide +kernel
theorem d_Su_areKept_42 : decode prog_10_method_2_code 42 = .ok (.invokevirtual 9, 3) := by decide +kernel
theorem d_Su_areKept_45 : decode prog_10_method_2_code 45 = .ok (.ifCond .ne 36, 3) := by decide +kernel
theorem d_Su_areKept_48 : decode prog_10_method_2_code 48 = .ok (.aload_n 0, 1) := by decide +kernel
theorem d_Su_areKept_49 : decode prog_10_method_2_code 49 = .ok (.iload_n 2, 1) := by decide +kernel
theorem d_Su_areKept_50 : decode prog_10_method_2_code 50 = .ok (.iconst 2, 1) := by decide +kernel
theorem d_Su_areKept_51 : decode prog_10_method_2_code 51 = .ok (.isub, 1) := by decide +kernel
theorem d_Su_areKept_52 : decode prog_10_method_2_code 52 = .ok (.invokevirtual 9, 3) := by decide +kernel
theorem d_Su_areKept_55 : decode prog_10_method_2_code 55 = .ok (.ifCond .ne 26, 3) := by decide +kernel
theorem d_Su_areKept_58 : decode prog_10_method_2_code 58 = .ok (.iload_n 3, 1) := by decide +kernel
theorem d_Su_areKept_59 : decode prog_10_method_2_code 59 = .ok (.ifCond .lt 22, 3) := by decide +kernel
theorem d_Su_areKept_62 : decode prog_10_method_2_code 62 = .ok (.iload_n 3, 1) := by decide +kernel
theorem d_Su_areKept_63 : decode prog_10_method_2_code 63 = .ok (.sipush 143, 3) := by decide +kernel
theorem d_Su_areKept_66 : decode prog_10_method_2_code 66 = .ok (.if_icmp .gt 15, 3) := by decide +kernel
theorem d_Su_areKept_69 : decode prog_10_method_2_code 69 = .ok (.aload_n 0, 1) := by decide +kernel
theorem d_Su_areKept_70 : decode prog_10_method_2_code 70 = .ok (.iload_n 2, 1) := by decide +kernel
theorem d_Su_areKept_71 : decode prog_10_method_2_code 71 = .ok (.invokestatic 25, 3) := by decide +kernel
theorem d_Su_areKept_74 : decode prog_10_method_2_code 74 = .ok (.ifCond .eq 7, 3) := by decide +kernel
theorem d_Su_areKept_77 : decode prog_10_method_2_code 77 = .ok (.iconst 1, 1) := by decide +kernel
theorem d_Su_areKept_78 : decode prog_10_method_2_code 78 = .ok (.goto 4, 3) := by decide +kernel
theorem d_Su_areKept_81 : decode prog_10_method_2_code 81 = .ok (.iconst 0, 1) := by decide +kernel
theorem d_Su_areKept_82 : decode prog_10_method_2_code 82 = .ok (.ireturn, 1) := by decide +kernel
theorem d_Su_isAddress_0 : decode prog_10_method_3_code 0 = .ok (.aload_n 0, 1) := by decide +kernel
theorem d_Su_isAddress_1 : decode prog_10_method_3_code 1 = .ok (.iload_n 1, 1) := by decide +kernel
theorem d_Su_isAddress_2 : decode prog_10_method_3_code 2 = .ok (.invokevirtual 9, 3) := by decide +kernel
theorem d_Su_isAddress_5 : decode prog_10_method_3_code 5 = .ok (.istore_n 2, 1) := by decide +kernel
theorem d_Su_isAddress_6 : decode prog_10_method_3_code 6 = .ok (.iload_n 2, 1) := by decide +kernel
theorem d_Su_isAddress_7 : decode prog_10_method_3_code 7 = .ok (.iconst 1, 1) := by decide +kernel
theorem d_Su_isAddress_8 : decode prog_10_method_3_code 8 = .ok (.if_icmp .lt 22, 3) := by decide +kernel
theorem d_Su_isAddress_11 : decode prog_10_method_3_code 11 = .ok (.iload_n 2, 1) := by decide +kernel
theorem d_Su_isAddress_12 : decode prog_10_method_3_code 12 = .ok (.bipush 12, 2) := by decide +kernel
theorem d_Su_isAddress_14 : decode prog_10_method_3_code 14 = .ok (.if_icmp .gt 16, 3) := by decide +kernel
theorem d_Su_isAddress_17 : decode prog_10_method_3_code 17 = .ok (.aload_n 0, 1) := by decide +kernel
theorem d_Su_isAddress_18 : decode prog_10_method_3_code 18 = .ok (.iload_n 1, 1) := by decide +kernel
theorem d_Su_isAddress_19 : decode prog_10_method_3_code 19 = .ok (.iconst 1, 1) := by decide +kernel
theorem d_Su_isAddress_20 : decode prog_10_method_3_code 20 = .ok (.iadd, 1) := by decide +kernel
theorem d_Su_isAddress_21 : decode prog_10_method_3_code 21 = .ok (.invokevirtual 9, 3) := by decide +kernel
theorem d_Su_isAddress_24 : decode prog_10_method_3_code 24 = .ok (.sipush 145, 3) := by decide +kernel
theorem d_Su_isAddress_27 : decode prog_10_method_3_code 27 = .ok (.if_icmp .eq 5, 3) := by decide +kernel
theorem d_Su_isAddress_30 : decode prog_10_method_3_code 30 = .ok (.iconst 0, 1) := by decide +kernel
theorem d_Su_isAddress_31 : decode prog_10_method_3_code 31 = .ok (.ireturn, 1) := by decide +kernel
theorem d_Su_isAddress_32 : decode prog_10_method_3_code 32 = .ok (.iconst 0, 1) := by decide +kernel
theorem d_Su_isAddress_33 : decode prog_10_method_3_code 33 = .ok (.istore_n 3, 1) := by decide +kernel
theorem d_Su_isAddress_34 : decode prog_10_method_3_code 34 = .ok (.iload_n 3, 1) := by decide +kernel
theorem d_Su_isAddress_35 : decode prog_10_method_3_code 35 = .ok (.iload_n 2, 1) := by decide +kernel
theorem d_Su_isAddress_36 : decode prog_10_method_3_code 36 = .ok (.if_icmp .ge 42, 3) := by decide +kernel
theorem d_Su_isAddress_39 : decode prog_10_method_3_code 39 = .ok (.aload_n 0, 1) := by decide +kernel
theorem d_Su_isAddress_40 : decode prog_10_method_3_code 40 = .ok (.iload_n 1, 1) := by decide +kernel
theorem d_Su_isAddress_41 : decode prog_10_method_3_code 41 = .ok (.iconst 2, 1) := by decide +kernel
theorem d_Su_isAddress_42 : decode prog_10_method_3_code 42 = .ok (.iadd, 1) := by decide +kernel
theorem d_Su_isAddress_43 : decode prog_10_method_3_code 43 = .ok (.iload_n 3, 1) := by decide +kernel
theorem d_Su_isAddress_44 : decode prog_10_method_3_code 44 = .ok (.invokevirtual 28, 3) := by decide +kernel
theorem d_Su_isAddress_47 : decode prog_10_method_3_code 47 = .ok (.istore 4, 2) := by decide +kernel
theorem d_Su_isAddress_49 : decode prog_10_method_3_code 49 = .ok (.iload 4, 2) := by decide +kernel
theorem d_Su_isAddress_51 : decode prog_10_method_3_code 51 = .ok (.iload_n 3, 1) := by decide +kernel
theorem d_Su_isAddress_52 : decode prog_10_method_3_code 52 = .ok (.ifCond .ne 7, 3) := by decide +kernel
theorem d_Su_isAddress_55 : decode prog_10_method_3_code 55 = .ok (.iconst 1, 1) := by decide +kernel
theorem d_Su_isAddress_56 : decode prog_10_method_3_code 56 = .ok (.goto 4, 3) := by decide +kernel
theorem d_Su_isAddress_59 : decode prog_10_method_3_code 59 = .ok (.iconst 0, 1) := by decide +kernel
theorem d_Su_isAddress_60 : decode prog_10_method_3_code 60 = .ok (.if_icmp .lt 10, 3) := by decide +kernel
theorem d_Su_isAddress_63 : decode prog_10_method_3_code 63 = .ok (.iload 4, 2) := by decide +kernel
theorem d_Su_isAddress_65 : decode prog_10_method_3_code 65 = .ok (.bipush 9, 2) := by decide +kernel
theorem d_Su_isAddress_67 : decode prog_10_method_3_code 67 = .ok (.if_icmp .le 5, 3) := by decide +kernel
theorem d_Su_isAddress_70 : decode prog_10_method_3_code 70 = .ok (.iconst 0, 1) := by decide +kernel
theorem d_Su_isAddress_71 : decode prog_10_method_3_code 71 = .ok (.ireturn, 1) := by decide +kernel
theorem d_Su_isAddress_72 : decode prog_10_method_3_code 72 = .ok (.iinc 3 1, 3) := by decide +kernel
theorem d_Su_isAddress_75 : decode prog_10_method_3_code 75 = .ok (.goto (-41), 3) := by decide +kernel
theorem d_Su_isAddress_78 : decode prog_10_method_3_code 78 = .ok (.iload_n 2, 1) := by decide +kernel
theorem d_Su_isAddress_79 : decode prog_10_method_3_code 79 = .ok (.iconst 2, 1) := by decide +kernel
theorem d_Su_isAddress_80 : decode prog_10_method_3_code 80 = .ok (.irem, 1) := by decide +kernel
theorem d_Su_isAddress_81 : decode prog_10_method_3_code 81 = .ok (.ifCond .eq 16, 3) := by decide +kernel
theorem d_Su_isAddress_84 : decode prog_10_method_3_code 84 = .ok (.aload_n 0, 1) := by decide +kernel
theorem d_Su_isAddress_85 : decode prog_10_method_3_code 85 = .ok (.iload_n 1, 1) := by decide +kernel
theorem d_Su_isAddress_86 : decode prog_10_method_3_code 86 = .ok (.iconst 2, 1) := by decide +kernel
theorem d_Su_isAddress_87 : decode prog_10_method_3_code 87 = .ok (.iadd, 1) := by decide +kernel
theorem d_Su_isAddress_88 : decode prog_10_method_3_code 88 = .ok (.iload_n 2, 1) := by decide +kernel
theorem d_Su_isAddress_89 : decode prog_10_method_3_code 89 = .ok (.invokevirtual 28, 3) := by decide +kernel
theorem d_Su_isAddress_92 : decode prog_10_method_3_code 92 = .ok (.bipush 15, 2) := by decide +kernel
theorem d_Su_isAddress_94 : decode prog_10_method_3_code 94 = .ok (.if_icmp .ne 7, 3) := by decide +kernel
theorem d_Su_isAddress_97 : decode prog_10_method_3_code 97 = .ok (.iconst 1, 1) := by decide +kernel
theorem d_Su_isAddress_98 : decode prog_10_method_3_code 98 = .ok (.goto 4, 3) := by decide +kernel
theorem d_Su_isAddress_101 : decode prog_10_method_3_code 101 = .ok (.iconst 0, 1) := by decide +kernel
theorem d_Su_isAddress_102 : decode prog_10_method_3_code 102 = .ok (.ireturn, 1) := by decide +kernel
theorem d_Su_isUserData_0 : decode prog_10_method_4_code 0 = .ok (.aload_n 0, 1) := by decide +kernel
theorem d_Su_isUserData_1 : decode prog_10_method_4_code 1 = .ok (.iload_n 1, 1) := by decide +kernel
theorem d_Su_isUserData_2 : decode prog_10_method_4_code 2 = .ok (.invokevirtual 9, 3) := by decide +kernel
theorem d_Su_isUserData_5 : decode prog_10_method_4_code 5 = .ok (.istore_n 2, 1) := by decide +kernel
theorem d_Su_isUserData_6 : decode prog_10_method_4_code 6 = .ok (.iload_n 2, 1) := by decide +kernel
theorem d_Su_isUserData_7 : decode prog_10_method_4_code 7 = .ok (.ifCond .lt 23, 3) := by decide +kernel
theorem d_Su_isUserData_10 : decode prog_10_method_4_code 10 = .ok (.iload_n 2, 1) := by decide +kernel
theorem d_Su_isUserData_11 : decode prog_10_method_4_code 11 = .ok (.sipush 160, 3) := by decide +kernel
theorem d_Su_isUserData_14 : decode prog_10_method_4_code 14 = .ok (.if_icmp .gt 16, 3) := by decide +kernel
theorem d_Su_isUserData_17 : decode prog_10_method_4_code 17 = .ok (.aload_n 0, 1) := by decide +kernel
theorem d_Su_isUserData_18 : decode prog_10_method_4_code 18 = .ok (.invokevirtual 32, 3) := by decide +kernel
theorem d_Su_isUserData_21 : decode prog_10_method_4_code 21 = .ok (.iload_n 1, 1) := by decide +kernel
theorem d_Su_isUserData_22 : decode prog_10_method_4_code 22 = .ok (.iload_n 2, 1) := by decide +kernel
theorem d_Su_isUserData_23 : decode prog_10_method_4_code 23 = .ok (.invokestatic 35, 3) := by decide +kernel
theorem d_Su_isUserData_26 : decode prog_10_method_4_code 26 = .ok (.iadd, 1) := by decide +kernel
theorem d_Su_isUserData_27 : decode prog_10_method_4_code 27 = .ok (.if_icmp .eq 5, 3) := by decide +kernel
theorem d_Su_isUserData_30 : decode prog_10_method_4_code 30 = .ok (.iconst 0, 1) := by decide +kernel
theorem d_Su_isUserData_31 : decode prog_10_method_4_code 31 = .ok (.ireturn, 1) := by decide +kernel
theorem d_Su_isUserData_32 : decode prog_10_method_4_code 32 = .ok (.aload_n 0, 1) := by decide +kernel
theorem d_Su_isUserData_33 : decode prog_10_method_4_code 33 = .ok (.invokevirtual 38, 3) := by decide +kernel
theorem d_Su_isUserData_36 : decode prog_10_method_4_code 36 = .ok (.ifCond .eq 21, 3) := by decide +kernel
theorem d_Su_isUserData_39 : decode prog_10_method_4_code 39 = .ok (.iload_n 2, 1) := by decide +kernel
theorem d_Su_isUserData_40 : decode prog_10_method_4_code 40 = .ok (.bipush 7, 2) := by decide +kernel
theorem d_Su_isUserData_42 : decode prog_10_method_4_code 42 = .ok (.if_icmp .lt 13, 3) := by decide +kernel
theorem d_Su_isUserData_45 : decode prog_10_method_4_code 45 = .ok (.aload_n 0, 1) := by decide +kernel
theorem d_Su_isUserData_46 : decode prog_10_method_4_code 46 = .ok (.iload_n 1, 1) := by decide +kernel
theorem d_Su_isUserData_47 : decode prog_10_method_4_code 47 = .ok (.iconst 1, 1) := by decide +kernel
theorem d_Su_isUserData_48 : decode prog_10_method_4_code 48 = .ok (.iadd, 1) := by decide +kernel
theorem d_Su_isUserData_49 : decode prog_10_method_4_code 49 = .ok (.invokestatic 42, 3) := by decide +kernel
theorem d_Su_isUserData_52 : decode prog_10_method_4_code 52 = .ok (.ifCond .ne 5, 3) := by decide +kernel
theorem d_Su_isUserData_55 : decode prog_10_method_4_code 55 = .ok (.iconst 0, 1) := by decide +kernel
theorem d_Su_isUserData_56 : decode prog_10_method_4_code 56 = .ok (.ireturn, 1) := by decide +kernel
theorem d_Su_isUserData_57 : decode prog_10_method_4_code 57 = .ok (.bipush 7, 2) := by decide +kernel
theorem d_Su_isUserData_59 : decode prog_10_method_4_code 59 = .ok (.iload_n 2, 1) := by decide +kernel
theorem d_Su_isUserData_60 : decode prog_10_method_4_code 60 = .ok (.imul, 1) := by decide +kernel
theorem d_Su_isUserData_61 : decode prog_10_method_4_code 61 = .ok (.bipush 8, 2) := by decide +kernel
theorem d_Su_isUserData_63 : decode prog_10_method_4_code 63 = .ok (.irem, 1) := by decide +kernel
theorem d_Su_isUserData_64 : decode prog_10_method_4_code 64 = .ok (.istore_n 3, 1) := by decide +kernel
theorem d_Su_isUserData_65 : decode prog_10_method_4_code 65 = .ok (.iload_n 3, 1) := by decide +kernel
theorem d_Su_isUserData_66 : decode prog_10_method_4_code 66 = .ok (.ifCond .eq 20, 3) := by decide +kernel
theorem d_Su_isUserData_69 : decode prog_10_method_4_code 69 = .ok (.aload_n 0, 1) := by decide +kernel
theorem d_Su_isUserData_70 : decode prog_10_method_4_code 70 = .ok (.aload_n 0, 1) := by decide +kernel
theorem d_Su_isUserData_71 : decode prog_10_method_4_code 71 = .ok (.invokevirtual 32, 3) := by decide +kernel
theorem d_Su_isUserData_74 : decode prog_10_method_4_code 74 = .ok (.iconst 1, 1) := by decide +kernel
theorem d_Su_isUserData_75 : decode prog_10_method_4_code 75 = .ok (.isub, 1) := by decide +kernel
theorem d_Su_isUserData_76 : decode prog_10_method_4_code 76 = .ok (.invokevirtual 9, 3) := by decide +kernel
theorem d_Su_isUserData_79 : decode prog_10_method_4_code 79 = .ok (.iload_n 3, 1) := by decide +kernel
theorem d_Su_isUserData_80 : decode prog_10_method_4_code 80 = .ok (.ishr, 1) := by decide +kernel
theorem d_Su_isUserData_81 : decode prog_10_method_4_code 81 = .ok (.ifCond .eq 5, 3) := by decide +kernel
theorem d_Su_isUserData_84 : decode prog_10_method_4_code 84 = .ok (.iconst 0, 1) := by decide +kernel
theorem d_Su_isUserData_85 : decode prog_10_method_4_code 85 = .ok (.ireturn, 1) := by decide +kernel
theorem d_Su_isUserData_86 : decode prog_10_method_4_code 86 = .ok (.aload_n 0, 1) := by decide +kernel
theorem d_Su_isUserData_87 : decode prog_10_method_4_code 87 = .ok (.iload_n 1, 1) := by decide +kernel
theorem d_Su_isUserData_88 : decode prog_10_method_4_code 88 = .ok (.invokestatic 45, 3) := by decide +kernel
theorem d_Su_isUserData_91 : decode prog_10_method_4_code 91 = .ok (.ireturn, 1) := by decide +kernel
theorem d_Su_isHeader_0 : decode prog_10_method_5_code 0 = .ok (.aload_n 0, 1) := by decide +kernel
theorem d_Su_isHeader_1 : decode prog_10_method_5_code 1 = .ok (.iload_n 1, 1) := by decide +kernel
theorem d_Su_isHeader_2 : decode prog_10_method_5_code 2 = .ok (.iconst 4, 1) := by decide +kernel
theorem d_Su_isHeader_3 : decode prog_10_method_5_code 3 = .ok (.iadd, 1) := by decide +kernel
theorem d_Su_isHeader_4 : decode prog_10_method_5_code 4 = .ok (.invokevirtual 9, 3) := by decide +kernel
theorem d_Su_isHeader_7 : decode prog_10_method_5_code 7 = .ok (.istore_n 2, 1) := by decide +kernel
theorem d_Su_isHeader_8 : decode prog_10_method_5_code 8 = .ok (.aload_n 0, 1) := by decide +kernel
theorem d_Su_isHeader_9 : decode prog_10_method_5_code 9 = .ok (.iload_n 1, 1) := by decide +kernel
theorem d_Su_isHeader_10 : decode prog_10_method_5_code 10 = .ok (.iconst 5, 1) := by decide +kernel
theorem d_Su_isHeader_11 : decode prog_10_method_5_code 11 = .ok (.iadd, 1) := by decide +kernel
theorem d_Su_isHeader_12 : decode prog_10_method_5_code 12 = .ok (.invokevirtual 9, 3) := by decide +kernel
theorem d_Su_isHeader_15 : decode prog_10_method_5_code 15 = .ok (.istore_n 3, 1) := by decide +kernel
theorem d_Su_isHeader_16 : decode prog_10_method_5_code 16 = .ok (.aload_n 0, 1) := by decide +kernel
theorem d_Su_isHeader_17 : decode prog_10_method_5_code 17 = .ok (.iload_n 1, 1) := by decide +kernel
theorem d_Su_isHeader_18 : decode prog_10_method_5_code 18 = .ok (.bipush 6, 2) := by decide +kernel
theorem d_Su_isHeader_20 : decode prog_10_method_5_code 20 = .ok (.iadd, 1) := by decide +kernel
theorem d_Su_isHeader_21 : decode prog_10_method_5_code 21 = .ok (.invokevirtual 9, 3) := by decide +kernel
theorem d_Su_isHeader_24 : decode prog_10_method_5_code 24 = .ok (.iconst 1, 1) := by decide +kernel
theorem d_Su_isHeader_25 : decode prog_10_method_5_code 25 = .ok (.iand, 1) := by decide +kernel
theorem d_Su_isHeader_26 : decode prog_10_method_5_code 26 = .ok (.ifCond .ne 7, 3) := by decide +kernel
theorem d_Su_isHeader_29 : decode prog_10_method_5_code 29 = .ok (.iconst 1, 1) := by decide +kernel
theorem d_Su_isHeader_30 : decode prog_10_method_5_code 30 = .ok (.goto 4, 3) := by decide +kernel
theorem d_Su_isHeader_33 : decode prog_10_method_5_code 33 = .ok (.iconst 0, 1) := by decide +kernel
theorem d_Su_isHeader_34 : decode prog_10_method_5_code 34 = .ok (.istore 4, 2) := by decide +kernel
theorem d_Su_isHeader_36 : decode prog_10_method_5_code 36 = .ok (.aload_n 0, 1) := by decide +kernel
theorem d_Su_isHeader_37 : decode prog_10_method_5_code 37 = .ok (.iload_n 1, 1) := by decide +kernel
theorem d_Su_isHeader_38 : decode prog_10_method_5_code 38 = .ok (.invokevirtual 9, 3) := by decide +kernel
theorem d_Su_isHeader_41 : decode prog_10_method_5_code 41 = .ok (.iconst 5, 1) := by decide +kernel
theorem d_Su_isHeader_42 : decode prog_10_method_5_code 42 = .ok (.if_icmp .ne 53, 3) := by decide +kernel
theorem d_Su_isHeader_45 : decode prog_10_method_5_code 45 = .ok (.aload_n 0, 1) := by decide +kernel
theorem d_Su_isHeader_46 : decode prog_10_method_5_code 46 = .ok (.iload_n 1, 1) := by decide +kernel
theorem d_Su_isHeader_47 : decode prog_10_method_5_code 47 = .ok (.iconst 1, 1) := by decide +kernel
theorem d_Su_isHeader_48 : decode prog_10_method_5_code 48 = .ok (.iadd, 1) := by decide +kernel
theorem d_Su_isHeader_49 : decode prog_10_method_5_code 49 = .ok (.invokevirtual 9, 3) := by decide +kernel
theorem d_Su_isHeader_52 : decode prog_10_method_5_code 52 = .ok (.ifCond .ne 43, 3) := by decide +kernel
theorem d_Su_isHeader_55 : decode prog_10_method_5_code 55 = .ok (.aload_n 0, 1) := by decide +kernel
theorem d_Su_isHeader_56 : decode prog_10_method_5_code 56 = .ok (.iload_n 1, 1) := by decide +kernel
theorem d_Su_isHeader_57 : decode prog_10_method_5_code 57 = .ok (.iconst 2, 1) := by decide +kernel
theorem d_Su_isHeader_58 : decode prog_10_method_5_code 58 = .ok (.iadd, 1) := by decide +kernel
theorem d_Su_isHeader_59 : decode prog_10_method_5_code 59 = .ok (.invokevirtual 9, 3) := by decide +kernel
theorem d_Su_isHeader_62 : decode prog_10_method_5_code 62 = .ok (.iconst 3, 1) := by decide +kernel
theorem d_Su_isHeader_63 : decode prog_10_method_5_code 63 = .ok (.if_icmp .ne 32, 3) := by decide +kernel
theorem d_Su_isHeader_66 : decode prog_10_method_5_code 66 = .ok (.iload_n 2, 1) := by decide +kernel
theorem d_Su_isHeader_67 : decode prog_10_method_5_code 67 = .ok (.iconst 1, 1) := by decide +kernel
theorem d_Su_isHeader_68 : decode prog_10_method_5_code 68 = .ok (.if_icmp .lt 27, 3) := by decide +kernel
theorem d_Su_isHeader_71 : decode prog_10_method_5_code 71 = .ok (.iload_n 2, 1) := by decide +kernel
theorem d_Su_isHeader_72 : decode prog_10_method_5_code 72 = .ok (.iconst 3, 1) := by decide +kernel
theorem d_Su_isHeader_73 : decode prog_10_method_5_code 73 = .ok (.if_icmp .gt 22, 3) := by decide +kernel
theorem d_Su_isHeader_76 : decode prog_10_method_5_code 76 = .ok (.iload_n 3, 1) := by decide +kernel
theorem d_Su_isHeader_77 : decode prog_10_method_5_code 77 = .ok (.iconst 1, 1) := by decide +kernel
theorem d_Su_isHeader_78 : decode prog_10_method_5_code 78 = .ok (.if_icmp .lt 17, 3) := by decide +kernel
theorem d_Su_isHeader_81 : decode prog_10_method_5_code 81 = .ok (.iload_n 3, 1) := by decide +kernel
theorem d_Su_isHeader_82 : decode prog_10_method_5_code 82 = .ok (.iload_n 2, 1) := by decide +kernel
theorem d_Su_isHeader_83 : decode prog_10_method_5_code 83 = .ok (.if_icmp .gt 12, 3) := by decide +kernel
theorem d_Su_isHeader_86 : decode prog_10_method_5_code 86 = .ok (.iload 4, 2) := by decide +kernel
theorem d_Su_isHeader_88 : decode prog_10_method_5_code 88 = .ok (.ifCond .eq 7, 3) := by decide +kernel
theorem d_Su_isHeader_91 : decode prog_10_method_5_code 91 = .ok (.iconst 1, 1) := by decide +kernel
theorem d_Su_isHeader_92 : decode prog_10_method_5_code 92 = .ok (.goto 4, 3) := by decide +kernel
theorem d_Su_isHeader_95 : decode prog_10_method_5_code 95 = .ok (.iconst 0, 1) := by decide +kernel
theorem d_Su_isHeader_96 : decode prog_10_method_5_code 96 = .ok (.ireturn, 1) := by decide +kernel
theorem d_Su_isText_0 : decode prog_10_method_6_code 0 = .ok (.bipush 7, 2) := by decide +kernel
theorem d_Su_isText_2 : decode prog_10_method_6_code 2 = .ok (.aload_n 0, 1) := by decide +kernel
theorem d_Su_isText_3 : decode prog_10_method_6_code 3 = .ok (.iload_n 1, 1) := by decide +kernel
theorem d_Su_isText_4 : decode prog_10_method_6_code 4 = .ok (.invokevirtual 9, 3) := by decide +kernel
theorem d_Su_isText_7 : decode prog_10_method_6_code 7 = .ok (.imul, 1) := by decide +kernel
theorem d_Su_isText_8 : decode prog_10_method_6_code 8 = .ok (.istore_n 2, 1) := by decide +kernel
theorem d_Su_isText_9 : decode prog_10_method_6_code 9 = .ok (.iconst 0, 1) := by decide +kernel
theorem d_Su_isText_10 : decode prog_10_method_6_code 10 = .ok (.istore_n 3, 1) := by decide +kernel
theorem d_Su_isText_11 : decode prog_10_method_6_code 11 = .ok (.aload_n 0, 1) := by decide +kernel
theorem d_Su_isText_12 : decode prog_10_method_6_code 12 = .ok (.invokevirtual 48, 3) := by decide +kernel
theorem d_Su_isText_15 : decode prog_10_method_6_code 15 = .ok (.istore 4, 2) := by decide +kernel
theorem d_Su_isText_17 : decode prog_10_method_6_code 17 = .ok (.iload 4, 2) := by decide +kernel
theorem d_Su_isText_19 : decode prog_10_method_6_code 19 = .ok (.iload_n 2, 1) := by decide +kernel
theorem d_Su_isText_20 : decode prog_10_method_6_code 20 = .ok (.if_icmp .ge 52, 3) := by decide +kernel
theorem d_Su_isText_23 : decode prog_10_method_6_code 23 = .ok (.aload_n 0, 1) := by decide +kernel
theorem d_Su_isText_24 : decode prog_10_method_6_code 24 = .ok (.iload_n 1, 1) := by decide +kernel
theorem d_Su_isText_25 : decode prog_10_method_6_code 25 = .ok (.iconst 1, 1) := by decide +kernel
theorem d_Su_isText_26 : decode prog_10_method_6_code 26 = .ok (.iadd, 1) := by decide +kernel
theorem d_Su_isText_27 : decode prog_10_method_6_code 27 = .ok (.iload 4, 2) := by decide +kernel
theorem d_Su_isText_29 : decode prog_10_method_6_code 29 = .ok (.invokevirtual 51, 3) := by decide +kernel
theorem d_Su_isText_32 : decode prog_10_method_6_code 32 = .ok (.istore 5, 2) := by decide +kernel
theorem d_Su_isText_34 : decode prog_10_method_6_code 34 = .ok (.iload_n 3, 1) := by decide +kernel
theorem d_Su_isText_35 : decode prog_10_method_6_code 35 = .ok (.ifCond .eq 18, 3) := by decide +kernel
theorem d_Su_isText_38 : decode prog_10_method_6_code 38 = .ok (.iload 5, 2) := by decide +kernel
theorem d_Su_isText_40 : decode prog_10_method_6_code 40 = .ok (.invokestatic 54, 3) := by decide +kernel
theorem d_Su_isText_43 : decode prog_10_method_6_code 43 = .ok (.ifCond .ge 5, 3) := by decide +kernel
theorem d_Su_isText_46 : decode prog_10_method_6_code 46 = .ok (.iconst 0, 1) := by decide +kernel
theorem d_Su_isText_47 : decode prog_10_method_6_code 47 = .ok (.ireturn, 1) := by decide +kernel
theorem d_Su_isText_48 : decode prog_10_method_6_code 48 = .ok (.iconst 0, 1) := by decide +kernel
theorem d_Su_isText_49 : decode prog_10_method_6_code 49 = .ok (.istore_n 3, 1) := by decide +kernel
theorem d_Su_isText_50 : decode prog_10_method_6_code 50 = .ok (.goto 16, 3) := by decide +kernel
theorem d_Su_isText_53 : decode prog_10_method_6_code 53 = .ok (.iload 5, 2) := by decide +kernel
theorem d_Su_isText_55 : decode prog_10_method_6_code 55 = .ok (.bipush 27, 2) := by decide +kernel
theorem d_Su_isText_57 : decode prog_10_method_6_code 57 = .ok (.if_icmp .ne 7, 3) := by decide +kernel
theorem d_Su_isText_60 : decode prog_10_method_6_code 60 = .ok (.iconst 1, 1) := by decide +kernel
theorem d_Su_isText_61 : decode prog_10_method_6_code 61 = .ok (.goto 4, 3) := by decide +kernel
theorem d_Su_isText_64 : decode prog_10_method_6_code 64 = .ok (.iconst 0, 1) := by decide +kernel
theorem d_Su_isText_65 : decode prog_10_method_6_code 65 = .ok (.istore_n 3, 1) := by decide +kernel
theorem d_Su_isText_66 : decode prog_10_method_6_code 66 = .ok (.iinc 4 7, 3) := by decide +kernel
theorem d_Su_isText_69 : decode prog_10_method_6_code 69 = .ok (.goto (-52), 3) := by decide +kernel
theorem d_Su_isText_72 : decode prog_10_method_6_code 72 = .ok (.iload_n 3, 1) := by decide +kernel
theorem d_Su_isText_73 : decode prog_10_method_6_code 73 = .ok (.ifCond .ne 7, 3) := by decide +kernel
theorem d_Su_isText_76 : decode prog_10_method_6_code 76 = .ok (.iconst 1, 1) := by decide +kernel
theorem d_Su_isText_77 : decode prog_10_method_6_code 77 = .ok (.goto 4, 3) := by decide +kernel
theorem d_Su_isText_80 : decode prog_10_method_6_code 80 = .ok (.iconst 0, 1) := by decide +kernel
theorem d_Su_isText_81 : decode prog_10_method_6_code 81 = .ok (.ireturn, 1) := by decide +kernel
theorem d_Obj_init_0 : decode object_method_1_code 0 = .ok (.return_, 1) := by decide +kernel
theorem d_Ma_max_0 : decode prog_17_method_65_code 0 = .ok (.iload_n 0, 1) := by decide +kernel
theorem d_Ma_max_1 : decode prog_17_method_65_code 1 = .ok (.iload_n 1, 1) := by decide +kernel
theorem d_Ma_max_2 : decode prog_17_method_65_code 2 = .ok (.if_icmp .lt 7, 3) := by decide +kernel
theorem d_Ma_max_5 : decode prog_17_method_65_code 5 = .ok (.iload_n 0, 1) := by decide +kernel
theorem d_Ma_max_6 : decode prog_17_method_65_code 6 = .ok (.goto 4, 3) := by decide +kernel
theorem d_Ma_max_9 : decode prog_17_method_65_code 9 = .ok (.iload_n 1, 1) := by decide +kernel
theorem d_Ma_max_10 : decode prog_17_method_65_code 10 = .ok (.ireturn, 1) := by decide +kernel
theorem d_Ma_min_0 : decode prog_17_method_69_code 0 = .ok (.iload_n 0, 1) := by decide +kernel
theorem d_Ma_min_1 : decode prog_17_method_69_code 1 = .ok (.iload_n 1, 1) := by decide +kernel
theorem d_Ma_min_2 : decode prog_17_method_69_code 2 = .ok (.if_icmp .gt 7, 3) := by decide +kernel
theorem d_Ma_min_5 : decode prog_17_method_69_code 5 = .ok (.iload_n 0, 1) := by decide +kernel
theorem d_Ma_min_6 : decode prog_17_method_69_code 6 = .ok (.goto 4, 3) := by decide +kernel
theorem d_Ma_min_9 : decode prog_17_method_69_code 9 = .ok (.iload_n 1, 1) := by decide +kernel
theorem d_Ma_min_10 : decode prog_17_method_69_code 10 = .ok (.ireturn, 1) := by decide +kernel
theorem d_AbC_init_0 : decode prog_19_method_1_code 0 = .ok (.aload_n 0, 1) := by decide +kernel
theorem d_AbC_init_1 : decode prog_19_method_1_code 1 = .ok (.invokespecial 1, 3) := by decide +kernel
theorem d_AbC_init_4 : decode prog_19_method_1_code 4 = .ok (.return_, 1) := by decide +kernel
theorem d_AbL_init_0 : decode prog_20_method_1_code 0 = .ok (.aload_n 0, 1) := by decide +kernel
theorem d_AbL_init_1 : decode prog_20_method_1_code 1 = .ok (.invokespecial 1, 3) := by decide +kernel
theorem d_AbL_init_4 : decode prog_20_method_1_code 4 = .ok (.aload_n 0, 1) := by decide +kernel
theorem d_AbL_init_5 : decode prog_20_method_1_code 5 = .ok (.iconst 0, 1) := by decide +kernel
theorem d_AbL_init_6 : decode prog_20_method_1_code 6 = .ok (.putfield 7, 3) := by decide +kernel
theorem d_AbL_init_9 : decode prog_20_method_1_code 9 = .ok (.return_, 1) := by decide +kernel
theorem d_AL_init_0 : decode prog_21_method_2_code 0 = .ok (.aload_n 0, 1) := by decide +kernel
theorem d_AL_init_1 : decode prog_21_method_2_code 1 = .ok (.invokespecial 1, 3) := by decide +kernel
theorem d_AL_init_4 : decode prog_21_method_2_code 4 = .ok (.aload_n 0, 1) := by decide +kernel
theorem d_AL_init_5 : decode prog_21_method_2_code 5 = .ok (.getstatic 39, 3) := by decide +kernel
theorem d_AL_init_8 : decode prog_21_method_2_code 8 = .ok (.putfield 9, 3) := by decide +kernel
theorem d_AL_init_11 : decode prog_21_method_2_code 11 = .ok (.return_, 1) := by decide +kernel
theorem d_AL_add_0 : decode prog_21_method_25_code 0 = .ok (.aload_n 0, 1) := by decide +kernel
theorem d_AL_add_1 : decode prog_21_method_25_code 1 = .ok (.dup, 1) := by decide +kernel
theorem d_AL_add_2 : decode prog_21_method_25_code 2 = .ok (.getfield 63, 3) := by decide +kernel
theorem d_AL_add_5 : decode prog_21_method_25_code 5 = .ok (.iconst 1, 1) := by decide +kernel
theorem d_AL_add_6 : decode prog_21_method_25_code 6 = .ok (.iadd, 1) := by decide +kernel
theorem d_AL_add_7 : decode prog_21_method_25_code 7 = .ok (.putfield 63, 3) := by decide +kernel
theorem d_AL_add_10 : decode prog_21_method_25_code 10 = .ok (.aload_n 0, 1) := by decide +kernel
theorem d_AL_add_11 : decode prog_21_method_25_code 11 = .ok (.aload_n 1, 1) := by decide +kernel
theorem d_AL_add_12 : decode prog_21_method_25_code 12 = .ok (.aload_n 0, 1) := by decide +kernel
theorem d_AL_add_13 : decode prog_21_method_25_code 13 = .ok (.getfield 9, 3) := by decide +kernel
theorem d_AL_add_16 : decode prog_21_method_25_code 16 = .ok (.aload_n 0, 1) := by decide +kernel
theorem d_AL_add_17 : decode prog_21_method_25_code 17 = .ok (.getfield 48, 3) := by decide +kernel
theorem d_AL_add_20 : decode prog_21_method_25_code 20 = .ok (.invokevirtual 131, 3) := by decide +kernel
theorem d_AL_add_23 : decode prog_21_method_25_code 23 = .ok (.iconst 1, 1) := by decide +kernel
theorem d_AL_add_24 : decode prog_21_method_25_code 24 = .ok (.ireturn, 1) := by decide +kernel
theorem d_AL_add1_0 : decode prog_21_method_24_code 0 = .ok (.iload_n 3, 1) := by decide +kernel
theorem d_AL_add1_1 : decode prog_21_method_24_code 1 = .ok (.aload_n 2, 1) := by decide +kernel
theorem d_AL_add1_2 : decode prog_21_method_24_code 2 = .ok (.arraylength, 1) := by decide +kernel
theorem d_AL_add1_3 : decode prog_21_method_24_code 3 = .ok (.if_icmp .ne 8, 3) := by decide +kernel
theorem d_AL_add1_6 : decode prog_21_method_24_code 6 = .ok (.aload_n 0, 1) := by decide +kernel
theorem d_AL_add1_7 : decode prog_21_method_24_code 7 = .ok (.invokevirtual 129, 3) := by decide +kernel
theorem d_AL_add1_10 : decode prog_21_method_24_code 10 = .ok (.astore_n 2, 1) := by decide +kernel
theorem d_AL_add1_11 : decode prog_21_method_24_code 11 = .ok (.aload_n 2, 1) := by decide +kernel
theorem d_AL_add1_12 : decode prog_21_method_24_code 12 = .ok (.iload_n 3, 1) := by decide +kernel
theorem d_AL_add1_13 : decode prog_21_method_24_code 13 = .ok (.aload_n 1, 1) := by decide +kernel
theorem d_AL_add1_14 : decode prog_21_method_24_code 14 = .ok (.aastore, 1) := by decide +kernel
theorem d_AL_add1_15 : decode prog_21_method_24_code 15 = .ok (.aload_n 0, 1) := by decide +kernel
theorem d_AL_add1_16 : decode prog_21_method_24_code 16 = .ok (.iload_n 3, 1) := by decide +kernel
theorem d_AL_add1_17 : decode prog_21_method_24_code 17 = .ok (.iconst 1, 1) := by decide +kernel
theorem d_AL_add1_18 : decode prog_21_method_24_code 18 = .ok (.iadd, 1) := by decide +kernel
theorem d_AL_add1_19 : decode prog_21_method_24_code 19 = .ok (.putfield 48, 3) := by decide +kernel
theorem d_AL_add1_22 : decode prog_21_method_24_code 22 = .ok (.return_, 1) := by decide +kernel
theorem d_AL_elementData_0 : decode prog_21_method_18_code 0 = .ok (.aload_n 0, 1) := by decide +kernel
theorem d_AL_elementData_1 : decode prog_21_method_18_code 1 = .ok (.getfield 9, 3) := by decide +kernel
theorem d_AL_elementData_4 : decode prog_21_method_18_code 4 = .ok (.iload_n 1, 1) := by decide +kernel
theorem d_AL_elementData_5 : decode prog_21_method_18_code 5 = .ok (.aaload, 1) := by decide +kernel
theorem d_AL_elementData_6 : decode prog_21_method_18_code 6 = .ok (.areturn, 1) := by decide +kernel
theorem d_AL_fastRemove_0 : decode prog_21_method_39_code 0 = .ok (.aload_n 0, 1) := by decide +kernel
theorem d_AL_fastRemove_1 : decode prog_21_method_39_code 1 = .ok (.dup, 1) := by decide +kernel
theorem d_AL_fastRemove_2 : decode prog_21_method_39_code 2 = .ok (.getfield 63, 3) := by decide +kernel
theorem d_AL_fastRemove_5 : decode prog_21_method_39_code 5 = .ok (.iconst 1, 1) := by decide +kernel
theorem d_AL_fastRemove_6 : decode prog_21_method_39_code 6 = .ok (.iadd, 1) := by decide +kernel
theorem d_AL_fastRemove_7 : decode prog_21_method_39_code 7 = .ok (.putfield 63, 3) := by decide +kernel
theorem d_AL_fastRemove_10 : decode prog_21_method_39_code 10 = .ok (.aload_n 0, 1) := by decide +kernel
theorem d_AL_fastRemove_11 : decode prog_21_method_39_code 11 = .ok (.getfield 48, 3) := by decide +kernel
theorem d_AL_fastRemove_14 : decode prog_21_method_39_code 14 = .ok (.iconst 1, 1) := by decide +kernel
theorem d_AL_fastRemove_15 : decode prog_21_method_39_code 15 = .ok (.isub, 1) := by decide +kernel
theorem d_AL_fastRemove_16 : decode prog_21_method_39_code 16 = .ok (.dup, 1) := by decide +kernel
theorem d_AL_fastRemove_17 : decode prog_21_method_39_code 17 = .ok (.istore_n 3, 1) := by decide +kernel
theorem d_AL_fastRemove_18 : decode prog_21_method_39_code 18 = .ok (.iload_n 2, 1) := by decide +kernel
theorem d_AL_fastRemove_19 : decode prog_21_method_39_code 19 = .ok (.if_icmp .le 15, 3) := by decide +kernel
theorem d_AL_fastRemove_22 : decode prog_21_method_39_code 22 = .ok (.aload_n 1, 1) := by decide +kernel
theorem d_AL_fastRemove_23 : decode prog_21_method_39_code 23 = .ok (.iload_n 2, 1) := by decide +kernel
theorem d_AL_fastRemove_24 : decode prog_21_method_39_code 24 = .ok (.iconst 1, 1) := by decide +kernel
theorem d_AL_fastRemove_25 : decode prog_21_method_39_code 25 = .ok (.iadd, 1) := by decide +kernel
theorem d_AL_fastRemove_26 : decode prog_21_method_39_code 26 = .ok (.aload_n 1, 1) := by decide +kernel
theorem d_AL_fastRemove_27 : decode prog_21_method_39_code 27 = .ok (.iload_n 2, 1) := by decide +kernel
theorem d_AL_fastRemove_28 : decode prog_21_method_39_code 28 = .ok (.iload_n 3, 1) := by decide +kernel
theorem d_AL_fastRemove_29 : decode prog_21_method_39_code 29 = .ok (.iload_n 2, 1) := by decide +kernel
theorem d_AL_fastRemove_30 : decode prog_21_method_39_code 30 = .ok (.isub, 1) := by decide +kernel
theorem d_AL_fastRemove_31 : decode prog_21_method_39_code 31 = .ok (.invokestatic 112, 3) := by decide +kernel
theorem d_AL_fastRemove_34 : decode prog_21_method_39_code 34 = .ok (.aload_n 1, 1) := by decide +kernel
theorem d_AL_fastRemove_35 : decode prog_21_method_39_code 35 = .ok (.aload_n 0, 1) := by decide +kernel
theorem d_AL_fastRemove_36 : decode prog_21_method_39_code 36 = .ok (.iload_n 3, 1) := by decide +kernel
theorem d_AL_fastRemove_37 : decode prog_21_method_39_code 37 = .ok (.dup_x1, 1) := by decide +kernel
theorem d_AL_fastRemove_38 : decode prog_21_method_39_code 38 = .ok (.putfield 48, 3) := by decide +kernel
theorem d_AL_fastRemove_41 : decode prog_21_method_39_code 41 = .ok (.aconst_null, 1) := by decide +kernel
theorem d_AL_fastRemove_42 : decode prog_21_method_39_code 42 = .ok (.aastore, 1) := by decide +kernel
theorem d_AL_fastRemove_43 : decode prog_21_method_39_code 43 = .ok (.return_, 1) := by decide +kernel
theorem d_AL_get_0 : decode prog_21_method_20_code 0 = .ok (.iload_n 1, 1) := by decide +kernel
theorem d_AL_get_1 : decode prog_21_method_20_code 1 = .ok (.aload_n 0, 1) := by decide +kernel
theorem d_AL_get_2 : decode prog_21_method_20_code 2 = .ok (.getfield 48, 3) := by decide +kernel
theorem d_AL_get_5 : decode prog_21_method_20_code 5 = .ok (.invokestatic 118, 3) := by decide +kernel
theorem d_AL_get_8 : decode prog_21_method_20_code 8 = .ok (.pop, 1) := by decide +kernel
theorem d_AL_get_9 : decode prog_21_method_20_code 9 = .ok (.aload_n 0, 1) := by decide +kernel
theorem d_AL_get_10 : decode prog_21_method_20_code 10 = .ok (.iload_n 1, 1) := by decide +kernel
theorem d_AL_get_11 : decode prog_21_method_20_code 11 = .ok (.invokevirtual 123, 3) := by decide +kernel
theorem d_AL_get_14 : decode prog_21_method_20_code 14 = .ok (.areturn, 1) := by decide +kernel
theorem d_AL_grow_0 : decode prog_21_method_7_code 0 = .ok (.aload_n 0, 1) := by decide +kernel
theorem d_AL_grow_1 : decode prog_21_method_7_code 1 = .ok (.aload_n 0, 1) := by decide +kernel
theorem d_AL_grow_2 : decode prog_21_method_7_code 2 = .ok (.getfield 48, 3) := by decide +kernel
theorem d_AL_grow_5 : decode prog_21_method_7_code 5 = .ok (.iconst 1, 1) := by decide +kernel
theorem d_AL_grow_6 : decode prog_21_method_7_code 6 = .ok (.iadd, 1) := by decide +kernel
theorem d_AL_grow_7 : decode prog_21_method_7_code 7 = .ok (.invokevirtual 69, 3) := by decide +kernel
theorem d_AL_grow_10 : decode prog_21_method_7_code 10 = .ok (.areturn, 1) := by decide +kernel
theorem d_AL_grow1_0 : decode prog_21_method_6_code 0 = .ok (.aload_n 0, 1) := by decide +kernel
theorem d_AL_grow1_1 : decode prog_21_method_6_code 1 = .ok (.getfield 9, 3) := by decide +kernel
theorem d_AL_grow1_4 : decode prog_21_method_6_code 4 = .ok (.arraylength, 1) := by decide +kernel
theorem d_AL_grow1_5 : decode prog_21_method_6_code 5 = .ok (.istore_n 2, 1) := by decide +kernel
theorem d_AL_grow1_6 : decode prog_21_method_6_code 6 = .ok (.iload_n 2, 1) := by decide +kernel
theorem d_AL_grow1_7 : decode prog_21_method_6_code 7 = .ok (.ifCond .gt 13, 3) := by decide +kernel
theorem d_AL_grow1_10 : decode prog_21_method_6_code 10 = .ok (.aload_n 0, 1) := by decide +kernel
theorem d_AL_grow1_11 : decode prog_21_method_6_code 11 = .ok (.getfield 9, 3) := by decide +kernel
theorem d_AL_grow1_14 : decode prog_21_method_6_code 14 = .ok (.getstatic 39, 3) := by decide +kernel
theorem d_AL_grow1_17 : decode prog_21_method_6_code 17 = .ok (.if_acmp .eq 28, 3) := by decide +kernel
theorem d_AL_grow1_20 : decode prog_21_method_6_code 20 = .ok (.iload_n 2, 1) := by decide +kernel
theorem d_AL_grow1_21 : decode prog_21_method_6_code 21 = .ok (.iload_n 1, 1) := by decide +kernel
theorem d_AL_grow1_22 : decode prog_21_method_6_code 22 = .ok (.iload_n 2, 1) := by decide +kernel
theorem d_AL_grow1_23 : decode prog_21_method_6_code 23 = .ok (.isub, 1) := by decide +kernel
theorem d_AL_grow1_24 : decode prog_21_method_6_code 24 = .ok (.iload_n 2, 1) := by decide +kernel
theorem d_AL_grow1_25 : decode prog_21_method_6_code 25 = .ok (.iconst 1, 1) := by decide +kernel
theorem d_AL_grow1_26 : decode prog_21_method_6_code 26 = .ok (.ishr, 1) := by decide +kernel
theorem d_AL_grow1_27 : decode prog_21_method_6_code 27 = .ok (.invokestatic 73, 3) := by decide +kernel
theorem d_AL_grow1_30 : decode prog_21_method_6_code 30 = .ok (.istore_n 3, 1) := by decide +kernel
theorem d_AL_grow1_31 : decode prog_21_method_6_code 31 = .ok (.aload_n 0, 1) := by decide +kernel
theorem d_AL_grow1_32 : decode prog_21_method_6_code 32 = .ok (.aload_n 0, 1) := by decide +kernel
theorem d_AL_grow1_33 : decode prog_21_method_6_code 33 = .ok (.getfield 9, 3) := by decide +kernel
theorem d_AL_grow1_36 : decode prog_21_method_6_code 36 = .ok (.iload_n 3, 1) := by decide +kernel
theorem d_AL_grow1_37 : decode prog_21_method_6_code 37 = .ok (.invokestatic 66, 3) := by decide +kernel
theorem d_AL_grow1_40 : decode prog_21_method_6_code 40 = .ok (.dup_x1, 1) := by decide +kernel
theorem d_AL_grow1_41 : decode prog_21_method_6_code 41 = .ok (.putfield 9, 3) := by decide +kernel
theorem d_AL_grow1_44 : decode prog_21_method_6_code 44 = .ok (.areturn, 1) := by decide +kernel
theorem d_AL_grow1_45 : decode prog_21_method_6_code 45 = .ok (.aload_n 0, 1) := by decide +kernel
theorem d_AL_grow1_46 : decode prog_21_method_6_code 46 = .ok (.bipush 10, 2) := by decide +kernel
theorem d_AL_grow1_48 : decode prog_21_method_6_code 48 = .ok (.iload_n 1, 1) := by decide +kernel
theorem d_AL_grow1_49 : decode prog_21_method_6_code 49 = .ok (.invokestatic 79, 3) := by decide +kernel
theorem d_AL_grow1_52 : decode prog_21_method_6_code 52 = .ok (.anewarray 7, 3) := by decide +kernel
theorem d_AL_grow1_55 : decode prog_21_method_6_code 55 = .ok (.dup_x1, 1) := by decide +kernel
theorem d_AL_grow1_56 : decode prog_21_method_6_code 56 = .ok (.putfield 9, 3) := by decide +kernel
theorem d_AL_grow1_59 : decode prog_21_method_6_code 59 = .ok (.areturn, 1) := by decide +kernel
theorem d_AL_isEmpty_0 : decode prog_21_method_9_code 0 = .ok (.aload_n 0, 1) := by decide +kernel
theorem d_AL_isEmpty_1 : decode prog_21_method_9_code 1 = .ok (.getfield 48, 3) := by decide +kernel
theorem d_AL_isEmpty_4 : decode prog_21_method_9_code 4 = .ok (.ifCond .ne 7, 3) := by decide +kernel
theorem d_AL_isEmpty_7 : decode prog_21_method_9_code 7 = .ok (.iconst 1, 1) := by decide +kernel
theorem d_AL_isEmpty_8 : decode prog_21_method_9_code 8 = .ok (.goto 4, 3) := by decide +kernel
theorem d_AL_isEmpty_11 : decode prog_21_method_9_code 11 = .ok (.iconst 0, 1) := by decide +kernel
theorem d_AL_isEmpty_12 : decode prog_21_method_9_code 12 = .ok (.ireturn, 1) := by decide +kernel
theorem d_AL_remove_0 : decode prog_21_method_29_code 0 = .ok (.iload_n 1, 1) := by decide +kernel
theorem d_AL_remove_1 : decode prog_21_method_29_code 1 = .ok (.aload_n 0, 1) := by decide +kernel
theorem d_AL_remove_2 : decode prog_21_method_29_code 2 = .ok (.getfield 48, 3) := by decide +kernel
theorem d_AL_remove_5 : decode prog_21_method_29_code 5 = .ok (.invokestatic 118, 3) := by decide +kernel
theorem d_AL_remove_8 : decode prog_21_method_29_code 8 = .ok (.pop, 1) := by decide +kernel
theorem d_AL_remove_9 : decode prog_21_method_29_code 9 = .ok (.aload_n 0, 1) := by decide +kernel
theorem d_AL_remove_10 : decode prog_21_method_29_code 10 = .ok (.getfield 9, 3) := by decide +kernel
theorem d_AL_remove_13 : decode prog_21_method_29_code 13 = .ok (.astore_n 2, 1) := by decide +kernel
theorem d_AL_remove_14 : decode prog_21_method_29_code 14 = .ok (.aload_n 2, 1) := by decide +kernel
theorem d_AL_remove_15 : decode prog_21_method_29_code 15 = .ok (.iload_n 1, 1) := by decide +kernel
theorem d_AL_remove_16 : decode prog_21_method_29_code 16 = .ok (.aaload, 1) := by decide +kernel
theorem d_AL_remove_17 : decode prog_21_method_29_code 17 = .ok (.astore_n 3, 1) := by decide +kernel
theorem d_AL_remove_18 : decode prog_21_method_29_code 18 = .ok (.aload_n 0, 1) := by decide +kernel
theorem d_AL_remove_19 : decode prog_21_method_29_code 19 = .ok (.aload_n 2, 1) := by decide +kernel
theorem d_AL_remove_20 : decode prog_21_method_29_code 20 = .ok (.iload_n 1, 1) := by decide +kernel
theorem d_AL_remove_21 : decode prog_21_method_29_code 21 = .ok (.invokevirtual 144, 3) := by decide +kernel
theorem d_AL_remove_24 : decode prog_21_method_29_code 24 = .ok (.aload_n 3, 1) := by decide +kernel
theorem d_AL_remove_25 : decode prog_21_method_29_code 25 = .ok (.areturn, 1) := by decide +kernel
theorem d_AL_set_0 : decode prog_21_method_23_code 0 = .ok (.iload_n 1, 1) := by decide +kernel
theorem d_AL_set_1 : decode prog_21_method_23_code 1 = .ok (.aload_n 0, 1) := by decide +kernel
theorem d_AL_set_2 : decode prog_21_method_23_code 2 = .ok (.getfield 48, 3) := by decide +kernel
theorem d_AL_set_5 : decode prog_21_method_23_code 5 = .ok (.invokestatic 118, 3) := by decide +kernel
theorem d_AL_set_8 : decode prog_21_method_23_code 8 = .ok (.pop, 1) := by decide +kernel
theorem d_AL_set_9 : decode prog_21_method_23_code 9 = .ok (.aload_n 0, 1) := by decide +kernel
theorem d_AL_set_10 : decode prog_21_method_23_code 10 = .ok (.iload_n 1, 1) := by decide +kernel
theorem d_AL_set_11 : decode prog_21_method_23_code 11 = .ok (.invokevirtual 123, 3) := by decide +kernel
theorem d_AL_set_14 : decode prog_21_method_23_code 14 = .ok (.astore_n 3, 1) := by decide +kernel
theorem d_AL_set_15 : decode prog_21_method_23_code 15 = .ok (.aload_n 0, 1) := by decide +kernel
theorem d_AL_set_16 : decode prog_21_method_23_code 16 = .ok (.getfield 9, 3) := by decide +kernel
theorem d_AL_set_19 : decode prog_21_method_23_code 19 = .ok (.iload_n 1, 1) := by decide +kernel
theorem d_AL_set_20 : decode prog_21_method_23_code 20 = .ok (.aload_n 2, 1) := by decide +kernel
theorem d_AL_set_21 : decode prog_21_method_23_code 21 = .ok (.aastore, 1) := by decide +kernel
theorem d_AL_set_22 : decode prog_21_method_23_code 22 = .ok (.aload_n 3, 1) := by decide +kernel
theorem d_AL_set_23 : decode prog_21_method_23_code 23 = .ok (.areturn, 1) := by decide +kernel
theorem d_AL_size_0 : decode prog_21_method_8_code 0 = .ok (.aload_n 0, 1) := by decide +kernel
theorem d_AL_size_1 : decode prog_21_method_8_code 1 = .ok (.getfield 48, 3) := by decide +kernel
theorem d_AL_size_4 : decode prog_21_method_8_code 4 = .ok (.ireturn, 1) := by decide +kernel
theorem d_Ar_copyOf_0 : decode prog_22_method_119_code 0 = .ok (.aload_n 0, 1) := by decide +kernel
theorem d_Ar_copyOf_1 : decode prog_22_method_119_code 1 = .ok (.iload_n 1, 1) := by decide +kernel
theorem d_Ar_copyOf_2 : decode prog_22_method_119_code 2 = .ok (.aload_n 0, 1) := by decide +kernel
theorem d_Ar_copyOf_3 : decode prog_22_method_119_code 3 = .ok (.invokevirtual 86, 3) := by decide +kernel
theorem d_Ar_copyOf_6 : decode prog_22_method_119_code 6 = .ok (.invokestatic 300, 3) := by decide +kernel
theorem d_Ar_copyOf_9 : decode prog_22_method_119_code 9 = .ok (.areturn, 1) := by decide +kernel
theorem d_Ar_copyOf1_0 : decode prog_22_method_120_code 0 = .ok (.aload_n 2, 1) := by decide +kernel
theorem d_Ar_copyOf1_1 : decode prog_22_method_120_code 1 = .ok (.ldc 110, 2) := by decide +kernel
theorem d_Ar_copyOf1_3 : decode prog_22_method_120_code 3 = .ok (.if_acmp .ne 10, 3) := by decide +kernel
theorem d_Ar_copyOf1_6 : decode prog_22_method_120_code 6 = .ok (.iload_n 1, 1) := by decide +kernel
theorem d_Ar_copyOf1_7 : decode prog_22_method_120_code 7 = .ok (.anewarray 2, 3) := by decide +kernel
theorem d_Ar_copyOf1_10 : decode prog_22_method_120_code 10 = .ok (.goto 14, 3) := by decide +kernel
theorem d_Ar_copyOf1_13 : decode prog_22_method_120_code 13 = .ok (.aload_n 2, 1) := by decide +kernel
theorem d_Ar_copyOf1_14 : decode prog_22_method_120_code 14 = .ok (.invokevirtual 90, 3) := by decide +kernel
theorem d_Ar_copyOf1_17 : decode prog_22_method_120_code 17 = .ok (.iload_n 1, 1) := by decide +kernel
theorem d_Ar_copyOf1_18 : decode prog_22_method_120_code 18 = .ok (.invokestatic 95, 3) := by decide +kernel
theorem d_Ar_copyOf1_21 : decode prog_22_method_120_code 21 = .ok (.checkcast 110, 3) := by decide +kernel
theorem d_Ar_copyOf1_24 : decode prog_22_method_120_code 24 = .ok (.astore_n 3, 1) := by decide +kernel
theorem d_Ar_copyOf1_25 : decode prog_22_method_120_code 25 = .ok (.aload_n 0, 1) := by decide +kernel
theorem d_Ar_copyOf1_26 : decode prog_22_method_120_code 26 = .ok (.iconst 0, 1) := by decide +kernel
theorem d_Ar_copyOf1_27 : decode prog_22_method_120_code 27 = .ok (.aload_n 3, 1) := by decide +kernel
theorem d_Ar_copyOf1_28 : decode prog_22_method_120_code 28 = .ok (.iconst 0, 1) := by decide +kernel
theorem d_Ar_copyOf1_29 : decode prog_22_method_120_code 29 = .ok (.aload_n 0, 1) := by decide +kernel
theorem d_Ar_copyOf1_30 : decode prog_22_method_120_code 30 = .ok (.arraylength, 1) := by decide +kernel
theorem d_Ar_copyOf1_31 : decode prog_22_method_120_code 31 = .ok (.iload_n 1, 1) := by decide +kernel
theorem d_Ar_copyOf1_32 : decode prog_22_method_120_code 32 = .ok (.invokestatic 304, 3) := by decide +kernel
theorem d_Ar_copyOf1_35 : decode prog_22_method_120_code 35 = .ok (.invokestatic 150, 3) := by decide +kernel
theorem d_Ar_copyOf1_38 : decode prog_22_method_120_code 38 = .ok (.aload_n 3, 1) := by decide +kernel
theorem d_Ar_copyOf1_39 : decode prog_22_method_120_code 39 = .ok (.areturn, 1) := by decide +kernel
theorem d_Ob_checkIndex_0 : decode prog_25_method_17_code 0 = .ok (.iload_n 0, 1) := by decide +kernel
theorem d_Ob_checkIndex_1 : decode prog_25_method_17_code 1 = .ok (.iload_n 1, 1) := by decide +kernel
theorem d_Ob_checkIndex_2 : decode prog_25_method_17_code 2 = .ok (.aconst_null, 1) := by decide +kernel
theorem d_Ob_checkIndex_3 : decode prog_25_method_17_code 3 = .ok (.invokestatic 105, 3) := by decide +kernel
theorem d_Ob_checkIndex_6 : decode prog_25_method_17_code 6 = .ok (.ireturn, 1) := by decide +kernel
theorem d_AS_hugeLength_0 : decode prog_28_method_28_code 0 = .ok (.iload_n 0, 1) := by decide +kernel
theorem d_AS_hugeLength_1 : decode prog_28_method_28_code 1 = .ok (.iload_n 1, 1) := by decide +kernel
theorem d_AS_hugeLength_2 : decode prog_28_method_28_code 2 = .ok (.iadd, 1) := by decide +kernel
theorem d_AS_hugeLength_3 : decode prog_28_method_28_code 3 = .ok (.istore_n 2, 1) := by decide +kernel
theorem d_AS_hugeLength_4 : decode prog_28_method_28_code 4 = .ok (.iload_n 2, 1) := by decide +kernel
theorem d_AS_hugeLength_5 : decode prog_28_method_28_code 5 = .ok (.ifCond .ge 44, 3) := by decide +kernel
theorem d_AS_hugeLength_8 : decode prog_28_method_28_code 8 = .ok (.new 204, 3) := by decide +kernel
theorem d_AS_hugeLength_11 : decode prog_28_method_28_code 11 = .ok (.dup, 1) := by decide +kernel
theorem d_AS_hugeLength_12 : decode prog_28_method_28_code 12 = .ok (.new 89, 3) := by decide +kernel
theorem d_AS_hugeLength_15 : decode prog_28_method_28_code 15 = .ok (.dup, 1) := by decide +kernel
theorem d_AS_hugeLength_16 : decode prog_28_method_28_code 16 = .ok (.invokespecial 91, 3) := by decide +kernel
theorem d_AS_hugeLength_19 : decode prog_28_method_28_code 19 = .ok (.ldc 206, 2) := by decide +kernel
theorem d_AS_hugeLength_21 : decode prog_28_method_28_code 21 = .ok (.invokevirtual 94, 3) := by decide +kernel
theorem d_AS_hugeLength_24 : decode prog_28_method_28_code 24 = .ok (.iload_n 0, 1) := by decide +kernel
theorem d_AS_hugeLength_25 : decode prog_28_method_28_code 25 = .ok (.invokevirtual 98, 3) := by decide +kernel
theorem d_AS_hugeLength_28 : decode prog_28_method_28_code 28 = .ok (.ldc 208, 2) := by decide +kernel
theorem d_AS_hugeLength_30 : decode prog_28_method_28_code 30 = .ok (.invokevirtual 94, 3) := by decide +kernel
theorem d_AS_hugeLength_33 : decode prog_28_method_28_code 33 = .ok (.iload_n 1, 1) := by decide +kernel
theorem d_AS_hugeLength_34 : decode prog_28_method_28_code 34 = .ok (.invokevirtual 98, 3) := by decide +kernel
theorem d_AS_hugeLength_37 : decode prog_28_method_28_code 37 = .ok (.ldc 210, 2) := by decide +kernel
theorem d_AS_hugeLength_39 : decode prog_28_method_28_code 39 = .ok (.invokevirtual 94, 3) := by decide +kernel
theorem d_AS_hugeLength_42 : decode prog_28_method_28_code 42 = .ok (.invokevirtual 101, 3) := by decide +kernel
theorem d_AS_hugeLength_45 : decode prog_28_method_28_code 45 = .ok (.invokespecial 212, 3) := by decide +kernel
theorem d_AS_hugeLength_48 : decode prog_28_method_28_code 48 = .ok (.athrow, 1) := by decide +kernel
theorem d_AS_hugeLength_49 : decode prog_28_method_28_code 49 = .ok (.iload_n 2, 1) := by decide +kernel
theorem d_AS_hugeLength_50 : decode prog_28_method_28_code 50 = .ok (.ldc 200, 2) := by decide +kernel
theorem d_AS_hugeLength_52 : decode prog_28_method_28_code 52 = .ok (.if_icmp .gt 6, 3) := by decide +kernel
theorem d_AS_hugeLength_55 : decode prog_28_method_28_code 55 = .ok (.ldc 200, 2) := by decide +kernel
theorem d_AS_hugeLength_57 : decode prog_28_method_28_code 57 = .ok (.ireturn, 1) := by decide +kernel
theorem d_AS_hugeLength_58 : decode prog_28_method_28_code 58 = .ok (.iload_n 2, 1) := by decide +kernel
theorem d_AS_hugeLength_59 : decode prog_28_method_28_code 59 = .ok (.ireturn, 1) := by decide +kernel
theorem d_AS_newLength_0 : decode prog_28_method_27_code 0 = .ok (.iload_n 0, 1) := by decide +kernel
theorem d_AS_newLength_1 : decode prog_28_method_27_code 1 = .ok (.iload_n 1, 1) := by decide +kernel
theorem d_AS_newLength_2 : decode prog_28_method_27_code 2 = .ok (.iload_n 2, 1) := by decide +kernel
theorem d_AS_newLength_3 : decode prog_28_method_27_code 3 = .ok (.invokestatic 194, 3) := by decide +kernel
theorem d_AS_newLength_6 : decode prog_28_method_27_code 6 = .ok (.iadd, 1) := by decide +kernel
theorem d_AS_newLength_7 : decode prog_28_method_27_code 7 = .ok (.istore_n 3, 1) := by decide +kernel
theorem d_AS_newLength_8 : decode prog_28_method_27_code 8 = .ok (.iconst 0, 1) := by decide +kernel
theorem d_AS_newLength_9 : decode prog_28_method_27_code 9 = .ok (.iload_n 3, 1) := by decide +kernel
theorem d_AS_newLength_10 : decode prog_28_method_27_code 10 = .ok (.if_icmp .ge 11, 3) := by decide +kernel
theorem d_AS_newLength_13 : decode prog_28_method_27_code 13 = .ok (.iload_n 3, 1) := by decide +kernel
theorem d_AS_newLength_14 : decode prog_28_method_27_code 14 = .ok (.ldc 200, 2) := by decide +kernel
theorem d_AS_newLength_16 : decode prog_28_method_27_code 16 = .ok (.if_icmp .gt 5, 3) := by decide +kernel
theorem d_AS_newLength_19 : decode prog_28_method_27_code 19 = .ok (.iload_n 3, 1) := by decide +kernel
theorem d_AS_newLength_20 : decode prog_28_method_27_code 20 = .ok (.ireturn, 1) := by decide +kernel
theorem d_AS_newLength_21 : decode prog_28_method_27_code 21 = .ok (.iload_n 0, 1) := by decide +kernel
theorem d_AS_newLength_22 : decode prog_28_method_27_code 22 = .ok (.iload_n 1, 1) := by decide +kernel
theorem d_AS_newLength_23 : decode prog_28_method_27_code 23 = .ok (.invokestatic 201, 3) := by decide +kernel
theorem d_AS_newLength_26 : decode prog_28_method_27_code 26 = .ok (.ireturn, 1) := by decide +kernel
theorem d_Pre_checkIndex_0 : decode prog_29_method_11_code 0 = .ok (.iload_n 0, 1) := by decide +kernel
theorem d_Pre_checkIndex_1 : decode prog_29_method_11_code 1 = .ok (.ifCond .lt 8, 3) := by decide +kernel
theorem d_Pre_checkIndex_4 : decode prog_29_method_11_code 4 = .ok (.iload_n 0, 1) := by decide +kernel
theorem d_Pre_checkIndex_5 : decode prog_29_method_11_code 5 = .ok (.iload_n 1, 1) := by decide +kernel
theorem d_Pre_checkIndex_6 : decode prog_29_method_11_code 6 = .ok (.if_icmp .lt 10, 3) := by decide +kernel
theorem d_Pre_checkIndex_9 : decode prog_29_method_11_code 9 = .ok (.aload_n 2, 1) := by decide +kernel
theorem d_Pre_checkIndex_10 : decode prog_29_method_11_code 10 = .ok (.iload_n 0, 1) := by decide +kernel
theorem d_Pre_checkIndex_11 : decode prog_29_method_11_code 11 = .ok (.iload_n 1, 1) := by decide +kernel
theorem d_Pre_checkIndex_12 : decode prog_29_method_11_code 12 = .ok (.invokestatic 95, 3) := by decide +kernel
theorem d_Pre_checkIndex_15 : decode prog_29_method_11_code 15 = .ok (.athrow, 1) := by decide +kernel
theorem d_Pre_checkIndex_16 : decode prog_29_method_11_code 16 = .ok (.iload_n 0, 1) := by decide +kernel
theorem d_Pre_checkIndex_17 : decode prog_29_method_11_code 17 = .ok (.ireturn, 1) := by decide +kernel