theorem d_Li_exchangeFirstTwo_0 : decode prog_6_method_7_code 0 = .ok (.aload_n 0, 1) := by decide +kernel
theorem d_Li_exchangeFirstTwo_1 : decode prog_6_method_7_code 1 = .ok (.getfield 10, 3) := by decide +kernel
theorem d_Li_exchangeFirstTwo_4 : decode prog_6_method_7_code 4 = .ok (.invokevirtual 20, 3) := by decide +kernel
theorem d_Li_exchangeFirstTwo_7 : decode prog_6_method_7_code 7 = .ok (.iconst 2, 1) := by decide +kernel
theorem d_Li_exchangeFirstTwo_8 : decode prog_6_method_7_code 8 = .ok (.if_icmp .ge 5, 3) := by decide +kernel
theorem d_Li_exchangeFirstTwo_11 : decode prog_6_method_7_code 11 = .ok (.iconst 0, 1) := by decide +kernel
theorem d_Li_exchangeFirstTwo_12 : decode prog_6_method_7_code 12 = .ok (.ireturn, 1) := by decide +kernel
theorem d_Li_exchangeFirstTwo_13 : decode prog_6_method_7_code 13 = .ok (.aload_n 0, 1) := by decide +kernel
theorem d_Li_exchangeFirstTwo_14 : decode prog_6_method_7_code 14 = .ok (.getfield 10, 3) := by decide +kernel
theorem d_Li_exchangeFirstTwo_17 : decode prog_6_method_7_code 17 = .ok (.iconst 0, 1) := by decide +kernel
theorem d_Li_exchangeFirstTwo_18 : decode prog_6_method_7_code 18 = .ok (.invokevirtual 32, 3) := by decide +kernel
theorem d_Li_exchangeFirstTwo_21 : decode prog_6_method_7_code 21 = .ok (.checkcast 36, 3) := by decide +kernel
theorem d_Li_exchangeFirstTwo_24 : decode prog_6_method_7_code 24 = .ok (.astore_n 1, 1) := by decide +kernel
theorem d_Li_exchangeFirstTwo_25 : decode prog_6_method_7_code 25 = .ok (.aload_n 0, 1) := by decide +kernel
theorem d_Li_exchangeFirstTwo_26 : decode prog_6_method_7_code 26 = .ok (.getfield 10, 3) := by decide +kernel
theorem d_Li_exchangeFirstTwo_29 : decode prog_6_method_7_code 29 = .ok (.iconst 0, 1) := by decide +kernel
theorem d_Li_exchangeFirstTwo_30 : decode prog_6_method_7_code 30 = .ok (.aload_n 0, 1) := by decide +kernel
theorem d_Li_exchangeFirstTwo_31 : decode prog_6_method_7_code 31 = .ok (.getfield 10, 3) := by decide +kernel
theorem d_Li_exchangeFirstTwo_34 : decode prog_6_method_7_code 34 = .ok (.iconst 1, 1) := by decide +kernel
theorem d_Li_exchangeFirstTwo_35 : decode prog_6_method_7_code 35 = .ok (.invokevirtual 32, 3) := by decide +kernel
theorem d_Li_exchangeFirstTwo_38 : decode prog_6_method_7_code 38 = .ok (.checkcast 36, 3) := by decide +kernel
theorem d_Li_exchangeFirstTwo_41 : decode prog_6_method_7_code 41 = .ok (.invokevirtual 41, 3) := by decide +kernel
theorem d_Li_exchangeFirstTwo_44 : decode prog_6_method_7_code 44 = .ok (.pop, 1) := by decide +kernel
theorem d_Li_exchangeFirstTwo_45 : decode prog_6_method_7_code 45 = .ok (.aload_n 0, 1) := by decide +kernel
theorem d_Li_exchangeFirstTwo_46 : decode prog_6_method_7_code 46 = .ok (.getfield 10, 3) := by decide +kernel
theorem d_Li_exchangeFirstTwo_49 : decode prog_6_method_7_code 49 = .ok (.iconst 1, 1) := by decide +kernel
theorem d_Li_exchangeFirstTwo_50 : decode prog_6_method_7_code 50 = .ok (.aload_n 1, 1) := by decide +kernel
theorem d_Li_exchangeFirstTwo_51 : decode prog_6_method_7_code 51 = .ok (.invokevirtual 41, 3) := by decide +kernel
theorem d_Li_exchangeFirstTwo_54 : decode prog_6_method_7_code 54 = .ok (.pop, 1) := by decide +kernel
theorem d_Li_exchangeFirstTwo_55 : decode prog_6_method_7_code 55 = .ok (.iconst 1, 1) := by decide +kernel
theorem d_Li_exchangeFirstTwo_56 : decode prog_6_method_7_code 56 = .ok (.ireturn, 1) := by decide +kernel
theorem d_Me_init_0 : decode prog_7_method_1_code 0 = .ok (.aload_n 0, 1) := by decide +kernel
theorem d_Me_init_1 : decode prog_7_method_1_code 1 = .ok (.invokespecial 1, 3) := by decide +kernel
theorem d_Me_init_4 : decode prog_7_method_1_code 4 = .ok (.aload_n 0, 1) := by decide +kernel
theorem d_Me_init_5 : decode prog_7_method_1_code 5 = .ok (.getstatic 7, 3) := by decide +kernel
theorem d_Me_init_8 : decode prog_7_method_1_code 8 = .ok (.putfield 13, 3) := by decide +kernel
theorem d_Me_init_11 : decode prog_7_method_1_code 11 = .ok (.aload_n 0, 1) := by decide +kernel
theorem d_Me_init_12 : decode prog_7_method_1_code 12 = .ok (.aload_n 1, 1) := by decide +kernel
theorem d_Me_init_13 : decode prog_7_method_1_code 13 = .ok (.putfield 18, 3) := by decide +kernel
theorem d_Me_init_16 : decode prog_7_method_1_code 16 = .ok (.aload_n 0, 1) := by decide +kernel
theorem d_Me_init_17 : decode prog_7_method_1_code 17 = .ok (.aload_n 2, 1) := by decide +kernel
theorem d_Me_init_18 : decode prog_7_method_1_code 18 = .ok (.putfield 22, 3) := by decide +kernel
theorem d_Me_init_21 : decode prog_7_method_1_code 21 = .ok (.aload_n 0, 1) := by decide +kernel
theorem d_Me_init_22 : decode prog_7_method_1_code 22 = .ok (.aload_n 2, 1) := by decide +kernel
theorem d_Me_init_23 : decode prog_7_method_1_code 23 = .ok (.getfield 26, 3) := by decide +kernel
theorem d_Me_init_26 : decode prog_7_method_1_code 26 = .ok (.putfield 32, 3) := by decide +kernel
theorem d_Me_init_29 : decode prog_7_method_1_code 29 = .ok (.aload_n 0, 1) := by decide +kernel
theorem d_Me_init_30 : decode prog_7_method_1_code 30 = .ok (.iload_n 3, 1) := by decide +kernel
theorem d_Me_init_31 : decode prog_7_method_1_code 31 = .ok (.putfield 35, 3) := by decide +kernel
theorem d_Me_init_34 : decode prog_7_method_1_code 34 = .ok (.aload_n 0, 1) := by decide +kernel
theorem d_Me_init_35 : decode prog_7_method_1_code 35 = .ok (.iload_n 3, 1) := by decide +kernel
theorem d_Me_init_36 : decode prog_7_method_1_code 36 = .ok (.putfield 39, 3) := by decide +kernel
theorem d_Me_init_39 : decode prog_7_method_1_code 39 = .ok (.aload_n 0, 1) := by decide +kernel
theorem d_Me_init_40 : decode prog_7_method_1_code 40 = .ok (.aload_n 1, 1) := by decide +kernel
theorem d_Me_init_41 : decode prog_7_method_1_code 41 = .ok (.iconst 2, 1) := by decide +kernel
theorem d_Me_init_42 : decode prog_7_method_1_code 42 = .ok (.invokevirtual 44, 3) := by decide +kernel
theorem d_Me_init_45 : decode prog_7_method_1_code 45 = .ok (.putfield 48, 3) := by decide +kernel
theorem d_Me_init_48 : decode prog_7_method_1_code 48 = .ok (.aload_n 0, 1) := by decide +kernel
theorem d_Me_init_49 : decode prog_7_method_1_code 49 = .ok (.iload_n 3, 1) := by decide +kernel
theorem d_Me_init_50 : decode prog_7_method_1_code 50 = .ok (.iconst 5, 1) := by decide +kernel
theorem d_Me_init_51 : decode prog_7_method_1_code 51 = .ok (.aload_n 1, 1) := by decide +kernel
theorem d_Me_init_52 : decode prog_7_method_1_code 52 = .ok (.aload_n 1, 1) := by decide +kernel
theorem d_Me_init_53 : decode prog_7_method_1_code 53 = .ok (.invokevirtual 51, 3) := by decide +kernel
theorem d_Me_init_56 : decode prog_7_method_1_code 56 = .ok (.iconst 1, 1) := by decide +kernel
theorem d_Me_init_57 : decode prog_7_method_1_code 57 = .ok (.isub, 1) := by decide +kernel
theorem d_Me_init_58 : decode prog_7_method_1_code 58 = .ok (.invokevirtual 55, 3) := by decide +kernel
theorem d_Me_init_61 : decode prog_7_method_1_code 61 = .ok (.iconst 1, 1) := by decide +kernel
theorem d_Me_init_62 : decode prog_7_method_1_code 62 = .ok (.iadd, 1) := by decide +kernel
theorem d_Me_init_63 : decode prog_7_method_1_code 63 = .ok (.imul, 1) := by decide +kernel
theorem d_Me_init_64 : decode prog_7_method_1_code 64 = .ok (.iadd, 1) := by decide +kernel
theorem d_Me_init_65 : decode prog_7_method_1_code 65 = .ok (.putfield 59, 3) := by decide +kernel
theorem d_Me_init_68 : decode prog_7_method_1_code 68 = .ok (.return_, 1) := by decide +kernel
theorem d_Me_moment_0 : decode prog_7_method_2_code 0 = .ok (.aload_n 0, 1) := by decide +kernel
theorem d_Me_moment_1 : decode prog_7_method_2_code 1 = .ok (.getfield 39, 3) := by decide +kernel
theorem d_Me_moment_4 : decode prog_7_method_2_code 4 = .ok (.aload_n 0, 1) := by decide +kernel
theorem d_Me_moment_5 : decode prog_7_method_2_code 5 = .ok (.getfield 59, 3) := by decide +kernel
theorem d_Me_moment_8 : decode prog_7_method_2_code 8 = .ok (.invokestatic 62, 3) := by decide +kernel
theorem d_Me_moment_11 : decode prog_7_method_2_code 11 = .ok (.ireturn, 1) := by decide +kernel
theorem d_Me_putOff_0 : decode prog_7_method_3_code 0 = .ok (.aload_n 0, 1) := by decide +kernel
theorem d_Me_putOff_1 : decode prog_7_method_3_code 1 = .ok (.getfield 68, 3) := by decide +kernel
theorem d_Me_putOff_4 : decode prog_7_method_3_code 4 = .ok (.iconst 1, 1) := by decide +kernel
theorem d_Me_putOff_5 : decode prog_7_method_3_code 5 = .ok (.if_icmp .ne 13, 3) := by decide +kernel
theorem d_Me_putOff_8 : decode prog_7_method_3_code 8 = .ok (.aload_n 0, 1) := by decide +kernel
theorem d_Me_putOff_9 : decode prog_7_method_3_code 9 = .ok (.iload_n 1, 1) := by decide +kernel
theorem d_Me_putOff_10 : decode prog_7_method_3_code 10 = .ok (.iconst 1, 1) := by decide +kernel
theorem d_Me_putOff_11 : decode prog_7_method_3_code 11 = .ok (.iadd, 1) := by decide +kernel
theorem d_Me_putOff_12 : decode prog_7_method_3_code 12 = .ok (.putfield 39, 3) := by decide +kernel
theorem d_Me_putOff_15 : decode prog_7_method_3_code 15 = .ok (.goto 29, 3) := by decide +kernel
theorem d_Me_putOff_18 : decode prog_7_method_3_code 18 = .ok (.aload_n 0, 1) := by decide +kernel
theorem d_Me_putOff_19 : decode prog_7_method_3_code 19 = .ok (.getfield 68, 3) := by decide +kernel
theorem d_Me_putOff_22 : decode prog_7_method_3_code 22 = .ok (.iconst 2, 1) := by decide +kernel
theorem d_Me_putOff_23 : decode prog_7_method_3_code 23 = .ok (.if_icmp .ne 13, 3) := by decide +kernel
theorem d_Me_putOff_26 : decode prog_7_method_3_code 26 = .ok (.aload_n 0, 1) := by decide +kernel
theorem d_Me_putOff_27 : decode prog_7_method_3_code 27 = .ok (.iload_n 1, 1) := by decide +kernel
theorem d_Me_putOff_28 : decode prog_7_method_3_code 28 = .ok (.iconst 4, 1) := by decide +kernel
theorem d_Me_putOff_29 : decode prog_7_method_3_code 29 = .ok (.iadd, 1) := by decide +kernel
theorem d_Me_putOff_30 : decode prog_7_method_3_code 30 = .ok (.putfield 39, 3) := by decide +kernel
theorem d_Me_putOff_33 : decode prog_7_method_3_code 33 = .ok (.goto 11, 3) := by decide +kernel
theorem d_Me_putOff_36 : decode prog_7_method_3_code 36 = .ok (.aload_n 0, 1) := by decide +kernel
theorem d_Me_putOff_37 : decode prog_7_method_3_code 37 = .ok (.iload_n 1, 1) := by decide +kernel
theorem d_Me_putOff_38 : decode prog_7_method_3_code 38 = .ok (.bipush 16, 2) := by decide +kernel
theorem d_Me_putOff_40 : decode prog_7_method_3_code 40 = .ok (.iadd, 1) := by decide +kernel
theorem d_Me_putOff_41 : decode prog_7_method_3_code 41 = .ok (.putfield 39, 3) := by decide +kernel
theorem d_Me_putOff_44 : decode prog_7_method_3_code 44 = .ok (.return_, 1) := by decide +kernel
theorem d_Me_asDeliver_0 : decode prog_7_method_4_code 0 = .ok (.aload_n 0, 1) := by decide +kernel
theorem d_Me_asDeliver_1 : decode prog_7_method_4_code 1 = .ok (.getfield 18, 3) := by decide +kernel
theorem d_Me_asDeliver_4 : decode prog_7_method_4_code 4 = .ok (.invokevirtual 51, 3) := by decide +kernel
theorem d_Me_asDeliver_7 : decode prog_7_method_4_code 7 = .ok (.istore_n 1, 1) := by decide +kernel
theorem d_Me_asDeliver_8 : decode prog_7_method_4_code 8 = .ok (.new 42, 3) := by decide +kernel
theorem d_Me_asDeliver_11 : decode prog_7_method_4_code 11 = .ok (.dup, 1) := by decide +kernel
theorem d_Me_asDeliver_12 : decode prog_7_method_4_code 12 = .ok (.aload_n 0, 1) := by decide +kernel
theorem d_Me_asDeliver_13 : decode prog_7_method_4_code 13 = .ok (.getfield 32, 3) := by decide +kernel
theorem d_Me_asDeliver_16 : decode prog_7_method_4_code 16 = .ok (.aload_n 0, 1) := by decide +kernel
theorem d_Me_asDeliver_17 : decode prog_7_method_4_code 17 = .ok (.getfield 18, 3) := by decide +kernel
theorem d_Me_asDeliver_20 : decode prog_7_method_4_code 20 = .ok (.invokevirtual 71, 3) := by decide +kernel
theorem d_Me_asDeliver_23 : decode prog_7_method_4_code 23 = .ok (.iload_n 1, 1) := by decide +kernel
theorem d_Me_asDeliver_24 : decode prog_7_method_4_code 24 = .ok (.isub, 1) := by decide +kernel
theorem d_Me_asDeliver_25 : decode prog_7_method_4_code 25 = .ok (.invokestatic 74, 3) := by decide +kernel
theorem d_Me_asDeliver_28 : decode prog_7_method_4_code 28 = .ok (.aconst_null, 1) := by decide +kernel
theorem d_Me_asDeliver_29 : decode prog_7_method_4_code 29 = .ok (.invokespecial 78, 3) := by decide +kernel
theorem d_Me_asDeliver_32 : decode prog_7_method_4_code 32 = .ok (.astore_n 2, 1) := by decide +kernel
theorem d_Me_asDeliver_33 : decode prog_7_method_4_code 33 = .ok (.aload_n 2, 1) := by decide +kernel
theorem d_Me_asDeliver_34 : decode prog_7_method_4_code 34 = .ok (.iconst 4, 1) := by decide +kernel
theorem d_Me_asDeliver_35 : decode prog_7_method_4_code 35 = .ok (.aload_n 0, 1) := by decide +kernel
theorem d_Me_asDeliver_36 : decode prog_7_method_4_code 36 = .ok (.getfield 18, 3) := by decide +kernel
theorem d_Me_asDeliver_39 : decode prog_7_method_4_code 39 = .ok (.invokevirtual 81, 3) := by decide +kernel
theorem d_Me_asDeliver_42 : decode prog_7_method_4_code 42 = .ok (.ifCond .eq 8, 3) := by decide +kernel
theorem d_Me_asDeliver_45 : decode prog_7_method_4_code 45 = .ok (.bipush 64, 2) := by decide +kernel
theorem d_Me_asDeliver_47 : decode prog_7_method_4_code 47 = .ok (.goto 4, 3) := by decide +kernel
theorem d_Me_asDeliver_50 : decode prog_7_method_4_code 50 = .ok (.iconst 0, 1) := by decide +kernel
theorem d_Me_asDeliver_51 : decode prog_7_method_4_code 51 = .ok (.iadd, 1) := by decide +kernel
theorem d_Me_asDeliver_52 : decode prog_7_method_4_code 52 = .ok (.invokevirtual 85, 3) := by decide +kernel
theorem d_Me_asDeliver_55 : decode prog_7_method_4_code 55 = .ok (.aload_n 2, 1) := by decide +kernel
theorem d_Me_asDeliver_56 : decode prog_7_method_4_code 56 = .ok (.aload_n 0, 1) := by decide +kernel
theorem d_Me_asDeliver_57 : decode prog_7_method_4_code 57 = .ok (.getfield 32, 3) := by decide +kernel
theorem d_Me_asDeliver_60 : decode prog_7_method_4_code 60 = .ok (.invokevirtual 89, 3) := by decide +kernel
theorem d_Me_asDeliver_63 : decode prog_7_method_4_code 63 = .ok (.aload_n 2, 1) := by decide +kernel
theorem d_Me_asDeliver_64 : decode prog_7_method_4_code 64 = .ok (.iconst 0, 1) := by decide +kernel
theorem d_Me_asDeliver_65 : decode prog_7_method_4_code 65 = .ok (.invokevirtual 85, 3) := by decide +kernel
theorem d_Me_asDeliver_68 : decode prog_7_method_4_code 68 = .ok (.aload_n 2, 1) := by decide +kernel
theorem d_Me_asDeliver_69 : decode prog_7_method_4_code 69 = .ok (.iconst 0, 1) := by decide +kernel
theorem d_Me_asDeliver_70 : decode prog_7_method_4_code 70 = .ok (.invokevirtual 85, 3) := by decide +kernel
theorem d_Me_asDeliver_73 : decode prog_7_method_4_code 73 = .ok (.aload_n 2, 1) := by decide +kernel
theorem d_Me_asDeliver_74 : decode prog_7_method_4_code 74 = .ok (.aload_n 0, 1) := by decide +kernel
theorem d_Me_asDeliver_75 : decode prog_7_method_4_code 75 = .ok (.getfield 35, 3) := by decide +kernel
theorem d_Me_asDeliver_78 : decode prog_7_method_4_code 78 = .ok (.invokevirtual 93, 3) := by decide +kernel
theorem d_Me_asDeliver_81 : decode prog_7_method_4_code 81 = .ok (.aload_n 2, 1) := by decide +kernel
theorem d_Me_asDeliver_82 : decode prog_7_method_4_code 82 = .ok (.aload_n 0, 1) := by decide +kernel
theorem d_Me_asDeliver_83 : decode prog_7_method_4_code 83 = .ok (.getfield 18, 3) := by decide +kernel
theorem d_Me_asDeliver_86 : decode prog_7_method_4_code 86 = .ok (.iload_n 1, 1) := by decide +kernel
theorem d_Me_asDeliver_87 : decode prog_7_method_4_code 87 = .ok (.invokevirtual 96, 3) := by decide +kernel
theorem d_Me_asDeliver_90 : decode prog_7_method_4_code 90 = .ok (.aload_n 2, 1) := by decide +kernel
theorem d_Me_asDeliver_91 : decode prog_7_method_4_code 91 = .ok (.areturn, 1) := by decide +kernel
theorem d_Me_fileReport_0 : decode prog_7_method_5_code 0 = .ok (.aload_n 0, 1) := by decide +kernel
theorem d_Me_fileReport_1 : decode prog_7_method_5_code 1 = .ok (.getfield 18, 3) := by decide +kernel
theorem d_Me_fileReport_4 : decode prog_7_method_5_code 4 = .ok (.iconst 0, 1) := by decide +kernel
theorem d_Me_fileReport_5 : decode prog_7_method_5_code 5 = .ok (.invokevirtual 55, 3) := by decide +kernel
theorem d_Me_fileReport_8 : decode prog_7_method_5_code 8 = .ok (.bipush 32, 2) := by decide +kernel
theorem d_Me_fileReport_10 : decode prog_7_method_5_code 10 = .ok (.iand, 1) := by decide +kernel
theorem d_Me_fileReport_11 : decode prog_7_method_5_code 11 = .ok (.ifCond .eq 16, 3) := by decide +kernel
theorem d_Me_fileReport_14 : decode prog_7_method_5_code 14 = .ok (.aload_n 0, 1) := by decide +kernel
theorem d_Me_fileReport_15 : decode prog_7_method_5_code 15 = .ok (.getfield 22, 3) := by decide +kernel
theorem d_Me_fileReport_18 : decode prog_7_method_5_code 18 = .ok (.getfield 100, 3) := by decide +kernel
theorem d_Me_fileReport_21 : decode prog_7_method_5_code 21 = .ok (.invokevirtual 104, 3) := by decide +kernel
theorem d_Me_fileReport_24 : decode prog_7_method_5_code 24 = .ok (.ifCond .ne 4, 3) := by decide +kernel
theorem d_Me_fileReport_27 : decode prog_7_method_5_code 27 = .ok (.return_, 1) := by decide +kernel
theorem d_Me_fileReport_28 : decode prog_7_method_5_code 28 = .ok (.new 42, 3) := by decide +kernel
theorem d_Me_fileReport_31 : decode prog_7_method_5_code 31 = .ok (.dup, 1) := by decide +kernel
theorem d_Me_fileReport_32 : decode prog_7_method_5_code 32 = .ok (.aload_n 0, 1) := by decide +kernel
theorem d_Me_fileReport_33 : decode prog_7_method_5_code 33 = .ok (.getfield 48, 3) := by decide +kernel
theorem d_Me_fileReport_36 : decode prog_7_method_5_code 36 = .ok (.invokestatic 109, 3) := by decide +kernel
theorem d_Me_fileReport_39 : decode prog_7_method_5_code 39 = .ok (.aconst_null, 1) := by decide +kernel
theorem d_Me_fileReport_40 : decode prog_7_method_5_code 40 = .ok (.invokespecial 78, 3) := by decide +kernel
theorem d_Me_fileReport_43 : decode prog_7_method_5_code 43 = .ok (.astore_n 2, 1) := by decide +kernel
theorem d_Me_fileReport_44 : decode prog_7_method_5_code 44 = .ok (.aload_n 2, 1) := by decide +kernel
theorem d_Me_fileReport_45 : decode prog_7_method_5_code 45 = .ok (.iconst 2, 1) := by decide +kernel
theorem d_Me_fileReport_46 : decode prog_7_method_5_code 46 = .ok (.invokevirtual 85, 3) := by decide +kernel
theorem d_Me_fileReport_49 : decode prog_7_method_5_code 49 = .ok (.aload_n 2, 1) := by decide +kernel
theorem d_Me_fileReport_50 : decode prog_7_method_5_code 50 = .ok (.aload_n 0, 1) := by decide +kernel
theorem d_Me_fileReport_51 : decode prog_7_method_5_code 51 = .ok (.getfield 18, 3) := by decide +kernel
theorem d_Me_fileReport_54 : decode prog_7_method_5_code 54 = .ok (.iconst 1, 1) := by decide +kernel
theorem d_Me_fileReport_55 : decode prog_7_method_5_code 55 = .ok (.invokevirtual 55, 3) := by decide +kernel
theorem d_Me_fileReport_58 : decode prog_7_method_5_code 58 = .ok (.invokevirtual 85, 3) := by decide +kernel
theorem d_Me_fileReport_61 : decode prog_7_method_5_code 61 = .ok (.aload_n 2, 1) := by decide +kernel
theorem d_Me_fileReport_62 : decode prog_7_method_5_code 62 = .ok (.aload_n 0, 1) := by decide +kernel
theorem d_Me_fileReport_63 : decode prog_7_method_5_code 63 = .ok (.getfield 48, 3) := by decide +kernel
theorem d_Me_fileReport_66 : decode prog_7_method_5_code 66 = .ok (.invokevirtual 89, 3) := by decide +kernel
theorem d_Me_fileReport_69 : decode prog_7_method_5_code 69 = .ok (.aload_n 2, 1) := by decide +kernel
theorem d_Me_fileReport_70 : decode prog_7_method_5_code 70 = .ok (.aload_n 0, 1) := by decide +kernel
theorem d_Me_fileReport_71 : decode prog_7_method_5_code 71 = .ok (.getfield 35, 3) := by decide +kernel
theorem d_Me_fileReport_74 : decode prog_7_method_5_code 74 = .ok (.invokevirtual 93, 3) := by decide +kernel
theorem d_Me_fileReport_77 : decode prog_7_method_5_code 77 = .ok (.aload_n 2, 1) := by decide +kernel
theorem d_Me_fileReport_78 : decode prog_7_method_5_code 78 = .ok (.iload_n 1, 1) := by decide +kernel
theorem d_Me_fileReport_79 : decode prog_7_method_5_code 79 = .ok (.invokevirtual 93, 3) := by decide +kernel
theorem d_Me_fileReport_82 : decode prog_7_method_5_code 82 = .ok (.aload_n 2, 1) := by decide +kernel
theorem d_Me_fileReport_83 : decode prog_7_method_5_code 83 = .ok (.aload_n 0, 1) := by decide +kernel
theorem d_Me_fileReport_84 : decode prog_7_method_5_code 84 = .ok (.getfield 13, 3) := by decide +kernel
theorem d_Me_fileReport_87 : decode prog_7_method_5_code 87 = .ok (.getfield 113, 3) := by decide +kernel
theorem d_Me_fileReport_90 : decode prog_7_method_5_code 90 = .ok (.invokevirtual 85, 3) := by decide +kernel
theorem d_Me_fileReport_93 : decode prog_7_method_5_code 93 = .ok (.aload_n 0, 1) := by decide +kernel
theorem d_Me_fileReport_94 : decode prog_7_method_5_code 94 = .ok (.getfield 22, 3) := by decide +kernel
theorem d_Me_fileReport_97 : decode prog_7_method_5_code 97 = .ok (.getfield 100, 3) := by decide +kernel
theorem d_Me_fileReport_100 : decode prog_7_method_5_code 100 = .ok (.aload_n 2, 1) := by decide +kernel
theorem d_Me_fileReport_101 : decode prog_7_method_5_code 101 = .ok (.invokevirtual 116, 3) := by decide +kernel
theorem d_Me_fileReport_104 : decode prog_7_method_5_code 104 = .ok (.return_, 1) := by decide +kernel
theorem d_Pi_init_0 : decode prog_8_method_1_code 0 = .ok (.aload_n 0, 1) := by decide +kernel
theorem d_Pi_init_1 : decode prog_8_method_1_code 1 = .ok (.invokespecial 1, 3) := by decide +kernel
theorem d_Pi_init_4 : decode prog_8_method_1_code 4 = .ok (.aload_n 0, 1) := by decide +kernel
theorem d_Pi_init_5 : decode prog_8_method_1_code 5 = .ok (.lload_n 1, 1) := by decide +kernel
theorem d_Pi_init_6 : decode prog_8_method_1_code 6 = .ok (.putfield 7, 3) := by decide +kernel
theorem d_Pi_init_9 : decode prog_8_method_1_code 9 = .ok (.aload_n 0, 1) := by decide +kernel
theorem d_Pi_init_10 : decode prog_8_method_1_code 10 = .ok (.iload_n 3, 1) := by decide +kernel
theorem d_Pi_init_11 : decode prog_8_method_1_code 11 = .ok (.putfield 13, 3) := by decide +kernel
theorem d_Pi_init_14 : decode prog_8_method_1_code 14 = .ok (.aload_n 0, 1) := by decide +kernel
theorem d_Pi_init_15 : decode prog_8_method_1_code 15 = .ok (.iload 4, 2) := by decide +kernel
theorem d_Pi_init_17 : decode prog_8_method_1_code 17 = .ok (.anewarray 17, 3) := by decide +kernel
theorem d_Pi_init_20 : decode prog_8_method_1_code 20 = .ok (.putfield 19, 3) := by decide +kernel
theorem d_Pi_init_23 : decode prog_8_method_1_code 23 = .ok (.aload_n 0, 1) := by decide +kernel
theorem d_Pi_init_24 : decode prog_8_method_1_code 24 = .ok (.iload 4, 2) := by decide +kernel
theorem d_Pi_init_26 : decode prog_8_method_1_code 26 = .ok (.putfield 23, 3) := by decide +kernel
theorem d_Pi_init_29 : decode prog_8_method_1_code 29 = .ok (.return_, 1) := by decide +kernel
theorem d_Pi_gathers_0 : decode prog_8_method_2_code 0 = .ok (.aload_n 0, 1) := by decide +kernel
theorem d_Pi_gathers_1 : decode prog_8_method_2_code 1 = .ok (.getfield 7, 3) := by decide +kernel
theorem d_Pi_gathers_4 : decode prog_8_method_2_code 4 = .ok (.lload_n 1, 1) := by decide +kernel
theorem d_Pi_gathers_5 : decode prog_8_method_2_code 5 = .ok (.lcmp, 1) := by decide +kernel
theorem d_Pi_gathers_6 : decode prog_8_method_2_code 6 = .ok (.ifCond .ne 25, 3) := by decide +kernel
theorem d_Pi_gathers_9 : decode prog_8_method_2_code 9 = .ok (.aload_n 0, 1) := by decide +kernel
theorem d_Pi_gathers_10 : decode prog_8_method_2_code 10 = .ok (.getfield 13, 3) := by decide +kernel
theorem d_Pi_gathers_13 : decode prog_8_method_2_code 13 = .ok (.iload_n 3, 1) := by decide +kernel
theorem d_Pi_gathers_14 : decode prog_8_method_2_code 14 = .ok (.if_icmp .ne 17, 3) := by decide +kernel
theorem d_Pi_gathers_17 : decode prog_8_method_2_code 17 = .ok (.aload_n 0, 1) := by decide +kernel
theorem d_Pi_gathers_18 : decode prog_8_method_2_code 18 = .ok (.getfield 19, 3) := by decide +kernel
theorem d_Pi_gathers_21 : decode prog_8_method_2_code 21 = .ok (.arraylength, 1) := by decide +kernel
theorem d_Pi_gathers_22 : decode prog_8_method_2_code 22 = .ok (.iload 4, 2) := by decide +kernel
theorem d_Pi_gathers_24 : decode prog_8_method_2_code 24 = .ok (.if_icmp .ne 7, 3) := by decide +kernel
theorem d_Pi_gathers_27 : decode prog_8_method_2_code 27 = .ok (.iconst 1, 1) := by decide +kernel
theorem d_Pi_gathers_28 : decode prog_8_method_2_code 28 = .ok (.goto 4, 3) := by decide +kernel
theorem d_Pi_gathers_31 : decode prog_8_method_2_code 31 = .ok (.iconst 0, 1) := by decide +kernel
theorem d_Pi_gathers_32 : decode prog_8_method_2_code 32 = .ok (.ireturn, 1) := by decide +kernel
theorem d_Pi_keep_0 : decode prog_8_method_3_code 0 = .ok (.iload_n 1, 1) := by decide +kernel
theorem d_Pi_keep_1 : decode prog_8_method_3_code 1 = .ok (.iconst 1, 1) := by decide +kernel
theorem d_Pi_keep_2 : decode prog_8_method_3_code 2 = .ok (.isub, 1) := by decide +kernel
theorem d_Pi_keep_3 : decode prog_8_method_3_code 3 = .ok (.istore_n 3, 1) := by decide +kernel
theorem d_Pi_keep_4 : decode prog_8_method_3_code 4 = .ok (.iload_n 3, 1) := by decide +kernel
theorem d_Pi_keep_5 : decode prog_8_method_3_code 5 = .ok (.ifCond .lt 38, 3) := by decide +kernel
theorem d_Pi_keep_8 : decode prog_8_method_3_code 8 = .ok (.iload_n 3, 1) := by decide +kernel
theorem d_Pi_keep_9 : decode prog_8_method_3_code 9 = .ok (.aload_n 0, 1) := by decide +kernel
theorem d_Pi_keep_10 : decode prog_8_method_3_code 10 = .ok (.getfield 19, 3) := by decide +kernel
theorem d_Pi_keep_13 : decode prog_8_method_3_code 13 = .ok (.arraylength, 1) := by decide +kernel
theorem d_Pi_keep_14 : decode prog_8_method_3_code 14 = .ok (.if_icmp .ge 29, 3) := by decide +kernel
theorem d_Pi_keep_17 : decode prog_8_method_3_code 17 = .ok (.aload_n 0, 1) := by decide +kernel
theorem d_Pi_keep_18 : decode prog_8_method_3_code 18 = .ok (.getfield 19, 3) := by decide +kernel
theorem d_Pi_keep_21 : decode prog_8_method_3_code 21 = .ok (.iload_n 3, 1) := by decide +kernel
theorem d_Pi_keep_22 : decode prog_8_method_3_code 22 = .ok (.aaload, 1) := by decide +kernel
theorem d_Pi_keep_23 : decode prog_8_method_3_code 23 = .ok (.ifnonnull 20, 3) := by decide +kernel
theorem d_Pi_keep_26 : decode prog_8_method_3_code 26 = .ok (.aload_n 0, 1) := by decide +kernel
theorem d_Pi_keep_27 : decode prog_8_method_3_code 27 = .ok (.getfield 19, 3) := by decide +kernel
theorem d_Pi_keep_30 : decode prog_8_method_3_code 30 = .ok (.iload_n 3, 1) := by decide +kernel
theorem d_Pi_keep_31 : decode prog_8_method_3_code 31 = .ok (.aload_n 2, 1) := by decide +kernel
theorem d_Pi_keep_32 : decode prog_8_method_3_code 32 = .ok (.aastore, 1) := by decide +kernel
theorem d_Pi_keep_33 : decode prog_8_method_3_code 33 = .ok (.aload_n 0, 1) := by decide +kernel
theorem d_Pi_keep_34 : decode prog_8_method_3_code 34 = .ok (.dup, 1) := by decide +kernel
theorem d_Pi_keep_35 : decode prog_8_method_3_code 35 = .ok (.getfield 23, 3) := by decide +kernel
theorem d_Pi_keep_38 : decode prog_8_method_3_code 38 = .ok (.iconst 1, 1) := by decide +kernel
theorem d_Pi_keep_39 : decode prog_8_method_3_code 39 = .ok (.isub, 1) := by decide +kernel
theorem d_Pi_keep_40 : decode prog_8_method_3_code 40 = .ok (.putfield 23, 3) := by decide +kernel
theorem d_Pi_keep_43 : decode prog_8_method_3_code 43 = .ok (.return_, 1) := by decide +kernel
theorem d_Pi_lacking_0 : decode prog_8_method_4_code 0 = .ok (.aload_n 0, 1) := by decide +kernel
theorem d_Pi_lacking_1 : decode prog_8_method_4_code 1 = .ok (.getfield 23, 3) := by decide +kernel
theorem d_Pi_lacking_4 : decode prog_8_method_4_code 4 = .ok (.ireturn, 1) := by decide +kernel
theorem d_Pi_readText_0 : decode prog_8_method_5_code 0 = .ok (.iconst 0, 1) := by decide +kernel
theorem d_Pi_readText_1 : decode prog_8_method_5_code 1 = .ok (.istore_n 2, 1) := by decide +kernel
theorem d_Pi_readText_2 : decode prog_8_method_5_code 2 = .ok (.iconst 0, 1) := by decide +kernel
theorem d_Pi_readText_3 : decode prog_8_method_5_code 3 = .ok (.istore_n 3, 1) := by decide +kernel
theorem d_Pi_readText_4 : decode prog_8_method_5_code 4 = .ok (.iload_n 3, 1) := by decide +kernel
theorem d_Pi_readText_5 : decode prog_8_method_5_code 5 = .ok (.aload_n 0, 1) := by decide +kernel
theorem d_Pi_readText_6 : decode prog_8_method_5_code 6 = .ok (.getfield 19, 3) := by decide +kernel
theorem d_Pi_readText_9 : decode prog_8_method_5_code 9 = .ok (.arraylength, 1) := by decide +kernel
theorem d_Pi_readText_10 : decode prog_8_method_5_code 10 = .ok (.if_icmp .ge 30, 3) := by decide +kernel
theorem d_Pi_readText_13 : decode prog_8_method_5_code 13 = .ok (.aload_n 0, 1) := by decide +kernel
theorem d_Pi_readText_14 : decode prog_8_method_5_code 14 = .ok (.getfield 19, 3) := by decide +kernel
theorem d_Pi_readText_17 : decode prog_8_method_5_code 17 = .ok (.iload_n 3, 1) := by decide +kernel
theorem d_Pi_readText_18 : decode prog_8_method_5_code 18 = .ok (.aaload, 1) := by decide +kernel
theorem d_Pi_readText_19 : decode prog_8_method_5_code 19 = .ok (.ifnull 15, 3) := by decide +kernel
theorem d_Pi_readText_22 : decode prog_8_method_5_code 22 = .ok (.aload_n 0, 1) := by decide +kernel
theorem d_Pi_readText_23 : decode prog_8_method_5_code 23 = .ok (.getfield 19, 3) := by decide +kernel
theorem d_Pi_readText_26 : decode prog_8_method_5_code 26 = .ok (.iload_n 3, 1) := by decide +kernel
theorem d_Pi_readText_27 : decode prog_8_method_5_code 27 = .ok (.aaload, 1) := by decide +kernel
theorem d_Pi_readText_28 : decode prog_8_method_5_code 28 = .ok (.aload_n 1, 1) := by decide +kernel
theorem d_Pi_readText_29 : decode prog_8_method_5_code 29 = .ok (.iload_n 2, 1) := by decide +kernel
theorem d_Pi_readText_30 : decode prog_8_method_5_code 30 = .ok (.invokevirtual 26, 3) := by decide +kernel
theorem d_Pi_readText_33 : decode prog_8_method_5_code 33 = .ok (.istore_n 2, 1) := by decide +kernel
theorem d_Pi_readText_34 : decode prog_8_method_5_code 34 = .ok (.iinc 3 1, 3) := by decide +kernel
theorem d_Pi_readText_37 : decode prog_8_method_5_code 37 = .ok (.goto (-33), 3) := by decide +kernel
theorem d_Pi_readText_40 : decode prog_8_method_5_code 40 = .ok (.iload_n 2, 1) := by decide +kernel
theorem d_Pi_readText_41 : decode prog_8_method_5_code 41 = .ok (.ireturn, 1) := by decide +kernel
theorem d_Ro_init_0 : decode prog_9_method_1_code 0 = .ok (.aload_n 0, 1) := by decide +kernel
theorem d_Ro_init_1 : decode prog_9_method_1_code 1 = .ok (.invokespecial 1, 3) := by decide +kernel
theorem d_Ro_init_4 : decode prog_9_method_1_code 4 = .ok (.aload_n 0, 1) := by decide +kernel
theorem d_Ro_init_5 : decode prog_9_method_1_code 5 = .ok (.iload_n 1, 1) := by decide +kernel
theorem d_Ro_init_6 : decode prog_9_method_1_code 6 = .ok (.newarray .int, 2) := by decide +kernel
theorem d_Ro_init_8 : decode prog_9_method_1_code 8 = .ok (.putfield 7, 3) := by decide +kernel
theorem d_Ro_init_11 : decode prog_9_method_1_code 11 = .ok (.aload_n 0, 1) := by decide +kernel
theorem d_Ro_init_12 : decode prog_9_method_1_code 12 = .ok (.aload_n 2, 1) := by decide +kernel
theorem d_Ro_init_13 : decode prog_9_method_1_code 13 = .ok (.putfield 13, 3) := by decide +kernel
theorem d_Ro_init_16 : decode prog_9_method_1_code 16 = .ok (.return_, 1) := by decide +kernel
theorem d_Ro_digitsOf_0 : decode prog_9_method_2_code 0 = .ok (.iconst 1, 1) := by decide +kernel
theorem d_Ro_digitsOf_1 : decode prog_9_method_2_code 1 = .ok (.istore_n 2, 1) := by decide +kernel
theorem d_Ro_digitsOf_2 : decode prog_9_method_2_code 2 = .ok (.lload_n 0, 1) := by decide +kernel
theorem d_Ro_digitsOf_3 : decode prog_9_method_2_code 3 = .ok (.ldc2_w 17, 3) := by decide +kernel
theorem d_Ro_digitsOf_6 : decode prog_9_method_2_code 6 = .ok (.ldiv, 1) := by decide +kernel
theorem d_Ro_digitsOf_7 : decode prog_9_method_2_code 7 = .ok (.lstore_n 3, 1) := by decide +kernel
theorem d_Ro_digitsOf_8 : decode prog_9_method_2_code 8 = .ok (.lload_n 3, 1) := by decide +kernel
theorem d_Ro_digitsOf_9 : decode prog_9_method_2_code 9 = .ok (.lconst 0, 1) := by decide +kernel
theorem d_Ro_digitsOf_10 : decode prog_9_method_2_code 10 = .ok (.lcmp, 1) := by decide +kernel
theorem d_Ro_digitsOf_11 : decode prog_9_method_2_code 11 = .ok (.ifCond .le 21, 3) := by decide +kernel
theorem d_Ro_digitsOf_14 : decode prog_9_method_2_code 14 = .ok (.iload_n 2, 1) := by decide +kernel
theorem d_Ro_digitsOf_15 : decode prog_9_method_2_code 15 = .ok (.bipush 12, 2) := by decide +kernel
theorem d_Ro_digitsOf_17 : decode prog_9_method_2_code 17 = .ok (.if_icmp .ge 15, 3) := by decide +kernel
theorem d_Ro_digitsOf_20 : decode prog_9_method_2_code 20 = .ok (.lload_n 3, 1) := by decide +kernel
theorem d_Ro_digitsOf_21 : decode prog_9_method_2_code 21 = .ok (.ldc2_w 17, 3) := by decide +kernel
theorem d_Ro_digitsOf_24 : decode prog_9_method_2_code 24 = .ok (.ldiv, 1) := by decide +kernel
theorem d_Ro_digitsOf_25 : decode prog_9_method_2_code 25 = .ok (.lstore_n 3, 1) := by decide +kernel
theorem d_Ro_digitsOf_26 : decode prog_9_method_2_code 26 = .ok (.iinc 2 1, 3) := by decide +kernel
theorem d_Ro_digitsOf_29 : decode prog_9_method_2_code 29 = .ok (.goto (-21), 3) := by decide +kernel
theorem d_Ro_digitsOf_32 : decode prog_9_method_2_code 32 = .ok (.iload_n 2, 1) := by decide +kernel
theorem d_Ro_digitsOf_33 : decode prog_9_method_2_code 33 = .ok (.ireturn, 1) := by decide +kernel
theorem d_Ro_addressSize_0 : decode prog_9_method_3_code 0 = .ok (.iconst 2, 1) := by decide +kernel
theorem d_Ro_addressSize_1 : decode prog_9_method_3_code 1 = .ok (.iload_n 0, 1) := by decide +kernel
theorem d_Ro_addressSize_2 : decode prog_9_method_3_code 2 = .ok (.iconst 1, 1) := by decide +kernel
theorem d_Ro_addressSize_3 : decode prog_9_method_3_code 3 = .ok (.iadd, 1) := by decide +kernel
theorem d_Ro_addressSize_4 : decode prog_9_method_3_code 4 = .ok (.iconst 2, 1) := by decide +kernel
theorem d_Ro_addressSize_5 : decode prog_9_method_3_code 5 = .ok (.idiv, 1) := by decide +kernel
theorem d_Ro_addressSize_6 : decode prog_9_method_3_code 6 = .ok (.iadd, 1) := by decide +kernel
theorem d_Ro_addressSize_7 : decode prog_9_method_3_code 7 = .ok (.ireturn, 1) := by decide +kernel
theorem d_Ro_dataSize_0 : decode prog_9_method_4_code 0 = .ok (.iconst 1, 1) := by decide +kernel
theorem d_Ro_dataSize_1 : decode prog_9_method_4_code 1 = .ok (.bipush 7, 2) := by decide +kernel
theorem d_Ro_dataSize_3 : decode prog_9_method_4_code 3 = .ok (.iload_n 0, 1) := by decide +kernel
theorem d_Ro_dataSize_4 : decode prog_9_method_4_code 4 = .ok (.imul, 1) := by decide +kernel
theorem d_Ro_dataSize_5 : decode prog_9_method_4_code 5 = .ok (.bipush 7, 2) := by decide +kernel
theorem d_Ro_dataSize_7 : decode prog_9_method_4_code 7 = .ok (.iadd, 1) := by decide +kernel
theorem d_Ro_dataSize_8 : decode prog_9_method_4_code 8 = .ok (.bipush 8, 2) := by decide +kernel
theorem d_Ro_dataSize_10 : decode prog_9_method_4_code 10 = .ok (.idiv, 1) := by decide +kernel
theorem d_Ro_dataSize_11 : decode prog_9_method_4_code 11 = .ok (.iadd, 1) := by decide +kernel
theorem d_Ro_dataSize_12 : decode prog_9_method_4_code 12 = .ok (.ireturn, 1) := by decide +kernel
theorem d_Ro_submitSize_0 : decode prog_9_method_5_code 0 = .ok (.iconst 2, 1) := by decide +kernel
theorem d_Ro_submitSize_1 : decode prog_9_method_5_code 1 = .ok (.lload_n 0, 1) := by decide +kernel
theorem d_Ro_submitSize_2 : decode prog_9_method_5_code 2 = .ok (.invokestatic 19, 3) := by decide +kernel
theorem d_Ro_submitSize_5 : decode prog_9_method_5_code 5 = .ok (.invokestatic 23, 3) := by decide +kernel
theorem d_Ro_submitSize_8 : decode prog_9_method_5_code 8 = .ok (.iadd, 1) := by decide +kernel
theorem d_Ro_submitSize_9 : decode prog_9_method_5_code 9 = .ok (.iconst 3, 1) := by decide +kernel
theorem d_Ro_submitSize_10 : decode prog_9_method_5_code 10 = .ok (.iadd, 1) := by decide +kernel
theorem d_Ro_submitSize_11 : decode prog_9_method_5_code 11 = .ok (.iload_n 2, 1) := by decide +kernel
theorem d_Ro_submitSize_12 : decode prog_9_method_5_code 12 = .ok (.invokestatic 27, 3) := by decide +kernel
theorem d_Ro_submitSize_15 : decode prog_9_method_5_code 15 = .ok (.iadd, 1) := by decide +kernel
theorem d_Ro_submitSize_16 : decode prog_9_method_5_code 16 = .ok (.ireturn, 1) := by decide +kernel
theorem d_Ro_deliverSize_0 : decode prog_9_method_6_code 0 = .ok (.iconst 1, 1) := by decide +kernel
theorem d_Ro_deliverSize_1 : decode prog_9_method_6_code 1 = .ok (.lload_n 0, 1) := by decide +kernel
theorem d_Ro_deliverSize_2 : decode prog_9_method_6_code 2 = .ok (.invokestatic 19, 3) := by decide +kernel
theorem d_Ro_deliverSize_5 : decode prog_9_method_6_code 5 = .ok (.invokestatic 23, 3) := by decide +kernel
theorem d_Ro_deliverSize_8 : decode prog_9_method_6_code 8 = .ok (.iadd, 1) := by decide +kernel
theorem d_Ro_deliverSize_9 : decode prog_9_method_6_code 9 = .ok (.iconst 2, 1) := by decide +kernel
theorem d_Ro_deliverSize_10 : decode prog_9_method_6_code 10 = .ok (.iadd, 1) := by decide +kernel
theorem d_Ro_deliverSize_11 : decode prog_9_method_6_code 11 = .ok (.bipush 7, 2) := by decide +kernel
theorem d_Ro_deliverSize_13 : decode prog_9_method_6_code 13 = .ok (.iadd, 1) := by decide +kernel
theorem d_Ro_deliverSize_14 : decode prog_9_method_6_code 14 = .ok (.iload_n 2, 1) := by decide +kernel
theorem d_Ro_deliverSize_15 : decode prog_9_method_6_code 15 = .ok (.iadd, 1) := by decide +kernel
theorem d_Ro_deliverSize_16 : decode prog_9_method_6_code 16 = .ok (.ireturn, 1) := by decide +kernel
theorem d_Ro_reportSize_0 : decode prog_9_method_7_code 0 = .ok (.iconst 2, 1) := by decide +kernel
theorem d_Ro_reportSize_1 : decode prog_9_method_7_code 1 = .ok (.lload_n 0, 1) := by decide +kernel
theorem d_Ro_reportSize_2 : decode prog_9_method_7_code 2 = .ok (.invokestatic 19, 3) := by decide +kernel
theorem d_Ro_reportSize_5 : decode prog_9_method_7_code 5 = .ok (.invokestatic 23, 3) := by decide +kernel
theorem d_Ro_reportSize_8 : decode prog_9_method_7_code 8 = .ok (.iadd, 1) := by decide +kernel
theorem d_Ro_reportSize_9 : decode prog_9_method_7_code 9 = .ok (.bipush 14, 2) := by decide +kernel
theorem d_Ro_reportSize_11 : decode prog_9_method_7_code 11 = .ok (.iadd, 1) := by decide +kernel
theorem d_Ro_reportSize_12 : decode prog_9_method_7_code 12 = .ok (.iconst 1, 1) := by decide +kernel
theorem d_Ro_reportSize_13 : decode prog_9_method_7_code 13 = .ok (.iadd, 1) := by decide +kernel
theorem d_Ro_reportSize_14 : decode prog_9_method_7_code 14 = .ok (.ireturn, 1) := by decide +kernel
theorem d_Ro_size_0 : decode prog_9_method_8_code 0 = .ok (.aload_n 0, 1) := by decide +kernel
theorem d_Ro_size_1 : decode prog_9_method_8_code 1 = .ok (.getfield 7, 3) := by decide +kernel
theorem d_Ro_size_4 : decode prog_9_method_8_code 4 = .ok (.arraylength, 1) := by decide +kernel
theorem d_Ro_size_5 : decode prog_9_method_8_code 5 = .ok (.ireturn, 1) := by decide +kernel
theorem d_Ro_has_0 : decode prog_9_method_9_code 0 = .ok (.iload_n 1, 1) := by decide +kernel
theorem d_Ro_has_1 : decode prog_9_method_9_code 1 = .ok (.ifCond .lt 16, 3) := by decide +kernel
theorem d_Ro_has_4 : decode prog_9_method_9_code 4 = .ok (.iload_n 1, 1) := by decide +kernel
theorem d_Ro_has_5 : decode prog_9_method_9_code 5 = .ok (.aload_n 0, 1) := by decide +kernel
theorem d_Ro_has_6 : decode prog_9_method_9_code 6 = .ok (.getfield 7, 3) := by decide +kernel
theorem d_Ro_has_9 : decode prog_9_method_9_code 9 = .ok (.arraylength, 1) := by decide +kernel
theorem d_Ro_has_10 : decode prog_9_method_9_code 10 = .ok (.if_icmp .ge 7, 3) := by decide +kernel
theorem d_Ro_has_13 : decode prog_9_method_9_code 13 = .ok (.iconst 1, 1) := by decide +kernel
theorem d_Ro_has_14 : decode prog_9_method_9_code 14 = .ok (.goto 4, 3) := by decide +kernel
theorem d_Ro_has_17 : decode prog_9_method_9_code 17 = .ok (.iconst 0, 1) := by decide +kernel
theorem d_Ro_has_18 : decode prog_9_method_9_code 18 = .ok (.ireturn, 1) := by decide +kernel
theorem d_Ro_at_0 : decode prog_9_method_10_code 0 = .ok (.aload_n 0, 1) := by decide +kernel
theorem d_Ro_at_1 : decode prog_9_method_10_code 1 = .ok (.iload_n 1, 1) := by decide +kernel
theorem d_Ro_at_2 : decode prog_9_method_10_code 2 = .ok (.invokevirtual 30, 3) := by decide +kernel
theorem d_Ro_at_5 : decode prog_9_method_10_code 5 = .ok (.ifCond .eq 12, 3) := by decide +kernel
theorem d_Ro_at_8 : decode prog_9_method_10_code 8 = .ok (.aload_n 0, 1) := by decide +kernel
theorem d_Ro_at_9 : decode prog_9_method_10_code 9 = .ok (.getfield 7, 3) := by decide +kernel
theorem d_Ro_at_12 : decode prog_9_method_10_code 12 = .ok (.iload_n 1, 1) := by decide +kernel
theorem d_Ro_at_13 : decode prog_9_method_10_code 13 = .ok (.iaload, 1) := by decide +kernel
theorem d_Ro_at_14 : decode prog_9_method_10_code 14 = .ok (.goto 4, 3) := by decide +kernel
theorem d_Ro_at_17 : decode prog_9_method_10_code 17 = .ok (.iconst (-1), 1) := by decide +kernel
theorem d_Ro_at_18 : decode prog_9_method_10_code 18 = .ok (.ireturn, 1) := by decide +kernel
theorem d_Ro_flip_0 : decode prog_9_method_11_code 0 = .ok (.aload_n 0, 1) := by decide +kernel
theorem d_Ro_flip_1 : decode prog_9_method_11_code 1 = .ok (.iload_n 1, 1) := by decide +kernel
theorem d_Ro_flip_2 : decode prog_9_method_11_code 2 = .ok (.invokevirtual 30, 3) := by decide +kernel
theorem d_Ro_flip_5 : decode prog_9_method_11_code 5 = .ok (.ifCond .eq 13, 3) := by decide +kernel
theorem d_Ro_flip_8 : decode prog_9_method_11_code 8 = .ok (.aload_n 0, 1) := by decide +kernel
theorem d_Ro_flip_9 : decode prog_9_method_11_code 9 = .ok (.getfield 7, 3) := by decide +kernel
theorem d_Ro_flip_12 : decode prog_9_method_11_code 12 = .ok (.iload_n 1, 1) := by decide +kernel
theorem d_Ro_flip_13 : decode prog_9_method_11_code 13 = .ok (.dup2, 1) := by decide +kernel
theorem d_Ro_flip_14 : decode prog_9_method_11_code 14 = .ok (.iaload, 1) := by decide +kernel
theorem d_Ro_flip_15 : decode prog_9_method_11_code 15 = .ok (.iload_n 2, 1) := by decide +kernel
theorem d_Ro_flip_16 : decode prog_9_method_11_code 16 = .ok (.ixor, 1) := by decide +kernel
theorem d_Ro_flip_17 : decode prog_9_method_11_code 17 = .ok (.iastore, 1) := by decide +kernel
theorem d_Ro_flip_18 : decode prog_9_method_11_code 18 = .ok (.return_, 1) := by decide +kernel
theorem d_Ro_put_0 : decode prog_9_method_12_code 0 = .ok (.aload_n 0, 1) := by decide +kernel
theorem d_Ro_put_1 : decode prog_9_method_12_code 1 = .ok (.aload_n 0, 1) := by decide +kernel
theorem d_Ro_put_2 : decode prog_9_method_12_code 2 = .ok (.getfield 34, 3) := by decide +kernel
theorem d_Ro_put_5 : decode prog_9_method_12_code 5 = .ok (.invokevirtual 30, 3) := by decide +kernel
theorem d_Ro_put_8 : decode prog_9_method_12_code 8 = .ok (.ifCond .eq 23, 3) := by decide +kernel
theorem d_Ro_put_11 : decode prog_9_method_12_code 11 = .ok (.aload_n 0, 1) := by decide +kernel
theorem d_Ro_put_12 : decode prog_9_method_12_code 12 = .ok (.getfield 7, 3) := by decide +kernel
theorem d_Ro_put_15 : decode prog_9_method_12_code 15 = .ok (.aload_n 0, 1) := by decide +kernel
theorem d_Ro_put_16 : decode prog_9_method_12_code 16 = .ok (.getfield 34, 3) := by decide +kernel
theorem d_Ro_put_19 : decode prog_9_method_12_code 19 = .ok (.iload_n 1, 1) := by decide +kernel
theorem d_Ro_put_20 : decode prog_9_method_12_code 20 = .ok (.iastore, 1) := by decide +kernel
theorem d_Ro_put_21 : decode prog_9_method_12_code 21 = .ok (.aload_n 0, 1) := by decide +kernel
theorem d_Ro_put_22 : decode prog_9_method_12_code 22 = .ok (.dup, 1) := by decide +kernel
theorem d_Ro_put_23 : decode prog_9_method_12_code 23 = .ok (.getfield 34, 3) := by decide +kernel
theorem d_Ro_put_26 : decode prog_9_method_12_code 26 = .ok (.iconst 1, 1) := by decide +kernel
theorem d_Ro_put_27 : decode prog_9_method_12_code 27 = .ok (.iadd, 1) := by decide +kernel
theorem d_Ro_put_28 : decode prog_9_method_12_code 28 = .ok (.putfield 34, 3) := by decide +kernel
theorem d_Ro_put_31 : decode prog_9_method_12_code 31 = .ok (.return_, 1) := by decide +kernel
theorem d_Ro_merge_0 : decode prog_9_method_13_code 0 = .ok (.aload_n 0, 1) := by decide +kernel
theorem d_Ro_merge_1 : decode prog_9_method_13_code 1 = .ok (.iload_n 1, 1) := by decide +kernel
theorem d_Ro_merge_2 : decode prog_9_method_13_code 2 = .ok (.invokevirtual 30, 3) := by decide +kernel
theorem d_Ro_merge_5 : decode prog_9_method_13_code 5 = .ok (.ifCond .eq 13, 3) := by decide +kernel
theorem d_Ro_merge_8 : decode prog_9_method_13_code 8 = .ok (.aload_n 0, 1) := by decide +kernel
theorem d_Ro_merge_9 : decode prog_9_method_13_code 9 = .ok (.getfield 7, 3) := by decide +kernel
theorem d_Ro_merge_12 : decode prog_9_method_13_code 12 = .ok (.iload_n 1, 1) := by decide +kernel
theorem d_Ro_merge_13 : decode prog_9_method_13_code 13 = .ok (.dup2, 1) := by decide +kernel
theorem d_Ro_merge_14 : decode prog_9_method_13_code 14 = .ok (.iaload, 1) := by decide +kernel
theorem d_Ro_merge_15 : decode prog_9_method_13_code 15 = .ok (.iload_n 2, 1) := by decide +kernel
theorem d_Ro_merge_16 : decode prog_9_method_13_code 16 = .ok (.ior, 1) := by decide +kernel
theorem d_Ro_merge_17 : decode prog_9_method_13_code 17 = .ok (.iastore, 1) := by decide +kernel
theorem d_Ro_merge_18 : decode prog_9_method_13_code 18 = .ok (.return_, 1) := by decide +kernel
theorem d_Ro_putDigits_0 : decode prog_9_method_14_code 0 = .ok (.aload_n 0, 1) := by decide +kernel
theorem d_Ro_putDigits_1 : decode prog_9_method_14_code 1 = .ok (.getfield 34, 3) := by decide +kernel
theorem d_Ro_putDigits_4 : decode prog_9_method_14_code 4 = .ok (.istore 4, 2) := by decide +kernel
theorem d_Ro_putDigits_6 : decode prog_9_method_14_code 6 = .ok (.iconst 0, 1) := by decide +kernel
theorem d_Ro_putDigits_7 : decode prog_9_method_14_code 7 = .ok (.istore 5, 2) := by decide +kernel
theorem d_Ro_putDigits_9 : decode prog_9_method_14_code 9 = .ok (.iload 5, 2) := by decide +kernel
theorem d_Ro_putDigits_11 : decode prog_9_method_14_code 11 = .ok (.iload_n 3, 1) := by decide +kernel
theorem d_Ro_putDigits_12 : decode prog_9_method_14_code 12 = .ok (.if_icmp .ge 28, 3) := by decide +kernel
theorem d_Ro_putDigits_15 : decode prog_9_method_14_code 15 = .ok (.aload_n 0, 1) := by decide +kernel
theorem d_Ro_putDigits_16 : decode prog_9_method_14_code 16 = .ok (.iload 5, 2) := by decide +kernel
theorem d_Ro_putDigits_18 : decode prog_9_method_14_code 18 = .ok (.iconst 1, 1) := by decide +kernel
theorem d_Ro_putDigits_19 : decode prog_9_method_14_code 19 = .ok (.iadd, 1) := by decide +kernel
theorem d_Ro_putDigits_20 : decode prog_9_method_14_code 20 = .ok (.iload_n 3, 1) := by decide +kernel
theorem d_Ro_putDigits_21 : decode prog_9_method_14_code 21 = .ok (.if_icmp .ge 7, 3) := by decide +kernel
theorem d_Ro_putDigits_24 : decode prog_9_method_14_code 24 = .ok (.iconst 0, 1) := by decide +kernel
theorem d_Ro_putDigits_25 : decode prog_9_method_14_code 25 = .ok (.goto 6, 3) := by decide +kernel
theorem d_Ro_putDigits_28 : decode prog_9_method_14_code 28 = .ok (.sipush 240, 3) := by decide +kernel
theorem d_Ro_putDigits_31 : decode prog_9_method_14_code 31 = .ok (.invokevirtual 38, 3) := by decide +kernel
theorem d_Ro_putDigits_34 : decode prog_9_method_14_code 34 = .ok (.iinc 5 2, 3) := by decide +kernel
theorem d_Ro_putDigits_37 : decode prog_9_method_14_code 37 = .ok (.goto (-28), 3) := by decide +kernel
theorem d_Ro_putDigits_40 : decode prog_9_method_14_code 40 = .ok (.lload_n 1, 1) := by decide +kernel
theorem d_Ro_putDigits_41 : decode prog_9_method_14_code 41 = .ok (.lstore 5, 2) := by decide +kernel
theorem d_Ro_putDigits_43 : decode prog_9_method_14_code 43 = .ok (.iload_n 3, 1) := by decide +kernel
theorem d_Ro_putDigits_44 : decode prog_9_method_14_code 44 = .ok (.iconst 1, 1) := by decide +kernel
theorem d_Ro_putDigits_45 : decode prog_9_method_14_code 45 = .ok (.isub, 1) := by decide +kernel
theorem d_Ro_putDigits_46 : decode prog_9_method_14_code 46 = .ok (.istore 7, 2) := by decide +kernel
theorem d_Ro_putDigits_48 : decode prog_9_method_14_code 48 = .ok (.iload 7, 2) := by decide +kernel
theorem d_Ro_putDigits_50 : decode prog_9_method_14_code 50 = .ok (.ifCond .lt 42, 3) := by decide +kernel
theorem d_Ro_putDigits_53 : decode prog_9_method_14_code 53 = .ok (.aload_n 0, 1) := by decide +kernel
theorem d_Ro_putDigits_54 : decode prog_9_method_14_code 54 = .ok (.iload 4, 2) := by decide +kernel
theorem d_Ro_putDigits_56 : decode prog_9_method_14_code 56 = .ok (.iload 7, 2) := by decide +kernel
theorem d_Ro_putDigits_58 : decode prog_9_method_14_code 58 = .ok (.iconst 2, 1) := by decide +kernel
theorem d_Ro_putDigits_59 : decode prog_9_method_14_code 59 = .ok (.idiv, 1) := by decide +kernel
theorem d_Ro_putDigits_60 : decode prog_9_method_14_code 60 = .ok (.iadd, 1) := by decide +kernel
theorem d_Ro_putDigits_61 : decode prog_9_method_14_code 61 = .ok (.lload 5, 2) := by decide +kernel
theorem d_Ro_putDigits_63 : decode prog_9_method_14_code 63 = .ok (.ldc2_w 17, 3) := by decide +kernel
theorem d_Ro_putDigits_66 : decode prog_9_method_14_code 66 = .ok (.lrem, 1) := by decide +kernel
theorem d_Ro_putDigits_67 : decode prog_9_method_14_code 67 = .ok (.l2i, 1) := by decide +kernel
theorem d_Ro_putDigits_68 : decode prog_9_method_14_code 68 = .ok (.iload 7, 2) := by decide +kernel
theorem d_Ro_putDigits_70 : decode prog_9_method_14_code 70 = .ok (.iconst 2, 1) := by decide +kernel
theorem d_Ro_putDigits_71 : decode prog_9_method_14_code 71 = .ok (.irem, 1) := by decide +kernel
theorem d_Ro_putDigits_72 : decode prog_9_method_14_code 72 = .ok (.iconst 4, 1) := by decide +kernel
theorem d_Ro_putDigits_73 : decode prog_9_method_14_code 73 = .ok (.imul, 1) := by decide +kernel
theorem d_Ro_putDigits_74 : decode prog_9_method_14_code 74 = .ok (.ishl, 1) := by decide +kernel
theorem d_Ro_putDigits_75 : decode prog_9_method_14_code 75 = .ok (.invokevirtual 42, 3) := by decide +kernel
theorem d_Ro_putDigits_78 : decode prog_9_method_14_code 78 = .ok (.lload 5, 2) := by decide +kernel
theorem d_Ro_putDigits_80 : decode prog_9_method_14_code 80 = .ok (.ldc2_w 17, 3) := by decide +kernel
theorem d_Ro_putDigits_83 : decode prog_9_method_14_code 83 = .ok (.ldiv, 1) := by decide +kernel
theorem d_Ro_putDigits_84 : decode prog_9_method_14_code 84 = .ok (.lstore 5, 2) := by decide +kernel
theorem d_Ro_putDigits_86 : decode prog_9_method_14_code 86 = .ok (.iinc 7 (-1), 3) := by decide +kernel
theorem d_Ro_putDigits_89 : decode prog_9_method_14_code 89 = .ok (.goto (-41), 3) := by decide +kernel
theorem d_Ro_putDigits_92 : decode prog_9_method_14_code 92 = .ok (.return_, 1) := by decide +kernel
theorem d_Ro_putAddress_0 : decode prog_9_method_15_code 0 = .ok (.lload_n 1, 1) := by decide +kernel
theorem d_Ro_putAddress_1 : decode prog_9_method_15_code 1 = .ok (.invokestatic 19, 3) := by decide +kernel
theorem d_Ro_putAddress_4 : decode prog_9_method_15_code 4 = .ok (.istore_n 3, 1) := by decide +kernel
theorem d_Ro_putAddress_5 : decode prog_9_method_15_code 5 = .ok (.aload_n 0, 1) := by decide +kernel
theorem d_Ro_putAddress_6 : decode prog_9_method_15_code 6 = .ok (.iload_n 3, 1) := by decide +kernel
theorem d_Ro_putAddress_7 : decode prog_9_method_15_code 7 = .ok (.invokevirtual 38, 3) := by decide +kernel
theorem d_Ro_putAddress_10 : decode prog_9_method_15_code 10 = .ok (.aload_n 0, 1) := by decide +kernel
theorem d_Ro_putAddress_11 : decode prog_9_method_15_code 11 = .ok (.sipush 145, 3) := by decide +kernel
theorem d_Ro_putAddress_14 : decode prog_9_method_15_code 14 = .ok (.invokevirtual 38, 3) := by decide +kernel
theorem d_Ro_putAddress_17 : decode prog_9_method_15_code 17 = .ok (.aload_n 0, 1) := by decide +kernel
theorem d_Ro_putAddress_18 : decode prog_9_method_15_code 18 = .ok (.lload_n 1, 1) := by decide +kernel
theorem d_Ro_putAddress_19 : decode prog_9_method_15_code 19 = .ok (.iload_n 3, 1) := by decide +kernel
theorem d_Ro_putAddress_20 : decode prog_9_method_15_code 20 = .ok (.invokevirtual 46, 3) := by decide +kernel
theorem d_Ro_putAddress_23 : decode prog_9_method_15_code 23 = .ok (.return_, 1) := by decide +kernel
theorem d_Ro_putTime_0 : decode prog_9_method_16_code 0 = .ok (.aload_n 0, 1) := by decide +kernel
theorem d_Ro_putTime_1 : decode prog_9_method_16_code 1 = .ok (.iload_n 1, 1) := by decide +kernel
theorem d_Ro_putTime_2 : decode prog_9_method_16_code 2 = .ok (.i2l, 1) := by decide +kernel
theorem d_Ro_putTime_3 : decode prog_9_method_16_code 3 = .ok (.bipush 14, 2) := by decide +kernel
theorem d_Ro_putTime_5 : decode prog_9_method_16_code 5 = .ok (.invokevirtual 46, 3) := by decide +kernel
theorem d_Ro_putTime_8 : decode prog_9_method_16_code 8 = .ok (.return_, 1) := by decide +kernel
theorem d_Ro_putSubmitHead_0 : decode prog_9_method_17_code 0 = .ok (.aload_n 0, 1) := by decide +kernel
theorem d_Ro_putSubmitHead_1 : decode prog_9_method_17_code 1 = .ok (.iload_n 1, 1) := by decide +kernel
theorem d_Ro_putSubmitHead_2 : decode prog_9_method_17_code 2 = .ok (.invokevirtual 38, 3) := by decide +kernel
theorem d_Ro_putSubmitHead_5 : decode prog_9_method_17_code 5 = .ok (.aload_n 0, 1) := by decide +kernel
theorem d_Ro_putSubmitHead_6 : decode prog_9_method_17_code 6 = .ok (.iload_n 2, 1) := by decide +kernel
theorem d_Ro_putSubmitHead_7 : decode prog_9_method_17_code 7 = .ok (.invokevirtual 38, 3) := by decide +kernel
theorem d_Ro_putSubmitHead_10 : decode prog_9_method_17_code 10 = .ok (.aload_n 0, 1) := by decide +kernel
theorem d_Ro_putSubmitHead_11 : decode prog_9_method_17_code 11 = .ok (.lload_n 3, 1) := by decide +kernel
theorem d_Ro_putSubmitHead_12 : decode prog_9_method_17_code 12 = .ok (.invokevirtual 50, 3) := by decide +kernel
theorem d_Ro_putSubmitHead_15 : decode prog_9_method_17_code 15 = .ok (.aload_n 0, 1) := by decide +kernel
theorem d_Ro_putSubmitHead_16 : decode prog_9_method_17_code 16 = .ok (.iconst 0, 1) := by decide +kernel
theorem d_Ro_putSubmitHead_17 : decode prog_9_method_17_code 17 = .ok (.invokevirtual 38, 3) := by decide +kernel
theorem d_Ro_putSubmitHead_20 : decode prog_9_method_17_code 20 = .ok (.aload_n 0, 1) := by decide +kernel
theorem d_Ro_putSubmitHead_21 : decode prog_9_method_17_code 21 = .ok (.iconst 0, 1) := by decide +kernel
theorem d_Ro_putSubmitHead_22 : decode prog_9_method_17_code 22 = .ok (.invokevirtual 38, 3) := by decide +kernel
theorem d_Ro_putSubmitHead_25 : decode prog_9_method_17_code 25 = .ok (.aload_n 0, 1) := by decide +kernel
theorem d_Ro_putSubmitHead_26 : decode prog_9_method_17_code 26 = .ok (.iload 5, 2) := by decide +kernel
theorem d_Ro_putSubmitHead_28 : decode prog_9_method_17_code 28 = .ok (.invokevirtual 38, 3) := by decide +kernel
theorem d_Ro_putSubmitHead_31 : decode prog_9_method_17_code 31 = .ok (.return_, 1) := by decide +kernel
theorem d_Ro_putHeader_0 : decode prog_9_method_18_code 0 = .ok (.aload_n 0, 1) := by decide +kernel
theorem d_Ro_putHeader_1 : decode prog_9_method_18_code 1 = .ok (.iconst 5, 1) := by decide +kernel
theorem d_Ro_putHeader_2 : decode prog_9_method_18_code 2 = .ok (.invokevirtual 38, 3) := by decide +kernel
theorem d_Ro_putHeader_5 : decode prog_9_method_18_code 5 = .ok (.aload_n 0, 1) := by decide +kernel
theorem d_Ro_putHeader_6 : decode prog_9_method_18_code 6 = .ok (.iconst 0, 1) := by decide +kernel
theorem d_Ro_putHeader_7 : decode prog_9_method_18_code 7 = .ok (.invokevirtual 38, 3) := by decide +kernel
theorem d_Ro_putHeader_10 : decode prog_9_method_18_code 10 = .ok (.aload_n 0, 1) := by decide +kernel
theorem d_Ro_putHeader_11 : decode prog_9_method_18_code 11 = .ok (.iconst 3, 1) := by decide +kernel
theorem d_Ro_putHeader_12 : decode prog_9_method_18_code 12 = .ok (.invokevirtual 38, 3) := by decide +kernel
theorem d_Ro_putHeader_15 : decode prog_9_method_18_code 15 = .ok (.aload_n 0, 1) := by decide +kernel
theorem d_Ro_putHeader_16 : decode prog_9_method_18_code 16 = .ok (.iload_n 1, 1) := by decide +kernel
theorem d_Ro_putHeader_17 : decode prog_9_method_18_code 17 = .ok (.invokevirtual 38, 3) := by decide +kernel
theorem d_Ro_putHeader_20 : decode prog_9_method_18_code 20 = .ok (.aload_n 0, 1) := by decide +kernel
theorem d_Ro_putHeader_21 : decode prog_9_method_18_code 21 = .ok (.iload_n 2, 1) := by decide +kernel
theorem d_Ro_putHeader_22 : decode prog_9_method_18_code 22 = .ok (.invokevirtual 38, 3) := by decide +kernel
theorem d_Ro_putHeader_25 : decode prog_9_method_18_code 25 = .ok (.aload_n 0, 1) := by decide +kernel
theorem d_Ro_putHeader_26 : decode prog_9_method_18_code 26 = .ok (.iload_n 3, 1) := by decide +kernel
theorem d_Ro_putHeader_27 : decode prog_9_method_18_code 27 = .ok (.invokevirtual 38, 3) := by decide +kernel
theorem d_Ro_putHeader_30 : decode prog_9_method_18_code 30 = .ok (.return_, 1) := by decide +kernel
theorem d_Ro_putRest_0 : decode prog_9_method_19_code 0 = .ok (.iload_n 2, 1) := by decide +kernel
theorem d_Ro_putRest_1 : decode prog_9_method_19_code 1 = .ok (.istore_n 3, 1) := by decide +kernel
theorem d_Ro_putRest_2 : decode prog_9_method_19_code 2 = .ok (.iload_n 3, 1) := by decide +kernel
theorem d_Ro_putRest_3 : decode prog_9_method_19_code 3 = .ok (.aload_n 1, 1) := by decide +kernel
theorem d_Ro_putRest_4 : decode prog_9_method_19_code 4 = .ok (.invokevirtual 54, 3) := by decide +kernel
theorem d_Ro_putRest_7 : decode prog_9_method_19_code 7 = .ok (.if_icmp .ge 18, 3) := by decide +kernel
theorem d_Ro_putRest_10 : decode prog_9_method_19_code 10 = .ok (.aload_n 0, 1) := by decide +kernel
theorem d_Ro_putRest_11 : decode prog_9_method_19_code 11 = .ok (.aload_n 1, 1) := by decide +kernel
theorem d_Ro_putRest_12 : decode prog_9_method_19_code 12 = .ok (.iload_n 3, 1) := by decide +kernel
theorem d_Ro_putRest_13 : decode prog_9_method_19_code 13 = .ok (.invokevirtual 58, 3) := by decide +kernel
theorem d_Ro_putRest_16 : decode prog_9_method_19_code 16 = .ok (.invokevirtual 38, 3) := by decide +kernel
theorem d_Ro_putRest_19 : decode prog_9_method_19_code 19 = .ok (.iinc 3 1, 3) := by decide +kernel
theorem d_Ro_putRest_22 : decode prog_9_method_19_code 22 = .ok (.goto (-20), 3) := by decide +kernel
theorem d_Ro_putRest_25 : decode prog_9_method_19_code 25 = .ok (.return_, 1) := by decide +kernel
theorem d_Ro_mergeSeptet_0 : decode prog_9_method_20_code 0 = .ok (.iload_n 1, 1) := by decide +kernel
theorem d_Ro_mergeSeptet_1 : decode prog_9_method_20_code 1 = .ok (.iload_n 2, 1) := by decide +kernel
theorem d_Ro_mergeSeptet_2 : decode prog_9_method_20_code 2 = .ok (.bipush 8, 2) := by decide +kernel
theorem d_Ro_mergeSeptet_4 : decode prog_9_method_20_code 4 = .ok (.idiv, 1) := by decide +kernel
theorem d_Ro_mergeSeptet_5 : decode prog_9_method_20_code 5 = .ok (.iadd, 1) := by decide +kernel
theorem d_Ro_mergeSeptet_6 : decode prog_9_method_20_code 6 = .ok (.istore 4, 2) := by decide +kernel
theorem d_Ro_mergeSeptet_8 : decode prog_9_method_20_code 8 = .ok (.iload_n 3, 1) := by decide +kernel
theorem d_Ro_mergeSeptet_9 : decode prog_9_method_20_code 9 = .ok (.iload_n 2, 1) := by decide +kernel
theorem d_Ro_mergeSeptet_10 : decode prog_9_method_20_code 10 = .ok (.bipush 8, 2) := by decide +kernel
theorem d_Ro_mergeSeptet_12 : decode prog_9_method_20_code 12 = .ok (.irem, 1) := by decide +kernel
theorem d_Ro_mergeSeptet_13 : decode prog_9_method_20_code 13 = .ok (.ishl, 1) := by decide +kernel
theorem d_Ro_mergeSeptet_14 : decode prog_9_method_20_code 14 = .ok (.istore 5, 2) := by decide +kernel
theorem d_Ro_mergeSeptet_16 : decode prog_9_method_20_code 16 = .ok (.aload_n 0, 1) := by decide +kernel
theorem d_Ro_mergeSeptet_17 : decode prog_9_method_20_code 17 = .ok (.iload 4, 2) := by decide +kernel
theorem d_Ro_mergeSeptet_19 : decode prog_9_method_20_code 19 = .ok (.iload 5, 2) := by decide +kernel
theorem d_Ro_mergeSeptet_21 : decode prog_9_method_20_code 21 = .ok (.sipush 255, 3) := by decide +kernel
theorem d_Ro_mergeSeptet_24 : decode prog_9_method_20_code 24 = .ok (.iand, 1) := by decide +kernel
theorem d_Ro_mergeSeptet_25 : decode prog_9_method_20_code 25 = .ok (.invokevirtual 42, 3) := by decide +kernel
theorem d_Ro_mergeSeptet_28 : decode prog_9_method_20_code 28 = .ok (.aload_n 0, 1) := by decide +kernel
theorem d_Ro_mergeSeptet_29 : decode prog_9_method_20_code 29 = .ok (.iload 4, 2) := by decide +kernel
theorem d_Ro_mergeSeptet_31 : decode prog_9_method_20_code 31 = .ok (.iconst 1, 1) := by decide +kernel
theorem d_Ro_mergeSeptet_32 : decode prog_9_method_20_code 32 = .ok (.iadd, 1) := by decide +kernel
theorem d_Ro_mergeSeptet_33 : decode prog_9_method_20_code 33 = .ok (.iload 5, 2) := by decide +kernel
theorem d_Ro_mergeSeptet_35 : decode prog_9_method_20_code 35 = .ok (.bipush 8, 2) := by decide +kernel
theorem d_Ro_mergeSeptet_37 : decode prog_9_method_20_code 37 = .ok (.ishr, 1) := by decide +kernel
theorem d_Ro_mergeSeptet_38 : decode prog_9_method_20_code 38 = .ok (.invokevirtual 42, 3) := by decide +kernel
theorem d_Ro_mergeSeptet_41 : decode prog_9_method_20_code 41 = .ok (.return_, 1) := by decide +kernel
theorem d_Ro_septetAt_0 : decode prog_9_method_21_code 0 = .ok (.iload_n 1, 1) := by decide +kernel
theorem d_Ro_septetAt_1 : decode prog_9_method_21_code 1 = .ok (.iload_n 2, 1) := by decide +kernel
theorem d_Ro_septetAt_2 : decode prog_9_method_21_code 2 = .ok (.bipush 8, 2) := by decide +kernel
theorem d_Ro_septetAt_4 : decode prog_9_method_21_code 4 = .ok (.idiv, 1) := by decide +kernel
theorem d_Ro_septetAt_5 : decode prog_9_method_21_code 5 = .ok (.iadd, 1) := by decide +kernel
theorem d_Ro_septetAt_6 : decode prog_9_method_21_code 6 = .ok (.istore_n 3, 1) := by decide +kernel
theorem d_Ro_septetAt_7 : decode prog_9_method_21_code 7 = .ok (.aload_n 0, 1) := by decide +kernel
theorem d_Ro_septetAt_8 : decode prog_9_method_21_code 8 = .ok (.iload_n 3, 1) := by decide +kernel
theorem d_Ro_septetAt_9 : decode prog_9_method_21_code 9 = .ok (.invokevirtual 30, 3) := by decide +kernel
theorem d_Ro_septetAt_12 : decode prog_9_method_21_code 12 = .ok (.ifCond .eq 12, 3) := by decide +kernel
theorem d_Ro_septetAt_15 : decode prog_9_method_21_code 15 = .ok (.aload_n 0, 1) := by decide +kernel
theorem d_Ro_septetAt_16 : decode prog_9_method_21_code 16 = .ok (.getfield 7, 3) := by decide +kernel
theorem d_Ro_septetAt_19 : decode prog_9_method_21_code 19 = .ok (.iload_n 3, 1) := by decide +kernel
theorem d_Ro_septetAt_20 : decode prog_9_method_21_code 20 = .ok (.iaload, 1) := by decide +kernel
theorem d_Ro_septetAt_21 : decode prog_9_method_21_code 21 = .ok (.goto 4, 3) := by decide +kernel
theorem d_Ro_septetAt_24 : decode prog_9_method_21_code 24 = .ok (.iconst 0, 1) := by decide +kernel
theorem d_Ro_septetAt_25 : decode prog_9_method_21_code 25 = .ok (.istore 4, 2) := by decide +kernel
theorem d_Ro_septetAt_27 : decode prog_9_method_21_code 27 = .ok (.aload_n 0, 1) := by decide +kernel
theorem d_Ro_septetAt_28 : decode prog_9_method_21_code 28 = .ok (.iload_n 3, 1) := by decide +kernel
theorem d_Ro_septetAt_29 : decode prog_9_method_21_code 29 = .ok (.iconst 1, 1) := by decide +kernel
theorem d_Ro_septetAt_30 : decode prog_9_method_21_code 30 = .ok (.iadd, 1) := by decide +kernel
theorem d_Ro_septetAt_31 : decode prog_9_method_21_code 31 = .ok (.invokevirtual 30, 3) := by decide +kernel
theorem d_Ro_septetAt_34 : decode prog_9_method_21_code 34 = .ok (.ifCond .eq 14, 3) := by decide +kernel
theorem d_Ro_septetAt_37 : decode prog_9_method_21_code 37 = .ok (.aload_n 0, 1) := by decide +kernel
theorem d_Ro_septetAt_38 : decode prog_9_method_21_code 38 = .ok (.getfield 7, 3) := by decide +kernel
theorem d_Ro_septetAt_41 : decode prog_9_method_21_code 41 = .ok (.iload_n 3, 1) := by decide +kernel
theorem d_Ro_septetAt_42 : decode prog_9_method_21_code 42 = .ok (.iconst 1, 1) := by decide +kernel
theorem d_Ro_septetAt_43 : decode prog_9_method_21_code 43 = .ok (.iadd, 1) := by decide +kernel
theorem d_Ro_septetAt_44 : decode prog_9_method_21_code 44 = .ok (.iaload, 1) := by decide +kernel
theorem d_Ro_septetAt_45 : decode prog_9_method_21_code 45 = .ok (.goto 4, 3) := by decide +kernel
theorem d_Ro_septetAt_48 : decode prog_9_method_21_code 48 = .ok (.iconst 0, 1) := by decide +kernel
theorem d_Ro_septetAt_49 : decode prog_9_method_21_code 49 = .ok (.istore 5, 2) := by decide +kernel
theorem d_Ro_septetAt_51 : decode prog_9_method_21_code 51 = .ok (.iload 5, 2) := by decide +kernel
theorem d_Ro_septetAt_53 : decode prog_9_method_21_code 53 = .ok (.bipush 8, 2) := by decide +kernel
theorem d_Ro_septetAt_55 : decode prog_9_method_21_code 55 = .ok (.ishl, 1) := by decide +kernel
theorem d_Ro_septetAt_56 : decode prog_9_method_21_code 56 = .ok (.iload 4, 2) := by decide +kernel
theorem d_Ro_septetAt_58 : decode prog_9_method_21_code 58 = .ok (.ior, 1) := by decide +kernel
theorem d_Ro_septetAt_59 : decode prog_9_method_21_code 59 = .ok (.iload_n 2, 1) := by decide +kernel
theorem d_Ro_septetAt_60 : decode prog_9_method_21_code 60 = .ok (.bipush 8, 2) := by decide +kernel
theorem d_Ro_septetAt_62 : decode prog_9_method_21_code 62 = .ok (.irem, 1) := by decide +kernel
theorem d_Ro_septetAt_63 : decode prog_9_method_21_code 63 = .ok (.ishr, 1) := by decide +kernel
theorem d_Ro_septetAt_64 : decode prog_9_method_21_code 64 = .ok (.bipush 127, 2) := by decide +kernel
theorem d_Ro_septetAt_66 : decode prog_9_method_21_code 66 = .ok (.iand, 1) := by decide +kernel
theorem d_Ro_septetAt_67 : decode prog_9_method_21_code 67 = .ok (.ireturn, 1) := by decide +kernel
theorem d_Ro_digitAt_0 : decode prog_9_method_22_code 0 = .ok (.aload_n 0, 1) := by decide +kernel
theorem d_Ro_digitAt_1 : decode prog_9_method_22_code 1 = .ok (.iload_n 1, 1) := by decide +kernel
theorem d_Ro_digitAt_2 : decode prog_9_method_22_code 2 = .ok (.iload_n 2, 1) := by decide +kernel
theorem d_Ro_digitAt_3 : decode prog_9_method_22_code 3 = .ok (.iconst 2, 1) := by decide +kernel
theorem d_Ro_digitAt_4 : decode prog_9_method_22_code 4 = .ok (.idiv, 1) := by decide +kernel
theorem d_Ro_digitAt_5 : decode prog_9_method_22_code 5 = .ok (.iadd, 1) := by decide +kernel
theorem d_Ro_digitAt_6 : decode prog_9_method_22_code 6 = .ok (.invokevirtual 58, 3) := by decide +kernel
theorem d_Ro_digitAt_9 : decode prog_9_method_22_code 9 = .ok (.istore_n 3, 1) := by decide +kernel
theorem d_Ro_digitAt_10 : decode prog_9_method_22_code 10 = .ok (.iload_n 3, 1) := by decide +kernel
theorem d_Ro_digitAt_11 : decode prog_9_method_22_code 11 = .ok (.ifCond .ge 5, 3) := by decide +kernel
theorem d_Ro_digitAt_14 : decode prog_9_method_22_code 14 = .ok (.iconst (-1), 1) := by decide +kernel
theorem d_Ro_digitAt_15 : decode prog_9_method_22_code 15 = .ok (.ireturn, 1) := by decide +kernel
theorem d_Ro_digitAt_16 : decode prog_9_method_22_code 16 = .ok (.iload_n 2, 1) := by decide +kernel
theorem d_Ro_digitAt_17 : decode prog_9_method_22_code 17 = .ok (.iconst 2, 1) := by decide +kernel
theorem d_Ro_digitAt_18 : decode prog_9_method_22_code 18 = .ok (.irem, 1) := by decide +kernel
theorem d_Ro_digitAt_19 : decode prog_9_method_22_code 19 = .ok (.ifCond .ne 10, 3) := by decide +kernel
theorem d_Ro_digitAt_22 : decode prog_9_method_22_code 22 = .ok (.iload_n 3, 1) := by decide +kernel
theorem d_Ro_digitAt_23 : decode prog_9_method_22_code 23 = .ok (.bipush 15, 2) := by decide +kernel
theorem d_Ro_digitAt_25 : decode prog_9_method_22_code 25 = .ok (.iand, 1) := by decide +kernel
theorem d_Ro_digitAt_26 : decode prog_9_method_22_code 26 = .ok (.goto 6, 3) := by decide +kernel
theorem d_Ro_digitAt_29 : decode prog_9_method_22_code 29 = .ok (.iload_n 3, 1) := by decide +kernel
theorem d_Ro_digitAt_30 : decode prog_9_method_22_code 30 = .ok (.iconst 4, 1) := by decide +kernel
theorem d_Ro_digitAt_31 : decode prog_9_method_22_code 31 = .ok (.ishr, 1) := by decide +kernel
theorem d_Ro_digitAt_32 : decode prog_9_method_22_code 32 = .ok (.ireturn, 1) := by decide +kernel
theorem d_Ro_numberAt_0 : decode prog_9_method_23_code 0 = .ok (.lconst 0, 1) := by decide +kernel
theorem d_Ro_numberAt_1 : decode prog_9_method_23_code 1 = .ok (.lstore_n 2, 1) := by decide +kernel
theorem d_Ro_numberAt_2 : decode prog_9_method_23_code 2 = .ok (.aload_n 0, 1) := by decide +kernel
theorem d_Ro_numberAt_3 : decode prog_9_method_23_code 3 = .ok (.iload_n 1, 1) := by decide +kernel
theorem d_Ro_numberAt_4 : decode prog_9_method_23_code 4 = .ok (.invokevirtual 58, 3) := by decide +kernel
theorem d_Ro_numberAt_7 : decode prog_9_method_23_code 7 = .ok (.istore 4, 2) := by decide +kernel
theorem d_Ro_numberAt_9 : decode prog_9_method_23_code 9 = .ok (.iconst 0, 1) := by decide +kernel
theorem d_Ro_numberAt_10 : decode prog_9_method_23_code 10 = .ok (.istore 5, 2) := by decide +kernel
theorem d_Ro_numberAt_12 : decode prog_9_method_23_code 12 = .ok (.iload 5, 2) := by decide +kernel
theorem d_Ro_numberAt_14 : decode prog_9_method_23_code 14 = .ok (.iload 4, 2) := by decide +kernel
theorem d_Ro_numberAt_16 : decode prog_9_method_23_code 16 = .ok (.if_icmp .ge 26, 3) := by decide +kernel
theorem d_Ro_numberAt_19 : decode prog_9_method_23_code 19 = .ok (.ldc2_w 17, 3) := by decide +kernel
theorem d_Ro_numberAt_22 : decode prog_9_method_23_code 22 = .ok (.lload_n 2, 1) := by decide +kernel
theorem d_Ro_numberAt_23 : decode prog_9_method_23_code 23 = .ok (.lmul, 1) := by decide +kernel
theorem d_Ro_numberAt_24 : decode prog_9_method_23_code 24 = .ok (.aload_n 0, 1) := by decide +kernel
theorem d_Ro_numberAt_25 : decode prog_9_method_23_code 25 = .ok (.iload_n 1, 1) := by decide +kernel
theorem d_Ro_numberAt_26 : decode prog_9_method_23_code 26 = .ok (.iconst 2, 1) := by decide +kernel
theorem d_Ro_numberAt_27 : decode prog_9_method_23_code 27 = .ok (.iadd, 1) := by decide +kernel
theorem d_Ro_numberAt_28 : decode prog_9_method_23_code 28 = .ok (.iload 5, 2) := by decide +kernel
theorem d_Ro_numberAt_30 : decode prog_9_method_23_code 30 = .ok (.invokevirtual 61, 3) := by decide +kernel
theorem d_Ro_numberAt_33 : decode prog_9_method_23_code 33 = .ok (.i2l, 1) := by decide +kernel
theorem d_Ro_numberAt_34 : decode prog_9_method_23_code 34 = .ok (.ladd, 1) := by decide +kernel
theorem d_Ro_numberAt_35 : decode prog_9_method_23_code 35 = .ok (.lstore_n 2, 1) := by decide +kernel
theorem d_Ro_numberAt_36 : decode prog_9_method_23_code 36 = .ok (.iinc 5 1, 3) := by decide +kernel
theorem d_Ro_numberAt_39 : decode prog_9_method_23_code 39 = .ok (.goto (-27), 3) := by decide +kernel
theorem d_Ro_numberAt_42 : decode prog_9_method_23_code 42 = .ok (.lload_n 2, 1) := by decide +kernel
theorem d_Ro_numberAt_43 : decode prog_9_method_23_code 43 = .ok (.lreturn, 1) := by decide +kernel