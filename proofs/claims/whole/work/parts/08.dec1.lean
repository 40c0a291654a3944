theorem d_SC_init_0 : decode prog_1_method_1_code 0 = .ok (.aload_n 0, 1) := by decide +kernel
theorem d_SC_init_1 : decode prog_1_method_1_code 1 = .ok (.invokespecial 1, 3) := by decide +kernel
theorem d_SC_init_4 : decode prog_1_method_1_code 4 = .ok (.aload_n 0, 1) := by decide +kernel
theorem d_SC_init_5 : decode prog_1_method_1_code 5 = .ok (.iconst 4, 1) := by decide +kernel
theorem d_SC_init_6 : decode prog_1_method_1_code 6 = .ok (.anewarray 9, 3) := by decide +kernel
theorem d_SC_init_9 : decode prog_1_method_1_code 9 = .ok (.putfield 11, 3) := by decide +kernel
theorem d_SC_init_12 : decode prog_1_method_1_code 12 = .ok (.aload_n 0, 1) := by decide +kernel
theorem d_SC_init_13 : decode prog_1_method_1_code 13 = .ok (.new 15, 3) := by decide +kernel
theorem d_SC_init_16 : decode prog_1_method_1_code 16 = .ok (.dup, 1) := by decide +kernel
theorem d_SC_init_17 : decode prog_1_method_1_code 17 = .ok (.bipush 8, 2) := by decide +kernel
theorem d_SC_init_19 : decode prog_1_method_1_code 19 = .ok (.invokespecial 17, 3) := by decide +kernel
theorem d_SC_init_22 : decode prog_1_method_1_code 22 = .ok (.putfield 20, 3) := by decide +kernel
theorem d_SC_init_25 : decode prog_1_method_1_code 25 = .ok (.aload_n 0, 1) := by decide +kernel
theorem d_SC_init_26 : decode prog_1_method_1_code 26 = .ok (.new 24, 3) := by decide +kernel
theorem d_SC_init_29 : decode prog_1_method_1_code 29 = .ok (.dup, 1) := by decide +kernel
theorem d_SC_init_30 : decode prog_1_method_1_code 30 = .ok (.invokespecial 26, 3) := by decide +kernel
theorem d_SC_init_33 : decode prog_1_method_1_code 33 = .ok (.putfield 27, 3) := by decide +kernel
theorem d_SC_init_36 : decode prog_1_method_1_code 36 = .ok (.aload_n 0, 1) := by decide +kernel
theorem d_SC_init_37 : decode prog_1_method_1_code 37 = .ok (.new 31, 3) := by decide +kernel
theorem d_SC_init_40 : decode prog_1_method_1_code 40 = .ok (.dup, 1) := by decide +kernel
theorem d_SC_init_41 : decode prog_1_method_1_code 41 = .ok (.invokespecial 33, 3) := by decide +kernel
theorem d_SC_init_44 : decode prog_1_method_1_code 44 = .ok (.putfield 34, 3) := by decide +kernel
theorem d_SC_init_47 : decode prog_1_method_1_code 47 = .ok (.aload_n 0, 1) := by decide +kernel
theorem d_SC_init_48 : decode prog_1_method_1_code 48 = .ok (.new 31, 3) := by decide +kernel
theorem d_SC_init_51 : decode prog_1_method_1_code 51 = .ok (.dup, 1) := by decide +kernel
theorem d_SC_init_52 : decode prog_1_method_1_code 52 = .ok (.invokespecial 33, 3) := by decide +kernel
theorem d_SC_init_55 : decode prog_1_method_1_code 55 = .ok (.putfield 38, 3) := by decide +kernel
theorem d_SC_init_58 : decode prog_1_method_1_code 58 = .ok (.iconst 0, 1) := by decide +kernel
theorem d_SC_init_59 : decode prog_1_method_1_code 59 = .ok (.istore_n 1, 1) := by decide +kernel
theorem d_SC_init_60 : decode prog_1_method_1_code 60 = .ok (.iload_n 1, 1) := by decide +kernel
theorem d_SC_init_61 : decode prog_1_method_1_code 61 = .ok (.iconst 4, 1) := by decide +kernel
theorem d_SC_init_62 : decode prog_1_method_1_code 62 = .ok (.if_icmp .ge 22, 3) := by decide +kernel
theorem d_SC_init_65 : decode prog_1_method_1_code 65 = .ok (.aload_n 0, 1) := by decide +kernel
theorem d_SC_init_66 : decode prog_1_method_1_code 66 = .ok (.getfield 11, 3) := by decide +kernel
theorem d_SC_init_69 : decode prog_1_method_1_code 69 = .ok (.iload_n 1, 1) := by decide +kernel
theorem d_SC_init_70 : decode prog_1_method_1_code 70 = .ok (.new 9, 3) := by decide +kernel
theorem d_SC_init_73 : decode prog_1_method_1_code 73 = .ok (.dup, 1) := by decide +kernel
theorem d_SC_init_74 : decode prog_1_method_1_code 74 = .ok (.invokespecial 41, 3) := by decide +kernel
theorem d_SC_init_77 : decode prog_1_method_1_code 77 = .ok (.aastore, 1) := by decide +kernel
theorem d_SC_init_78 : decode prog_1_method_1_code 78 = .ok (.iinc 1 1, 3) := by decide +kernel
theorem d_SC_init_81 : decode prog_1_method_1_code 81 = .ok (.goto (-21), 3) := by decide +kernel
theorem d_SC_init_84 : decode prog_1_method_1_code 84 = .ok (.return_, 1) := by decide +kernel
theorem d_SC_register_0 : decode prog_1_method_2_code 0 = .ok (.aload_n 0, 1) := by decide +kernel
theorem d_SC_register_1 : decode prog_1_method_2_code 1 = .ok (.iload_n 1, 1) := by decide +kernel
theorem d_SC_register_2 : decode prog_1_method_2_code 2 = .ok (.invokevirtual 42, 3) := by decide +kernel
theorem d_SC_register_5 : decode prog_1_method_2_code 5 = .ok (.astore 4, 2) := by decide +kernel
theorem d_SC_register_7 : decode prog_1_method_2_code 7 = .ok (.aload 4, 2) := by decide +kernel
theorem d_SC_register_9 : decode prog_1_method_2_code 9 = .ok (.ifnull 10, 3) := by decide +kernel
theorem d_SC_register_12 : decode prog_1_method_2_code 12 = .ok (.lload_n 2, 1) := by decide +kernel
theorem d_SC_register_13 : decode prog_1_method_2_code 13 = .ok (.invokestatic 46, 3) := by decide +kernel
theorem d_SC_register_16 : decode prog_1_method_2_code 16 = .ok (.ifCond .ne 5, 3) := by decide +kernel
theorem d_SC_register_19 : decode prog_1_method_2_code 19 = .ok (.iconst 0, 1) := by decide +kernel
theorem d_SC_register_20 : decode prog_1_method_2_code 20 = .ok (.ireturn, 1) := by decide +kernel
theorem d_SC_register_21 : decode prog_1_method_2_code 21 = .ok (.aload 4, 2) := by decide +kernel
theorem d_SC_register_23 : decode prog_1_method_2_code 23 = .ok (.lload_n 2, 1) := by decide +kernel
theorem d_SC_register_24 : decode prog_1_method_2_code 24 = .ok (.putfield 50, 3) := by decide +kernel
theorem d_SC_register_27 : decode prog_1_method_2_code 27 = .ok (.iconst 1, 1) := by decide +kernel
theorem d_SC_register_28 : decode prog_1_method_2_code 28 = .ok (.ireturn, 1) := by decide +kernel
theorem d_SC_power_0 : decode prog_1_method_3_code 0 = .ok (.aload_n 0, 1) := by decide +kernel
theorem d_SC_power_1 : decode prog_1_method_3_code 1 = .ok (.iload_n 1, 1) := by decide +kernel
theorem d_SC_power_2 : decode prog_1_method_3_code 2 = .ok (.invokevirtual 42, 3) := by decide +kernel
theorem d_SC_power_5 : decode prog_1_method_3_code 5 = .ok (.astore_n 3, 1) := by decide +kernel
theorem d_SC_power_6 : decode prog_1_method_3_code 6 = .ok (.aload_n 3, 1) := by decide +kernel
theorem d_SC_power_7 : decode prog_1_method_3_code 7 = .ok (.ifnonnull 5, 3) := by decide +kernel
theorem d_SC_power_10 : decode prog_1_method_3_code 10 = .ok (.iconst 0, 1) := by decide +kernel
theorem d_SC_power_11 : decode prog_1_method_3_code 11 = .ok (.ireturn, 1) := by decide +kernel
theorem d_SC_power_12 : decode prog_1_method_3_code 12 = .ok (.aload_n 3, 1) := by decide +kernel
theorem d_SC_power_13 : decode prog_1_method_3_code 13 = .ok (.iload_n 2, 1) := by decide +kernel
theorem d_SC_power_14 : decode prog_1_method_3_code 14 = .ok (.putfield 54, 3) := by decide +kernel
theorem d_SC_power_17 : decode prog_1_method_3_code 17 = .ok (.iconst 1, 1) := by decide +kernel
theorem d_SC_power_18 : decode prog_1_method_3_code 18 = .ok (.ireturn, 1) := by decide +kernel
theorem d_SC_type_0 : decode prog_1_method_4_code 0 = .ok (.iload_n 2, 1) := by decide +kernel
theorem d_SC_type_1 : decode prog_1_method_4_code 1 = .ok (.iconst 1, 1) := by decide +kernel
theorem d_SC_type_2 : decode prog_1_method_4_code 2 = .ok (.if_icmp .lt 21, 3) := by decide +kernel
theorem d_SC_type_5 : decode prog_1_method_4_code 5 = .ok (.iload_n 2, 1) := by decide +kernel
theorem d_SC_type_6 : decode prog_1_method_4_code 6 = .ok (.sipush 160, 3) := by decide +kernel
theorem d_SC_type_9 : decode prog_1_method_4_code 9 = .ok (.if_icmp .gt 14, 3) := by decide +kernel
theorem d_SC_type_12 : decode prog_1_method_4_code 12 = .ok (.iload_n 2, 1) := by decide +kernel
theorem d_SC_type_13 : decode prog_1_method_4_code 13 = .ok (.aload_n 0, 1) := by decide +kernel
theorem d_SC_type_14 : decode prog_1_method_4_code 14 = .ok (.getfield 27, 3) := by decide +kernel
theorem d_SC_type_17 : decode prog_1_method_4_code 17 = .ok (.invokevirtual 58, 3) := by decide +kernel
theorem d_SC_type_20 : decode prog_1_method_4_code 20 = .ok (.if_icmp .le 5, 3) := by decide +kernel
theorem d_SC_type_23 : decode prog_1_method_4_code 23 = .ok (.iconst 0, 1) := by decide +kernel
theorem d_SC_type_24 : decode prog_1_method_4_code 24 = .ok (.ireturn, 1) := by decide +kernel
theorem d_SC_type_25 : decode prog_1_method_4_code 25 = .ok (.aload_n 0, 1) := by decide +kernel
theorem d_SC_type_26 : decode prog_1_method_4_code 26 = .ok (.getfield 27, 3) := by decide +kernel
theorem d_SC_type_29 : decode prog_1_method_4_code 29 = .ok (.iload_n 1, 1) := by decide +kernel
theorem d_SC_type_30 : decode prog_1_method_4_code 30 = .ok (.invokestatic 62, 3) := by decide +kernel
theorem d_SC_type_33 : decode prog_1_method_4_code 33 = .ok (.iload_n 2, 1) := by decide +kernel
theorem d_SC_type_34 : decode prog_1_method_4_code 34 = .ok (.invokevirtual 68, 3) := by decide +kernel
theorem d_SC_type_37 : decode prog_1_method_4_code 37 = .ok (.iconst 1, 1) := by decide +kernel
theorem d_SC_type_38 : decode prog_1_method_4_code 38 = .ok (.ireturn, 1) := by decide +kernel
theorem d_SC_wipe_0 : decode prog_1_method_5_code 0 = .ok (.aload_n 0, 1) := by decide +kernel
theorem d_SC_wipe_1 : decode prog_1_method_5_code 1 = .ok (.getfield 27, 3) := by decide +kernel
theorem d_SC_wipe_4 : decode prog_1_method_5_code 4 = .ok (.iconst 0, 1) := by decide +kernel
theorem d_SC_wipe_5 : decode prog_1_method_5_code 5 = .ok (.putfield 72, 3) := by decide +kernel
theorem d_SC_wipe_8 : decode prog_1_method_5_code 8 = .ok (.return_, 1) := by decide +kernel
theorem d_SC_send_0 : decode prog_1_method_6_code 0 = .ok (.aload_n 0, 1) := by decide +kernel
theorem d_SC_send_1 : decode prog_1_method_6_code 1 = .ok (.iload_n 1, 1) := by decide +kernel
theorem d_SC_send_2 : decode prog_1_method_6_code 2 = .ok (.invokevirtual 42, 3) := by decide +kernel
theorem d_SC_send_5 : decode prog_1_method_6_code 5 = .ok (.astore 6, 2) := by decide +kernel
theorem d_SC_send_7 : decode prog_1_method_6_code 7 = .ok (.aload 6, 2) := by decide +kernel
theorem d_SC_send_9 : decode prog_1_method_6_code 9 = .ok (.ifnull 33, 3) := by decide +kernel
theorem d_SC_send_12 : decode prog_1_method_6_code 12 = .ok (.lload_n 2, 1) := by decide +kernel
theorem d_SC_send_13 : decode prog_1_method_6_code 13 = .ok (.invokestatic 46, 3) := by decide +kernel
theorem d_SC_send_16 : decode prog_1_method_6_code 16 = .ok (.ifCond .eq 26, 3) := by decide +kernel
theorem d_SC_send_19 : decode prog_1_method_6_code 19 = .ok (.iload 4, 2) := by decide +kernel
theorem d_SC_send_21 : decode prog_1_method_6_code 21 = .ok (.ifCond .lt 21, 3) := by decide +kernel
theorem d_SC_send_24 : decode prog_1_method_6_code 24 = .ok (.iload 4, 2) := by decide +kernel
theorem d_SC_send_26 : decode prog_1_method_6_code 26 = .ok (.sipush 143, 3) := by decide +kernel
theorem d_SC_send_29 : decode prog_1_method_6_code 29 = .ok (.if_icmp .gt 13, 3) := by decide +kernel
theorem d_SC_send_32 : decode prog_1_method_6_code 32 = .ok (.aload 6, 2) := by decide +kernel
theorem d_SC_send_34 : decode prog_1_method_6_code 34 = .ok (.getfield 50, 3) := by decide +kernel
theorem d_SC_send_37 : decode prog_1_method_6_code 37 = .ok (.lconst 0, 1) := by decide +kernel
theorem d_SC_send_38 : decode prog_1_method_6_code 38 = .ok (.lcmp, 1) := by decide +kernel
theorem d_SC_send_39 : decode prog_1_method_6_code 39 = .ok (.ifCond .ne 5, 3) := by decide +kernel
theorem d_SC_send_42 : decode prog_1_method_6_code 42 = .ok (.iconst (-1), 1) := by decide +kernel
theorem d_SC_send_43 : decode prog_1_method_6_code 43 = .ok (.ireturn, 1) := by decide +kernel
theorem d_SC_send_44 : decode prog_1_method_6_code 44 = .ok (.aload_n 0, 1) := by decide +kernel
theorem d_SC_send_45 : decode prog_1_method_6_code 45 = .ok (.getfield 27, 3) := by decide +kernel
theorem d_SC_send_48 : decode prog_1_method_6_code 48 = .ok (.invokevirtual 76, 3) := by decide +kernel
theorem d_SC_send_51 : decode prog_1_method_6_code 51 = .ok (.ifCond .eq 6, 3) := by decide +kernel
theorem d_SC_send_54 : decode prog_1_method_6_code 54 = .ok (.bipush (-4), 2) := by decide +kernel
theorem d_SC_send_56 : decode prog_1_method_6_code 56 = .ok (.ireturn, 1) := by decide +kernel
theorem d_SC_send_57 : decode prog_1_method_6_code 57 = .ok (.aload_n 0, 1) := by decide +kernel
theorem d_SC_send_58 : decode prog_1_method_6_code 58 = .ok (.getfield 27, 3) := by decide +kernel
theorem d_SC_send_61 : decode prog_1_method_6_code 61 = .ok (.invokevirtual 80, 3) := by decide +kernel
theorem d_SC_send_64 : decode prog_1_method_6_code 64 = .ok (.istore 7, 2) := by decide +kernel
theorem d_SC_send_66 : decode prog_1_method_6_code 66 = .ok (.iload 7, 2) := by decide +kernel
theorem d_SC_send_68 : decode prog_1_method_6_code 68 = .ok (.iconst 3, 1) := by decide +kernel
theorem d_SC_send_69 : decode prog_1_method_6_code 69 = .ok (.if_icmp .le 6, 3) := by decide +kernel
theorem d_SC_send_72 : decode prog_1_method_6_code 72 = .ok (.bipush (-5), 2) := by decide +kernel
theorem d_SC_send_74 : decode prog_1_method_6_code 74 = .ok (.ireturn, 1) := by decide +kernel
theorem d_SC_send_75 : decode prog_1_method_6_code 75 = .ok (.iload 7, 2) := by decide +kernel
theorem d_SC_send_77 : decode prog_1_method_6_code 77 = .ok (.aload_n 0, 1) := by decide +kernel
theorem d_SC_send_78 : decode prog_1_method_6_code 78 = .ok (.getfield 20, 3) := by decide +kernel
theorem d_SC_send_81 : decode prog_1_method_6_code 81 = .ok (.invokevirtual 83, 3) := by decide +kernel
theorem d_SC_send_84 : decode prog_1_method_6_code 84 = .ok (.if_icmp .le 6, 3) := by decide +kernel
theorem d_SC_send_87 : decode prog_1_method_6_code 87 = .ok (.bipush (-3), 2) := by decide +kernel
theorem d_SC_send_89 : decode prog_1_method_6_code 89 = .ok (.ireturn, 1) := by decide +kernel
theorem d_SC_send_90 : decode prog_1_method_6_code 90 = .ok (.bipush 17, 2) := by decide +kernel
theorem d_SC_send_92 : decode prog_1_method_6_code 92 = .ok (.iload 5, 2) := by decide +kernel
theorem d_SC_send_94 : decode prog_1_method_6_code 94 = .ok (.ifCond .eq 8, 3) := by decide +kernel
theorem d_SC_send_97 : decode prog_1_method_6_code 97 = .ok (.bipush 32, 2) := by decide +kernel
theorem d_SC_send_99 : decode prog_1_method_6_code 99 = .ok (.goto 4, 3) := by decide +kernel
theorem d_SC_send_102 : decode prog_1_method_6_code 102 = .ok (.iconst 0, 1) := by decide +kernel
theorem d_SC_send_103 : decode prog_1_method_6_code 103 = .ok (.iadd, 1) := by decide +kernel
theorem d_SC_send_104 : decode prog_1_method_6_code 104 = .ok (.iload 7, 2) := by decide +kernel
theorem d_SC_send_106 : decode prog_1_method_6_code 106 = .ok (.iconst 1, 1) := by decide +kernel
theorem d_SC_send_107 : decode prog_1_method_6_code 107 = .ok (.if_icmp .le 8, 3) := by decide +kernel
theorem d_SC_send_110 : decode prog_1_method_6_code 110 = .ok (.bipush 64, 2) := by decide +kernel
theorem d_SC_send_112 : decode prog_1_method_6_code 112 = .ok (.goto 4, 3) := by decide +kernel
theorem d_SC_send_115 : decode prog_1_method_6_code 115 = .ok (.iconst 0, 1) := by decide +kernel
theorem d_SC_send_116 : decode prog_1_method_6_code 116 = .ok (.iadd, 1) := by decide +kernel
theorem d_SC_send_117 : decode prog_1_method_6_code 117 = .ok (.istore 8, 2) := by decide +kernel
theorem d_SC_send_119 : decode prog_1_method_6_code 119 = .ok (.aload_n 0, 1) := by decide +kernel
theorem d_SC_send_120 : decode prog_1_method_6_code 120 = .ok (.aload 6, 2) := by decide +kernel
theorem d_SC_send_122 : decode prog_1_method_6_code 122 = .ok (.lload_n 2, 1) := by decide +kernel
theorem d_SC_send_123 : decode prog_1_method_6_code 123 = .ok (.iload 4, 2) := by decide +kernel
theorem d_SC_send_125 : decode prog_1_method_6_code 125 = .ok (.iload 8, 2) := by decide +kernel
theorem d_SC_send_127 : decode prog_1_method_6_code 127 = .ok (.iload 7, 2) := by decide +kernel
theorem d_SC_send_129 : decode prog_1_method_6_code 129 = .ok (.invokevirtual 86, 3) := by decide +kernel
theorem d_SC_send_132 : decode prog_1_method_6_code 132 = .ok (.iload 7, 2) := by decide +kernel
theorem d_SC_send_134 : decode prog_1_method_6_code 134 = .ok (.ireturn, 1) := by decide +kernel
theorem d_SC_alter_0 : decode prog_1_method_7_code 0 = .ok (.aload_n 0, 1) := by decide +kernel
theorem d_SC_alter_1 : decode prog_1_method_7_code 1 = .ok (.getfield 20, 3) := by decide +kernel
theorem d_SC_alter_4 : decode prog_1_method_7_code 4 = .ok (.invokevirtual 90, 3) := by decide +kernel
theorem d_SC_alter_7 : decode prog_1_method_7_code 7 = .ok (.astore_n 3, 1) := by decide +kernel
theorem d_SC_alter_8 : decode prog_1_method_7_code 8 = .ok (.aload_n 3, 1) := by decide +kernel
theorem d_SC_alter_9 : decode prog_1_method_7_code 9 = .ok (.ifnull 23, 3) := by decide +kernel
theorem d_SC_alter_12 : decode prog_1_method_7_code 12 = .ok (.aload_n 3, 1) := by decide +kernel
theorem d_SC_alter_13 : decode prog_1_method_7_code 13 = .ok (.iload_n 1, 1) := by decide +kernel
theorem d_SC_alter_14 : decode prog_1_method_7_code 14 = .ok (.invokevirtual 94, 3) := by decide +kernel
theorem d_SC_alter_17 : decode prog_1_method_7_code 17 = .ok (.ifCond .eq 15, 3) := by decide +kernel
theorem d_SC_alter_20 : decode prog_1_method_7_code 20 = .ok (.iload_n 2, 1) := by decide +kernel
theorem d_SC_alter_21 : decode prog_1_method_7_code 21 = .ok (.iconst 1, 1) := by decide +kernel
theorem d_SC_alter_22 : decode prog_1_method_7_code 22 = .ok (.if_icmp .lt 10, 3) := by decide +kernel
theorem d_SC_alter_25 : decode prog_1_method_7_code 25 = .ok (.iload_n 2, 1) := by decide +kernel
theorem d_SC_alter_26 : decode prog_1_method_7_code 26 = .ok (.sipush 255, 3) := by decide +kernel
theorem d_SC_alter_29 : decode prog_1_method_7_code 29 = .ok (.if_icmp .le 5, 3) := by decide +kernel
theorem d_SC_alter_32 : decode prog_1_method_7_code 32 = .ok (.iconst 0, 1) := by decide +kernel
theorem d_SC_alter_33 : decode prog_1_method_7_code 33 = .ok (.ireturn, 1) := by decide +kernel
theorem d_SC_alter_34 : decode prog_1_method_7_code 34 = .ok (.aload_n 3, 1) := by decide +kernel
theorem d_SC_alter_35 : decode prog_1_method_7_code 35 = .ok (.iload_n 1, 1) := by decide +kernel
theorem d_SC_alter_36 : decode prog_1_method_7_code 36 = .ok (.iload_n 2, 1) := by decide +kernel
theorem d_SC_alter_37 : decode prog_1_method_7_code 37 = .ok (.invokevirtual 98, 3) := by decide +kernel
theorem d_SC_alter_40 : decode prog_1_method_7_code 40 = .ok (.iconst 1, 1) := by decide +kernel
theorem d_SC_alter_41 : decode prog_1_method_7_code 41 = .ok (.ireturn, 1) := by decide +kernel
theorem d_SC_receive_0 : decode prog_1_method_8_code 0 = .ok (.aload_n 0, 1) := by decide +kernel
theorem d_SC_receive_1 : decode prog_1_method_8_code 1 = .ok (.getfield 20, 3) := by decide +kernel
theorem d_SC_receive_4 : decode prog_1_method_8_code 4 = .ok (.invokevirtual 90, 3) := by decide +kernel
theorem d_SC_receive_7 : decode prog_1_method_8_code 7 = .ok (.astore_n 1, 1) := by decide +kernel
theorem d_SC_receive_8 : decode prog_1_method_8_code 8 = .ok (.aload_n 1, 1) := by decide +kernel
theorem d_SC_receive_9 : decode prog_1_method_8_code 9 = .ok (.ifnonnull 6, 3) := by decide +kernel
theorem d_SC_receive_12 : decode prog_1_method_8_code 12 = .ok (.bipush (-2), 2) := by decide +kernel
theorem d_SC_receive_14 : decode prog_1_method_8_code 14 = .ok (.ireturn, 1) := by decide +kernel
theorem d_SC_receive_15 : decode prog_1_method_8_code 15 = .ok (.aload_n 0, 1) := by decide +kernel
theorem d_SC_receive_16 : decode prog_1_method_8_code 16 = .ok (.getfield 38, 3) := by decide +kernel
theorem d_SC_receive_19 : decode prog_1_method_8_code 19 = .ok (.invokevirtual 101, 3) := by decide +kernel
theorem d_SC_receive_22 : decode prog_1_method_8_code 22 = .ok (.bipush 12, 2) := by decide +kernel
theorem d_SC_receive_24 : decode prog_1_method_8_code 24 = .ok (.if_icmp .ge 15, 3) := by decide +kernel
theorem d_SC_receive_27 : decode prog_1_method_8_code 27 = .ok (.aload_n 0, 1) := by decide +kernel
theorem d_SC_receive_28 : decode prog_1_method_8_code 28 = .ok (.getfield 34, 3) := by decide +kernel
theorem d_SC_receive_31 : decode prog_1_method_8_code 31 = .ok (.invokevirtual 101, 3) := by decide +kernel
theorem d_SC_receive_34 : decode prog_1_method_8_code 34 = .ok (.bipush 100, 2) := by decide +kernel
theorem d_SC_receive_36 : decode prog_1_method_8_code 36 = .ok (.if_icmp .lt 6, 3) := by decide +kernel
theorem d_SC_receive_39 : decode prog_1_method_8_code 39 = .ok (.bipush (-3), 2) := by decide +kernel
theorem d_SC_receive_41 : decode prog_1_method_8_code 41 = .ok (.ireturn, 1) := by decide +kernel
theorem d_SC_receive_42 : decode prog_1_method_8_code 42 = .ok (.aload_n 0, 1) := by decide +kernel
theorem d_SC_receive_43 : decode prog_1_method_8_code 43 = .ok (.getfield 20, 3) := by decide +kernel
theorem d_SC_receive_46 : decode prog_1_method_8_code 46 = .ok (.invokevirtual 104, 3) := by decide +kernel
theorem d_SC_receive_49 : decode prog_1_method_8_code 49 = .ok (.pop, 1) := by decide +kernel
theorem d_SC_receive_50 : decode prog_1_method_8_code 50 = .ok (.aload_n 1, 1) := by decide +kernel
theorem d_SC_receive_51 : decode prog_1_method_8_code 51 = .ok (.getfield 107, 3) := by decide +kernel
theorem d_SC_receive_54 : decode prog_1_method_8_code 54 = .ok (.astore_n 2, 1) := by decide +kernel
theorem d_SC_receive_55 : decode prog_1_method_8_code 55 = .ok (.aload_n 2, 1) := by decide +kernel
theorem d_SC_receive_56 : decode prog_1_method_8_code 56 = .ok (.ifnull 10, 3) := by decide +kernel
theorem d_SC_receive_59 : decode prog_1_method_8_code 59 = .ok (.aload_n 1, 1) := by decide +kernel
theorem d_SC_receive_60 : decode prog_1_method_8_code 60 = .ok (.invokestatic 111, 3) := by decide +kernel
theorem d_SC_receive_63 : decode prog_1_method_8_code 63 = .ok (.ifCond .ne 6, 3) := by decide +kernel
theorem d_SC_receive_66 : decode prog_1_method_8_code 66 = .ok (.bipush (-6), 2) := by decide +kernel
theorem d_SC_receive_68 : decode prog_1_method_8_code 68 = .ok (.ireturn, 1) := by decide +kernel
theorem d_SC_receive_69 : decode prog_1_method_8_code 69 = .ok (.new 117, 3) := by decide +kernel
theorem d_SC_receive_72 : decode prog_1_method_8_code 72 = .ok (.dup, 1) := by decide +kernel
theorem d_SC_receive_73 : decode prog_1_method_8_code 73 = .ok (.aload_n 1, 1) := by decide +kernel
theorem d_SC_receive_74 : decode prog_1_method_8_code 74 = .ok (.aload_n 2, 1) := by decide +kernel
theorem d_SC_receive_75 : decode prog_1_method_8_code 75 = .ok (.aload_n 0, 1) := by decide +kernel
theorem d_SC_receive_76 : decode prog_1_method_8_code 76 = .ok (.getfield 119, 3) := by decide +kernel
theorem d_SC_receive_79 : decode prog_1_method_8_code 79 = .ok (.invokespecial 122, 3) := by decide +kernel
theorem d_SC_receive_82 : decode prog_1_method_8_code 82 = .ok (.astore_n 3, 1) := by decide +kernel
theorem d_SC_receive_83 : decode prog_1_method_8_code 83 = .ok (.aload_n 0, 1) := by decide +kernel
theorem d_SC_receive_84 : decode prog_1_method_8_code 84 = .ok (.getfield 34, 3) := by decide +kernel
theorem d_SC_receive_87 : decode prog_1_method_8_code 87 = .ok (.aload_n 3, 1) := by decide +kernel
theorem d_SC_receive_88 : decode prog_1_method_8_code 88 = .ok (.invokevirtual 125, 3) := by decide +kernel
theorem d_SC_receive_91 : decode prog_1_method_8_code 91 = .ok (.pop, 1) := by decide +kernel
theorem d_SC_receive_92 : decode prog_1_method_8_code 92 = .ok (.aload_n 0, 1) := by decide +kernel
theorem d_SC_receive_93 : decode prog_1_method_8_code 93 = .ok (.getfield 38, 3) := by decide +kernel
theorem d_SC_receive_96 : decode prog_1_method_8_code 96 = .ok (.aload_n 3, 1) := by decide +kernel
theorem d_SC_receive_97 : decode prog_1_method_8_code 97 = .ok (.invokevirtual 125, 3) := by decide +kernel
theorem d_SC_receive_100 : decode prog_1_method_8_code 100 = .ok (.pop, 1) := by decide +kernel
theorem d_SC_receive_101 : decode prog_1_method_8_code 101 = .ok (.aload_n 0, 1) := by decide +kernel
theorem d_SC_receive_102 : decode prog_1_method_8_code 102 = .ok (.getfield 34, 3) := by decide +kernel
theorem d_SC_receive_105 : decode prog_1_method_8_code 105 = .ok (.invokevirtual 101, 3) := by decide +kernel
theorem d_SC_receive_108 : decode prog_1_method_8_code 108 = .ok (.iconst 1, 1) := by decide +kernel
theorem d_SC_receive_109 : decode prog_1_method_8_code 109 = .ok (.isub, 1) := by decide +kernel
theorem d_SC_receive_110 : decode prog_1_method_8_code 110 = .ok (.ireturn, 1) := by decide +kernel
theorem d_SC_advance_0 : decode prog_1_method_9_code 0 = .ok (.iload_n 1, 1) := by decide +kernel
theorem d_SC_advance_1 : decode prog_1_method_9_code 1 = .ok (.ifCond .lt 9, 3) := by decide +kernel
theorem d_SC_advance_4 : decode prog_1_method_9_code 4 = .ok (.iload_n 1, 1) := by decide +kernel
theorem d_SC_advance_5 : decode prog_1_method_9_code 5 = .ok (.ldc 129, 2) := by decide +kernel
theorem d_SC_advance_7 : decode prog_1_method_9_code 7 = .ok (.if_icmp .le 5, 3) := by decide +kernel
theorem d_SC_advance_10 : decode prog_1_method_9_code 10 = .ok (.iconst (-1), 1) := by decide +kernel
theorem d_SC_advance_11 : decode prog_1_method_9_code 11 = .ok (.ireturn, 1) := by decide +kernel
theorem d_SC_advance_12 : decode prog_1_method_9_code 12 = .ok (.aload_n 0, 1) := by decide +kernel
theorem d_SC_advance_13 : decode prog_1_method_9_code 13 = .ok (.getfield 119, 3) := by decide +kernel
theorem d_SC_advance_16 : decode prog_1_method_9_code 16 = .ok (.iload_n 1, 1) := by decide +kernel
theorem d_SC_advance_17 : decode prog_1_method_9_code 17 = .ok (.iadd, 1) := by decide +kernel
theorem d_SC_advance_18 : decode prog_1_method_9_code 18 = .ok (.istore_n 2, 1) := by decide +kernel
theorem d_SC_advance_19 : decode prog_1_method_9_code 19 = .ok (.iconst 0, 1) := by decide +kernel
theorem d_SC_advance_20 : decode prog_1_method_9_code 20 = .ok (.istore_n 3, 1) := by decide +kernel
theorem d_SC_advance_21 : decode prog_1_method_9_code 21 = .ok (.iconst 0, 1) := by decide +kernel
theorem d_SC_advance_22 : decode prog_1_method_9_code 22 = .ok (.istore 4, 2) := by decide +kernel
theorem d_SC_advance_24 : decode prog_1_method_9_code 24 = .ok (.iload 4, 2) := by decide +kernel
theorem d_SC_advance_26 : decode prog_1_method_9_code 26 = .ok (.ldc 130, 2) := by decide +kernel
theorem d_SC_advance_28 : decode prog_1_method_9_code 28 = .ok (.if_icmp .ge 102, 3) := by decide +kernel
theorem d_SC_advance_31 : decode prog_1_method_9_code 31 = .ok (.aload_n 0, 1) := by decide +kernel
theorem d_SC_advance_32 : decode prog_1_method_9_code 32 = .ok (.invokevirtual 131, 3) := by decide +kernel
theorem d_SC_advance_35 : decode prog_1_method_9_code 35 = .ok (.istore 5, 2) := by decide +kernel
theorem d_SC_advance_37 : decode prog_1_method_9_code 37 = .ok (.iload 5, 2) := by decide +kernel
theorem d_SC_advance_39 : decode prog_1_method_9_code 39 = .ok (.ifCond .lt 91, 3) := by decide +kernel
theorem d_SC_advance_42 : decode prog_1_method_9_code 42 = .ok (.aload_n 0, 1) := by decide +kernel
theorem d_SC_advance_43 : decode prog_1_method_9_code 43 = .ok (.getfield 38, 3) := by decide +kernel
theorem d_SC_advance_46 : decode prog_1_method_9_code 46 = .ok (.iload 5, 2) := by decide +kernel
theorem d_SC_advance_48 : decode prog_1_method_9_code 48 = .ok (.invokevirtual 134, 3) := by decide +kernel
theorem d_SC_advance_51 : decode prog_1_method_9_code 51 = .ok (.checkcast 117, 3) := by decide +kernel
theorem d_SC_advance_54 : decode prog_1_method_9_code 54 = .ok (.invokevirtual 138, 3) := by decide +kernel
theorem d_SC_advance_57 : decode prog_1_method_9_code 57 = .ok (.iload_n 2, 1) := by decide +kernel
theorem d_SC_advance_58 : decode prog_1_method_9_code 58 = .ok (.if_icmp .le 6, 3) := by decide +kernel
theorem d_SC_advance_61 : decode prog_1_method_9_code 61 = .ok (.goto 69, 3) := by decide +kernel
theorem d_SC_advance_64 : decode prog_1_method_9_code 64 = .ok (.aload_n 0, 1) := by decide +kernel
theorem d_SC_advance_65 : decode prog_1_method_9_code 65 = .ok (.getfield 38, 3) := by decide +kernel
theorem d_SC_advance_68 : decode prog_1_method_9_code 68 = .ok (.iload 5, 2) := by decide +kernel
theorem d_SC_advance_70 : decode prog_1_method_9_code 70 = .ok (.invokevirtual 134, 3) := by decide +kernel
theorem d_SC_advance_73 : decode prog_1_method_9_code 73 = .ok (.checkcast 117, 3) := by decide +kernel
theorem d_SC_advance_76 : decode prog_1_method_9_code 76 = .ok (.astore 6, 2) := by decide +kernel
theorem d_SC_advance_78 : decode prog_1_method_9_code 78 = .ok (.aload 6, 2) := by decide +kernel
theorem d_SC_advance_80 : decode prog_1_method_9_code 80 = .ok (.invokevirtual 138, 3) := by decide +kernel
theorem d_SC_advance_83 : decode prog_1_method_9_code 83 = .ok (.istore 7, 2) := by decide +kernel
theorem d_SC_advance_85 : decode prog_1_method_9_code 85 = .ok (.aload_n 0, 1) := by decide +kernel
theorem d_SC_advance_86 : decode prog_1_method_9_code 86 = .ok (.aload 6, 2) := by decide +kernel
theorem d_SC_advance_88 : decode prog_1_method_9_code 88 = .ok (.iload 7, 2) := by decide +kernel
theorem d_SC_advance_90 : decode prog_1_method_9_code 90 = .ok (.invokevirtual 141, 3) := by decide +kernel
theorem d_SC_advance_93 : decode prog_1_method_9_code 93 = .ok (.aload 6, 2) := by decide +kernel
theorem d_SC_advance_95 : decode prog_1_method_9_code 95 = .ok (.getfield 145, 3) := by decide +kernel
theorem d_SC_advance_98 : decode prog_1_method_9_code 98 = .ok (.getstatic 149, 3) := by decide +kernel
theorem d_SC_advance_101 : decode prog_1_method_9_code 101 = .ok (.if_acmp .eq 23, 3) := by decide +kernel
theorem d_SC_advance_104 : decode prog_1_method_9_code 104 = .ok (.aload_n 0, 1) := by decide +kernel
theorem d_SC_advance_105 : decode prog_1_method_9_code 105 = .ok (.getfield 38, 3) := by decide +kernel
theorem d_SC_advance_108 : decode prog_1_method_9_code 108 = .ok (.iload 5, 2) := by decide +kernel
theorem d_SC_advance_110 : decode prog_1_method_9_code 110 = .ok (.invokevirtual 154, 3) := by decide +kernel
theorem d_SC_advance_113 : decode prog_1_method_9_code 113 = .ok (.pop, 1) := by decide +kernel
theorem d_SC_advance_114 : decode prog_1_method_9_code 114 = .ok (.aload 6, 2) := by decide +kernel
theorem d_SC_advance_116 : decode prog_1_method_9_code 116 = .ok (.iload 7, 2) := by decide +kernel
theorem d_SC_advance_118 : decode prog_1_method_9_code 118 = .ok (.invokevirtual 157, 3) := by decide +kernel
theorem d_SC_advance_121 : decode prog_1_method_9_code 121 = .ok (.iinc 3 1, 3) := by decide +kernel
theorem d_SC_advance_124 : decode prog_1_method_9_code 124 = .ok (.iinc 4 1, 3) := by decide +kernel
theorem d_SC_advance_127 : decode prog_1_method_9_code 127 = .ok (.goto (-103), 3) := by decide +kernel
theorem d_SC_advance_130 : decode prog_1_method_9_code 130 = .ok (.aload_n 0, 1) := by decide +kernel
theorem d_SC_advance_131 : decode prog_1_method_9_code 131 = .ok (.iload_n 2, 1) := by decide +kernel
theorem d_SC_advance_132 : decode prog_1_method_9_code 132 = .ok (.putfield 119, 3) := by decide +kernel
theorem d_SC_advance_135 : decode prog_1_method_9_code 135 = .ok (.iload_n 3, 1) := by decide +kernel
theorem d_SC_advance_136 : decode prog_1_method_9_code 136 = .ok (.ireturn, 1) := by decide +kernel
theorem d_SC_take_0 : decode prog_1_method_10_code 0 = .ok (.aload_n 0, 1) := by decide +kernel
theorem d_SC_take_1 : decode prog_1_method_10_code 1 = .ok (.iload_n 1, 1) := by decide +kernel
theorem d_SC_take_2 : decode prog_1_method_10_code 2 = .ok (.invokevirtual 42, 3) := by decide +kernel
theorem d_SC_take_5 : decode prog_1_method_10_code 5 = .ok (.astore_n 2, 1) := by decide +kernel
theorem d_SC_take_6 : decode prog_1_method_10_code 6 = .ok (.aload_n 2, 1) := by decide +kernel
theorem d_SC_take_7 : decode prog_1_method_10_code 7 = .ok (.ifnonnull 5, 3) := by decide +kernel
theorem d_SC_take_10 : decode prog_1_method_10_code 10 = .ok (.iconst (-1), 1) := by decide +kernel
theorem d_SC_take_11 : decode prog_1_method_10_code 11 = .ok (.ireturn, 1) := by decide +kernel
theorem d_SC_take_12 : decode prog_1_method_10_code 12 = .ok (.aload_n 2, 1) := by decide +kernel
theorem d_SC_take_13 : decode prog_1_method_10_code 13 = .ok (.getfield 160, 3) := by decide +kernel
theorem d_SC_take_16 : decode prog_1_method_10_code 16 = .ok (.invokevirtual 104, 3) := by decide +kernel
theorem d_SC_take_19 : decode prog_1_method_10_code 19 = .ok (.astore_n 3, 1) := by decide +kernel
theorem d_SC_take_20 : decode prog_1_method_10_code 20 = .ok (.aload_n 3, 1) := by decide +kernel
theorem d_SC_take_21 : decode prog_1_method_10_code 21 = .ok (.ifnonnull 8, 3) := by decide +kernel
theorem d_SC_take_24 : decode prog_1_method_10_code 24 = .ok (.bipush (-100), 2) := by decide +kernel
theorem d_SC_take_26 : decode prog_1_method_10_code 26 = .ok (.goto 8, 3) := by decide +kernel
theorem d_SC_take_29 : decode prog_1_method_10_code 29 = .ok (.aload_n 2, 1) := by decide +kernel
theorem d_SC_take_30 : decode prog_1_method_10_code 30 = .ok (.aload_n 3, 1) := by decide +kernel
theorem d_SC_take_31 : decode prog_1_method_10_code 31 = .ok (.invokevirtual 163, 3) := by decide +kernel
theorem d_SC_take_34 : decode prog_1_method_10_code 34 = .ok (.ireturn, 1) := by decide +kernel
theorem d_SC_copy_0 : decode prog_1_method_11_code 0 = .ok (.aload_n 0, 1) := by decide +kernel
theorem d_SC_copy_1 : decode prog_1_method_11_code 1 = .ok (.iload_n 1, 1) := by decide +kernel
theorem d_SC_copy_2 : decode prog_1_method_11_code 2 = .ok (.invokevirtual 42, 3) := by decide +kernel
theorem d_SC_copy_5 : decode prog_1_method_11_code 5 = .ok (.astore_n 2, 1) := by decide +kernel
theorem d_SC_copy_6 : decode prog_1_method_11_code 6 = .ok (.aload_n 2, 1) := by decide +kernel
theorem d_SC_copy_7 : decode prog_1_method_11_code 7 = .ok (.ifnonnull 5, 3) := by decide +kernel
theorem d_SC_copy_10 : decode prog_1_method_11_code 10 = .ok (.iconst 0, 1) := by decide +kernel
theorem d_SC_copy_11 : decode prog_1_method_11_code 11 = .ok (.ireturn, 1) := by decide +kernel
theorem d_SC_copy_12 : decode prog_1_method_11_code 12 = .ok (.aload_n 2, 1) := by decide +kernel
theorem d_SC_copy_13 : decode prog_1_method_11_code 13 = .ok (.getfield 160, 3) := by decide +kernel
theorem d_SC_copy_16 : decode prog_1_method_11_code 16 = .ok (.invokevirtual 90, 3) := by decide +kernel
theorem d_SC_copy_19 : decode prog_1_method_11_code 19 = .ok (.astore_n 3, 1) := by decide +kernel
theorem d_SC_copy_20 : decode prog_1_method_11_code 20 = .ok (.aload_n 3, 1) := by decide +kernel
theorem d_SC_copy_21 : decode prog_1_method_11_code 21 = .ok (.ifnull 13, 3) := by decide +kernel
theorem d_SC_copy_24 : decode prog_1_method_11_code 24 = .ok (.aload_n 2, 1) := by decide +kernel
theorem d_SC_copy_25 : decode prog_1_method_11_code 25 = .ok (.getfield 160, 3) := by decide +kernel
theorem d_SC_copy_28 : decode prog_1_method_11_code 28 = .ok (.invokevirtual 83, 3) := by decide +kernel
theorem d_SC_copy_31 : decode prog_1_method_11_code 31 = .ok (.ifCond .ne 5, 3) := by decide +kernel
theorem d_SC_copy_34 : decode prog_1_method_11_code 34 = .ok (.iconst 0, 1) := by decide +kernel
theorem d_SC_copy_35 : decode prog_1_method_11_code 35 = .ok (.ireturn, 1) := by decide +kernel
theorem d_SC_copy_36 : decode prog_1_method_11_code 36 = .ok (.aload_n 2, 1) := by decide +kernel
theorem d_SC_copy_37 : decode prog_1_method_11_code 37 = .ok (.getfield 160, 3) := by decide +kernel
theorem d_SC_copy_40 : decode prog_1_method_11_code 40 = .ok (.aload_n 3, 1) := by decide +kernel
theorem d_SC_copy_41 : decode prog_1_method_11_code 41 = .ok (.invokevirtual 167, 3) := by decide +kernel
theorem d_SC_copy_44 : decode prog_1_method_11_code 44 = .ok (.iconst 1, 1) := by decide +kernel
theorem d_SC_copy_45 : decode prog_1_method_11_code 45 = .ok (.ireturn, 1) := by decide +kernel
theorem d_SC_swap_0 : decode prog_1_method_12_code 0 = .ok (.aload_n 0, 1) := by decide +kernel
theorem d_SC_swap_1 : decode prog_1_method_12_code 1 = .ok (.iload_n 1, 1) := by decide +kernel
theorem d_SC_swap_2 : decode prog_1_method_12_code 2 = .ok (.invokevirtual 42, 3) := by decide +kernel
theorem d_SC_swap_5 : decode prog_1_method_12_code 5 = .ok (.astore_n 2, 1) := by decide +kernel
theorem d_SC_swap_6 : decode prog_1_method_12_code 6 = .ok (.aload_n 2, 1) := by decide +kernel
theorem d_SC_swap_7 : decode prog_1_method_12_code 7 = .ok (.ifnull 17, 3) := by decide +kernel
theorem d_SC_swap_10 : decode prog_1_method_12_code 10 = .ok (.aload_n 2, 1) := by decide +kernel
theorem d_SC_swap_11 : decode prog_1_method_12_code 11 = .ok (.getfield 160, 3) := by decide +kernel
theorem d_SC_swap_14 : decode prog_1_method_12_code 14 = .ok (.invokevirtual 170, 3) := by decide +kernel
theorem d_SC_swap_17 : decode prog_1_method_12_code 17 = .ok (.ifCond .eq 7, 3) := by decide +kernel
theorem d_SC_swap_20 : decode prog_1_method_12_code 20 = .ok (.iconst 1, 1) := by decide +kernel
theorem d_SC_swap_21 : decode prog_1_method_12_code 21 = .ok (.goto 4, 3) := by decide +kernel
theorem d_SC_swap_24 : decode prog_1_method_12_code 24 = .ok (.iconst 0, 1) := by decide +kernel
theorem d_SC_swap_25 : decode prog_1_method_12_code 25 = .ok (.ireturn, 1) := by decide +kernel
theorem d_SC_report_0 : decode prog_1_method_13_code 0 = .ok (.aload_n 0, 1) := by decide +kernel
theorem d_SC_report_1 : decode prog_1_method_13_code 1 = .ok (.iload_n 1, 1) := by decide +kernel
theorem d_SC_report_2 : decode prog_1_method_13_code 2 = .ok (.invokevirtual 42, 3) := by decide +kernel
theorem d_SC_report_5 : decode prog_1_method_13_code 5 = .ok (.astore_n 2, 1) := by decide +kernel
theorem d_SC_report_6 : decode prog_1_method_13_code 6 = .ok (.aload_n 2, 1) := by decide +kernel
theorem d_SC_report_7 : decode prog_1_method_13_code 7 = .ok (.ifnonnull 5, 3) := by decide +kernel
theorem d_SC_report_10 : decode prog_1_method_13_code 10 = .ok (.iconst (-1), 1) := by decide +kernel
theorem d_SC_report_11 : decode prog_1_method_13_code 11 = .ok (.ireturn, 1) := by decide +kernel
theorem d_SC_report_12 : decode prog_1_method_13_code 12 = .ok (.aload_n 2, 1) := by decide +kernel
theorem d_SC_report_13 : decode prog_1_method_13_code 13 = .ok (.getfield 173, 3) := by decide +kernel
theorem d_SC_report_16 : decode prog_1_method_13_code 16 = .ok (.invokevirtual 104, 3) := by decide +kernel
theorem d_SC_report_19 : decode prog_1_method_13_code 19 = .ok (.astore_n 3, 1) := by decide +kernel
theorem d_SC_report_20 : decode prog_1_method_13_code 20 = .ok (.aload_n 3, 1) := by decide +kernel
theorem d_SC_report_21 : decode prog_1_method_13_code 21 = .ok (.ifnonnull 8, 3) := by decide +kernel
theorem d_SC_report_24 : decode prog_1_method_13_code 24 = .ok (.bipush (-2), 2) := by decide +kernel
theorem d_SC_report_26 : decode prog_1_method_13_code 26 = .ok (.goto 23, 3) := by decide +kernel
theorem d_SC_report_29 : decode prog_1_method_13_code 29 = .ok (.sipush 256, 3) := by decide +kernel
theorem d_SC_report_32 : decode prog_1_method_13_code 32 = .ok (.aload_n 3, 1) := by decide +kernel
theorem d_SC_report_33 : decode prog_1_method_13_code 33 = .ok (.aload_n 3, 1) := by decide +kernel
theorem d_SC_report_34 : decode prog_1_method_13_code 34 = .ok (.invokevirtual 176, 3) := by decide +kernel
theorem d_SC_report_37 : decode prog_1_method_13_code 37 = .ok (.iconst 1, 1) := by decide +kernel
theorem d_SC_report_38 : decode prog_1_method_13_code 38 = .ok (.isub, 1) := by decide +kernel
theorem d_SC_report_39 : decode prog_1_method_13_code 39 = .ok (.invokevirtual 177, 3) := by decide +kernel
theorem d_SC_report_42 : decode prog_1_method_13_code 42 = .ok (.imul, 1) := by decide +kernel
theorem d_SC_report_43 : decode prog_1_method_13_code 43 = .ok (.aload_n 3, 1) := by decide +kernel
theorem d_SC_report_44 : decode prog_1_method_13_code 44 = .ok (.iconst 1, 1) := by decide +kernel
theorem d_SC_report_45 : decode prog_1_method_13_code 45 = .ok (.invokevirtual 177, 3) := by decide +kernel
theorem d_SC_report_48 : decode prog_1_method_13_code 48 = .ok (.iadd, 1) := by decide +kernel
theorem d_SC_report_49 : decode prog_1_method_13_code 49 = .ok (.ireturn, 1) := by decide +kernel
theorem d_SC_waiting_0 : decode prog_1_method_14_code 0 = .ok (.aload_n 0, 1) := by decide +kernel
theorem d_SC_waiting_1 : decode prog_1_method_14_code 1 = .ok (.iload_n 1, 1) := by decide +kernel
theorem d_SC_waiting_2 : decode prog_1_method_14_code 2 = .ok (.invokevirtual 181, 3) := by decide +kernel
theorem d_SC_waiting_5 : decode prog_1_method_14_code 5 = .ok (.astore_n 2, 1) := by decide +kernel
theorem d_SC_waiting_6 : decode prog_1_method_14_code 6 = .ok (.aload_n 2, 1) := by decide +kernel
theorem d_SC_waiting_7 : decode prog_1_method_14_code 7 = .ok (.ifnonnull 7, 3) := by decide +kernel
theorem d_SC_waiting_10 : decode prog_1_method_14_code 10 = .ok (.iconst (-1), 1) := by decide +kernel
theorem d_SC_waiting_11 : decode prog_1_method_14_code 11 = .ok (.goto 7, 3) := by decide +kernel
theorem d_SC_waiting_14 : decode prog_1_method_14_code 14 = .ok (.aload_n 2, 1) := by decide +kernel
theorem d_SC_waiting_15 : decode prog_1_method_14_code 15 = .ok (.invokevirtual 185, 3) := by decide +kernel
theorem d_SC_waiting_18 : decode prog_1_method_14_code 18 = .ok (.ireturn, 1) := by decide +kernel
theorem d_SC_byteAt_0 : decode prog_1_method_15_code 0 = .ok (.aload_n 0, 1) := by decide +kernel
theorem d_SC_byteAt_1 : decode prog_1_method_15_code 1 = .ok (.iload_n 1, 1) := by decide +kernel
theorem d_SC_byteAt_2 : decode prog_1_method_15_code 2 = .ok (.invokevirtual 181, 3) := by decide +kernel
theorem d_SC_byteAt_5 : decode prog_1_method_15_code 5 = .ok (.astore_n 3, 1) := by decide +kernel
theorem d_SC_byteAt_6 : decode prog_1_method_15_code 6 = .ok (.aload_n 3, 1) := by decide +kernel
theorem d_SC_byteAt_7 : decode prog_1_method_15_code 7 = .ok (.ifnonnull 6, 3) := by decide +kernel
theorem d_SC_byteAt_10 : decode prog_1_method_15_code 10 = .ok (.bipush (-2), 2) := by decide +kernel
theorem d_SC_byteAt_12 : decode prog_1_method_15_code 12 = .ok (.ireturn, 1) := by decide +kernel
theorem d_SC_byteAt_13 : decode prog_1_method_15_code 13 = .ok (.aload_n 3, 1) := by decide +kernel
theorem d_SC_byteAt_14 : decode prog_1_method_15_code 14 = .ok (.invokevirtual 90, 3) := by decide +kernel
theorem d_SC_byteAt_17 : decode prog_1_method_15_code 17 = .ok (.astore 4, 2) := by decide +kernel
theorem d_SC_byteAt_19 : decode prog_1_method_15_code 19 = .ok (.aload 4, 2) := by decide +kernel
theorem d_SC_byteAt_21 : decode prog_1_method_15_code 21 = .ok (.ifnull 12, 3) := by decide +kernel
theorem d_SC_byteAt_24 : decode prog_1_method_15_code 24 = .ok (.aload 4, 2) := by decide +kernel
theorem d_SC_byteAt_26 : decode prog_1_method_15_code 26 = .ok (.iload_n 2, 1) := by decide +kernel
theorem d_SC_byteAt_27 : decode prog_1_method_15_code 27 = .ok (.invokevirtual 94, 3) := by decide +kernel
theorem d_SC_byteAt_30 : decode prog_1_method_15_code 30 = .ok (.ifCond .ne 8, 3) := by decide +kernel
theorem d_SC_byteAt_33 : decode prog_1_method_15_code 33 = .ok (.bipush (-2), 2) := by decide +kernel
theorem d_SC_byteAt_35 : decode prog_1_method_15_code 35 = .ok (.goto 9, 3) := by decide +kernel
theorem d_SC_byteAt_38 : decode prog_1_method_15_code 38 = .ok (.aload 4, 2) := by decide +kernel
theorem d_SC_byteAt_40 : decode prog_1_method_15_code 40 = .ok (.iload_n 2, 1) := by decide +kernel
theorem d_SC_byteAt_41 : decode prog_1_method_15_code 41 = .ok (.invokevirtual 177, 3) := by decide +kernel
theorem d_SC_byteAt_44 : decode prog_1_method_15_code 44 = .ok (.ireturn, 1) := by decide +kernel
theorem d_SC_text_0 : decode prog_1_method_16_code 0 = .ok (.aload_n 0, 1) := by decide +kernel
theorem d_SC_text_1 : decode prog_1_method_16_code 1 = .ok (.iload_n 1, 1) := by decide +kernel
theorem d_SC_text_2 : decode prog_1_method_16_code 2 = .ok (.invokevirtual 42, 3) := by decide +kernel
theorem d_SC_text_5 : decode prog_1_method_16_code 5 = .ok (.astore_n 3, 1) := by decide +kernel
theorem d_SC_text_6 : decode prog_1_method_16_code 6 = .ok (.aload_n 3, 1) := by decide +kernel
theorem d_SC_text_7 : decode prog_1_method_16_code 7 = .ok (.ifnull 15, 3) := by decide +kernel
theorem d_SC_text_10 : decode prog_1_method_16_code 10 = .ok (.iload_n 2, 1) := by decide +kernel
theorem d_SC_text_11 : decode prog_1_method_16_code 11 = .ok (.ifCond .lt 11, 3) := by decide +kernel
theorem d_SC_text_14 : decode prog_1_method_16_code 14 = .ok (.iload_n 2, 1) := by decide +kernel
theorem d_SC_text_15 : decode prog_1_method_16_code 15 = .ok (.aload_n 3, 1) := by decide +kernel
theorem d_SC_text_16 : decode prog_1_method_16_code 16 = .ok (.getfield 186, 3) := by decide +kernel
theorem d_SC_text_19 : decode prog_1_method_16_code 19 = .ok (.if_icmp .lt 8, 3) := by decide +kernel
theorem d_SC_text_22 : decode prog_1_method_16_code 22 = .ok (.bipush (-2), 2) := by decide +kernel
theorem d_SC_text_24 : decode prog_1_method_16_code 24 = .ok (.goto 9, 3) := by decide +kernel
theorem d_SC_text_27 : decode prog_1_method_16_code 27 = .ok (.aload_n 3, 1) := by decide +kernel
theorem d_SC_text_28 : decode prog_1_method_16_code 28 = .ok (.getfield 189, 3) := by decide +kernel
theorem d_SC_text_31 : decode prog_1_method_16_code 31 = .ok (.iload_n 2, 1) := by decide +kernel
theorem d_SC_text_32 : decode prog_1_method_16_code 32 = .ok (.iaload, 1) := by decide +kernel
theorem d_SC_text_33 : decode prog_1_method_16_code 33 = .ok (.ireturn, 1) := by decide +kernel
theorem d_SC_sender_0 : decode prog_1_method_17_code 0 = .ok (.aload_n 0, 1) := by decide +kernel
theorem d_SC_sender_1 : decode prog_1_method_17_code 1 = .ok (.iload_n 1, 1) := by decide +kernel
theorem d_SC_sender_2 : decode prog_1_method_17_code 2 = .ok (.invokevirtual 42, 3) := by decide +kernel
theorem d_SC_sender_5 : decode prog_1_method_17_code 5 = .ok (.astore_n 2, 1) := by decide +kernel
theorem d_SC_sender_6 : decode prog_1_method_17_code 6 = .ok (.aload_n 2, 1) := by decide +kernel
theorem d_SC_sender_7 : decode prog_1_method_17_code 7 = .ok (.ifnonnull 7, 3) := by decide +kernel
theorem d_SC_sender_10 : decode prog_1_method_17_code 10 = .ok (.lconst 0, 1) := by decide +kernel
theorem d_SC_sender_11 : decode prog_1_method_17_code 11 = .ok (.goto 7, 3) := by decide +kernel
theorem d_SC_sender_14 : decode prog_1_method_17_code 14 = .ok (.aload_n 2, 1) := by decide +kernel
theorem d_SC_sender_15 : decode prog_1_method_17_code 15 = .ok (.getfield 193, 3) := by decide +kernel
theorem d_SC_sender_18 : decode prog_1_method_17_code 18 = .ok (.lreturn, 1) := by decide +kernel
theorem d_SC_state_0 : decode prog_1_method_18_code 0 = .ok (.iload_n 1, 1) := by decide +kernel
theorem d_SC_state_1 : decode prog_1_method_18_code 1 = .ok (.ifCond .lt 14, 3) := by decide +kernel
theorem d_SC_state_4 : decode prog_1_method_18_code 4 = .ok (.iload_n 1, 1) := by decide +kernel
theorem d_SC_state_5 : decode prog_1_method_18_code 5 = .ok (.aload_n 0, 1) := by decide +kernel
theorem d_SC_state_6 : decode prog_1_method_18_code 6 = .ok (.getfield 34, 3) := by decide +kernel
theorem d_SC_state_9 : decode prog_1_method_18_code 9 = .ok (.invokevirtual 101, 3) := by decide +kernel
theorem d_SC_state_12 : decode prog_1_method_18_code 12 = .ok (.if_icmp .lt 8, 3) := by decide +kernel
theorem d_SC_state_15 : decode prog_1_method_18_code 15 = .ok (.bipush (-2), 2) := by decide +kernel
theorem d_SC_state_17 : decode prog_1_method_18_code 17 = .ok (.goto 20, 3) := by decide +kernel
theorem d_SC_state_20 : decode prog_1_method_18_code 20 = .ok (.aload_n 0, 1) := by decide +kernel
theorem d_SC_state_21 : decode prog_1_method_18_code 21 = .ok (.getfield 34, 3) := by decide +kernel
theorem d_SC_state_24 : decode prog_1_method_18_code 24 = .ok (.iload_n 1, 1) := by decide +kernel
theorem d_SC_state_25 : decode prog_1_method_18_code 25 = .ok (.invokevirtual 134, 3) := by decide +kernel
theorem d_SC_state_28 : decode prog_1_method_18_code 28 = .ok (.checkcast 117, 3) := by decide +kernel
theorem d_SC_state_31 : decode prog_1_method_18_code 31 = .ok (.getfield 145, 3) := by decide +kernel
theorem d_SC_state_34 : decode prog_1_method_18_code 34 = .ok (.getfield 196, 3) := by decide +kernel
theorem d_SC_state_37 : decode prog_1_method_18_code 37 = .ok (.ireturn, 1) := by decide +kernel
theorem d_SC_offers_0 : decode prog_1_method_19_code 0 = .ok (.iload_n 1, 1) := by decide +kernel
theorem d_SC_offers_1 : decode prog_1_method_19_code 1 = .ok (.ifCond .lt 14, 3) := by decide +kernel
theorem d_SC_offers_4 : decode prog_1_method_19_code 4 = .ok (.iload_n 1, 1) := by decide +kernel
theorem d_SC_offers_5 : decode prog_1_method_19_code 5 = .ok (.aload_n 0, 1) := by decide +kernel
theorem d_SC_offers_6 : decode prog_1_method_19_code 6 = .ok (.getfield 34, 3) := by decide +kernel
theorem d_SC_offers_9 : decode prog_1_method_19_code 9 = .ok (.invokevirtual 101, 3) := by decide +kernel
theorem d_SC_offers_12 : decode prog_1_method_19_code 12 = .ok (.if_icmp .lt 8, 3) := by decide +kernel
theorem d_SC_offers_15 : decode prog_1_method_19_code 15 = .ok (.bipush (-2), 2) := by decide +kernel
theorem d_SC_offers_17 : decode prog_1_method_19_code 17 = .ok (.goto 17, 3) := by decide +kernel
theorem d_SC_offers_20 : decode prog_1_method_19_code 20 = .ok (.aload_n 0, 1) := by decide +kernel
theorem d_SC_offers_21 : decode prog_1_method_19_code 21 = .ok (.getfield 34, 3) := by decide +kernel
theorem d_SC_offers_24 : decode prog_1_method_19_code 24 = .ok (.iload_n 1, 1) := by decide +kernel
theorem d_SC_offers_25 : decode prog_1_method_19_code 25 = .ok (.invokevirtual 134, 3) := by decide +kernel
theorem d_SC_offers_28 : decode prog_1_method_19_code 28 = .ok (.checkcast 117, 3) := by decide +kernel
theorem d_SC_offers_31 : decode prog_1_method_19_code 31 = .ok (.getfield 199, 3) := by decide +kernel
theorem d_SC_offers_34 : decode prog_1_method_19_code 34 = .ok (.ireturn, 1) := by decide +kernel
theorem d_SC_time_0 : decode prog_1_method_20_code 0 = .ok (.aload_n 0, 1) := by decide +kernel
theorem d_SC_time_1 : decode prog_1_method_20_code 1 = .ok (.getfield 119, 3) := by decide +kernel
theorem d_SC_time_4 : decode prog_1_method_20_code 4 = .ok (.ireturn, 1) := by decide +kernel
theorem d_SC_isNumber_0 : decode prog_1_method_21_code 0 = .ok (.lload_n 0, 1) := by decide +kernel
theorem d_SC_isNumber_1 : decode prog_1_method_21_code 1 = .ok (.lconst 1, 1) := by decide +kernel
theorem d_SC_isNumber_2 : decode prog_1_method_21_code 2 = .ok (.lcmp, 1) := by decide +kernel
theorem d_SC_isNumber_3 : decode prog_1_method_21_code 3 = .ok (.ifCond .lt 15, 3) := by decide +kernel
theorem d_SC_isNumber_6 : decode prog_1_method_21_code 6 = .ok (.lload_n 0, 1) := by decide +kernel
theorem d_SC_isNumber_7 : decode prog_1_method_21_code 7 = .ok (.ldc2_w 202, 3) := by decide +kernel
theorem d_SC_isNumber_10 : decode prog_1_method_21_code 10 = .ok (.lcmp, 1) := by decide +kernel
theorem d_SC_isNumber_11 : decode prog_1_method_21_code 11 = .ok (.ifCond .gt 7, 3) := by decide +kernel
theorem d_SC_isNumber_14 : decode prog_1_method_21_code 14 = .ok (.iconst 1, 1) := by decide +kernel
theorem d_SC_isNumber_15 : decode prog_1_method_21_code 15 = .ok (.goto 4, 3) := by decide +kernel
theorem d_SC_isNumber_18 : decode prog_1_method_21_code 18 = .ok (.iconst 0, 1) := by decide +kernel
theorem d_SC_isNumber_19 : decode prog_1_method_21_code 19 = .ok (.ireturn, 1) := by decide +kernel
theorem d_SC_deviceOf_0 : decode prog_1_method_22_code 0 = .ok (.iload_n 1, 1) := by decide +kernel
theorem d_SC_deviceOf_1 : decode prog_1_method_22_code 1 = .ok (.ifCond .lt 8, 3) := by decide +kernel
theorem d_SC_deviceOf_4 : decode prog_1_method_22_code 4 = .ok (.iload_n 1, 1) := by decide +kernel
theorem d_SC_deviceOf_5 : decode prog_1_method_22_code 5 = .ok (.iconst 4, 1) := by decide +kernel
theorem d_SC_deviceOf_6 : decode prog_1_method_22_code 6 = .ok (.if_icmp .lt 7, 3) := by decide +kernel
theorem d_SC_deviceOf_9 : decode prog_1_method_22_code 9 = .ok (.aconst_null, 1) := by decide +kernel
theorem d_SC_deviceOf_10 : decode prog_1_method_22_code 10 = .ok (.goto 9, 3) := by decide +kernel
theorem d_SC_deviceOf_13 : decode prog_1_method_22_code 13 = .ok (.aload_n 0, 1) := by decide +kernel
theorem d_SC_deviceOf_14 : decode prog_1_method_22_code 14 = .ok (.getfield 11, 3) := by decide +kernel
theorem d_SC_deviceOf_17 : decode prog_1_method_22_code 17 = .ok (.iload_n 1, 1) := by decide +kernel
theorem d_SC_deviceOf_18 : decode prog_1_method_22_code 18 = .ok (.aaload, 1) := by decide +kernel
theorem d_SC_deviceOf_19 : decode prog_1_method_22_code 19 = .ok (.areturn, 1) := by decide +kernel
theorem d_SC_lineOf_0 : decode prog_1_method_23_code 0 = .ok (.iload_n 1, 1) := by decide +kernel
theorem d_SC_lineOf_1 : decode prog_1_method_23_code 1 = .ok (.iconst (-1), 1) := by decide +kernel
theorem d_SC_lineOf_2 : decode prog_1_method_23_code 2 = .ok (.if_icmp .ne 8, 3) := by decide +kernel
theorem d_SC_lineOf_5 : decode prog_1_method_23_code 5 = .ok (.aload_n 0, 1) := by decide +kernel
theorem d_SC_lineOf_6 : decode prog_1_method_23_code 6 = .ok (.getfield 20, 3) := by decide +kernel
theorem d_SC_lineOf_9 : decode prog_1_method_23_code 9 = .ok (.areturn, 1) := by decide +kernel
theorem d_SC_lineOf_10 : decode prog_1_method_23_code 10 = .ok (.iload_n 1, 1) := by decide +kernel
theorem d_SC_lineOf_11 : decode prog_1_method_23_code 11 = .ok (.iconst 4, 1) := by decide +kernel
theorem d_SC_lineOf_12 : decode prog_1_method_23_code 12 = .ok (.if_icmp .lt 24, 3) := by decide +kernel
theorem d_SC_lineOf_15 : decode prog_1_method_23_code 15 = .ok (.aload_n 0, 1) := by decide +kernel
theorem d_SC_lineOf_16 : decode prog_1_method_23_code 16 = .ok (.iload_n 1, 1) := by decide +kernel
theorem d_SC_lineOf_17 : decode prog_1_method_23_code 17 = .ok (.iconst 4, 1) := by decide +kernel
theorem d_SC_lineOf_18 : decode prog_1_method_23_code 18 = .ok (.isub, 1) := by decide +kernel
theorem d_SC_lineOf_19 : decode prog_1_method_23_code 19 = .ok (.invokevirtual 42, 3) := by decide +kernel
theorem d_SC_lineOf_22 : decode prog_1_method_23_code 22 = .ok (.astore_n 2, 1) := by decide +kernel
theorem d_SC_lineOf_23 : decode prog_1_method_23_code 23 = .ok (.aload_n 2, 1) := by decide +kernel
theorem d_SC_lineOf_24 : decode prog_1_method_23_code 24 = .ok (.ifnonnull 7, 3) := by decide +kernel
theorem d_SC_lineOf_27 : decode prog_1_method_23_code 27 = .ok (.aconst_null, 1) := by decide +kernel
theorem d_SC_lineOf_28 : decode prog_1_method_23_code 28 = .ok (.goto 7, 3) := by decide +kernel
theorem d_SC_lineOf_31 : decode prog_1_method_23_code 31 = .ok (.aload_n 2, 1) := by decide +kernel
theorem d_SC_lineOf_32 : decode prog_1_method_23_code 32 = .ok (.getfield 173, 3) := by decide +kernel
theorem d_SC_lineOf_35 : decode prog_1_method_23_code 35 = .ok (.areturn, 1) := by decide +kernel
theorem d_SC_lineOf_36 : decode prog_1_method_23_code 36 = .ok (.aload_n 0, 1) := by decide +kernel
theorem d_SC_lineOf_37 : decode prog_1_method_23_code 37 = .ok (.iload_n 1, 1) := by decide +kernel
theorem d_SC_lineOf_38 : decode prog_1_method_23_code 38 = .ok (.invokevirtual 42, 3) := by decide +kernel
theorem d_SC_lineOf_41 : decode prog_1_method_23_code 41 = .ok (.astore_n 2, 1) := by decide +kernel
theorem d_SC_lineOf_42 : decode prog_1_method_23_code 42 = .ok (.aload_n 2, 1) := by decide +kernel
theorem d_SC_lineOf_43 : decode prog_1_method_23_code 43 = .ok (.ifnonnull 7, 3) := by decide +kernel
theorem d_SC_lineOf_46 : decode prog_1_method_23_code 46 = .ok (.aconst_null, 1) := by decide +kernel
theorem d_SC_lineOf_47 : decode prog_1_method_23_code 47 = .ok (.goto 7, 3) := by decide +kernel
theorem d_SC_lineOf_50 : decode prog_1_method_23_code 50 = .ok (.aload_n 2, 1) := by decide +kernel
theorem d_SC_lineOf_51 : decode prog_1_method_23_code 51 = .ok (.getfield 160, 3) := by decide +kernel
theorem d_SC_lineOf_54 : decode prog_1_method_23_code 54 = .ok (.areturn, 1) := by decide +kernel
theorem d_SC_sendUp_0 : decode prog_1_method_24_code 0 = .ok (.iconst 0, 1) := by decide +kernel
theorem d_SC_sendUp_1 : decode prog_1_method_24_code 1 = .ok (.istore 7, 2) := by decide +kernel
theorem d_SC_sendUp_3 : decode prog_1_method_24_code 3 = .ok (.iconst 1, 1) := by decide +kernel
theorem d_SC_sendUp_4 : decode prog_1_method_24_code 4 = .ok (.istore 8, 2) := by decide +kernel
theorem d_SC_sendUp_6 : decode prog_1_method_24_code 6 = .ok (.iload 8, 2) := by decide +kernel
theorem d_SC_sendUp_8 : decode prog_1_method_24_code 8 = .ok (.iload 6, 2) := by decide +kernel
theorem d_SC_sendUp_10 : decode prog_1_method_24_code 10 = .ok (.if_icmp .gt 144, 3) := by decide +kernel
theorem d_SC_sendUp_13 : decode prog_1_method_24_code 13 = .ok (.iload 6, 2) := by decide +kernel
theorem d_SC_sendUp_15 : decode prog_1_method_24_code 15 = .ok (.iconst 1, 1) := by decide +kernel
theorem d_SC_sendUp_16 : decode prog_1_method_24_code 16 = .ok (.if_icmp .ne 13, 3) := by decide +kernel
theorem d_SC_sendUp_19 : decode prog_1_method_24_code 19 = .ok (.aload_n 0, 1) := by decide +kernel
theorem d_SC_sendUp_20 : decode prog_1_method_24_code 20 = .ok (.getfield 27, 3) := by decide +kernel
theorem d_SC_sendUp_23 : decode prog_1_method_24_code 23 = .ok (.getfield 72, 3) := by decide +kernel
theorem d_SC_sendUp_26 : decode prog_1_method_24_code 26 = .ok (.goto 12, 3) := by decide +kernel
theorem d_SC_sendUp_29 : decode prog_1_method_24_code 29 = .ok (.aload_n 0, 1) := by decide +kernel
theorem d_SC_sendUp_30 : decode prog_1_method_24_code 30 = .ok (.getfield 27, 3) := by decide +kernel
theorem d_SC_sendUp_33 : decode prog_1_method_24_code 33 = .ok (.iload 7, 2) := by decide +kernel
theorem d_SC_sendUp_35 : decode prog_1_method_24_code 35 = .ok (.invokevirtual 204, 3) := by decide +kernel
theorem d_SC_sendUp_38 : decode prog_1_method_24_code 38 = .ok (.istore 9, 2) := by decide +kernel
theorem d_SC_sendUp_40 : decode prog_1_method_24_code 40 = .ok (.aload_n 0, 1) := by decide +kernel
theorem d_SC_sendUp_41 : decode prog_1_method_24_code 41 = .ok (.getfield 27, 3) := by decide +kernel
theorem d_SC_sendUp_44 : decode prog_1_method_24_code 44 = .ok (.iload 7, 2) := by decide +kernel
theorem d_SC_sendUp_46 : decode prog_1_method_24_code 46 = .ok (.iload 9, 2) := by decide +kernel
theorem d_SC_sendUp_48 : decode prog_1_method_24_code 48 = .ok (.invokevirtual 207, 3) := by decide +kernel
theorem d_SC_sendUp_51 : decode prog_1_method_24_code 51 = .ok (.iload 6, 2) := by decide +kernel
theorem d_SC_sendUp_53 : decode prog_1_method_24_code 53 = .ok (.iconst 1, 1) := by decide +kernel
theorem d_SC_sendUp_54 : decode prog_1_method_24_code 54 = .ok (.if_icmp .ne 7, 3) := by decide +kernel
theorem d_SC_sendUp_57 : decode prog_1_method_24_code 57 = .ok (.iconst 0, 1) := by decide +kernel
theorem d_SC_sendUp_58 : decode prog_1_method_24_code 58 = .ok (.goto 5, 3) := by decide +kernel
theorem d_SC_sendUp_61 : decode prog_1_method_24_code 61 = .ok (.bipush 7, 2) := by decide +kernel
theorem d_SC_sendUp_63 : decode prog_1_method_24_code 63 = .ok (.iadd, 1) := by decide +kernel
theorem d_SC_sendUp_64 : decode prog_1_method_24_code 64 = .ok (.istore 10, 2) := by decide +kernel
theorem d_SC_sendUp_66 : decode prog_1_method_24_code 66 = .ok (.new 84, 3) := by decide +kernel
theorem d_SC_sendUp_69 : decode prog_1_method_24_code 69 = .ok (.dup, 1) := by decide +kernel
theorem d_SC_sendUp_70 : decode prog_1_method_24_code 70 = .ok (.lload_n 2, 1) := by decide +kernel
theorem d_SC_sendUp_71 : decode prog_1_method_24_code 71 = .ok (.iload 10, 2) := by decide +kernel
theorem d_SC_sendUp_73 : decode prog_1_method_24_code 73 = .ok (.invokestatic 211, 3) := by decide +kernel
theorem d_SC_sendUp_76 : decode prog_1_method_24_code 76 = .ok (.aload_n 1, 1) := by decide +kernel
theorem d_SC_sendUp_77 : decode prog_1_method_24_code 77 = .ok (.invokespecial 215, 3) := by decide +kernel
theorem d_SC_sendUp_80 : decode prog_1_method_24_code 80 = .ok (.astore 11, 2) := by decide +kernel
theorem d_SC_sendUp_82 : decode prog_1_method_24_code 82 = .ok (.aload 11, 2) := by decide +kernel
theorem d_SC_sendUp_84 : decode prog_1_method_24_code 84 = .ok (.iload 5, 2) := by decide +kernel
theorem d_SC_sendUp_86 : decode prog_1_method_24_code 86 = .ok (.aload_n 1, 1) := by decide +kernel
theorem d_SC_sendUp_87 : decode prog_1_method_24_code 87 = .ok (.invokevirtual 218, 3) := by decide +kernel
theorem d_SC_sendUp_90 : decode prog_1_method_24_code 90 = .ok (.lload_n 2, 1) := by decide +kernel
theorem d_SC_sendUp_91 : decode prog_1_method_24_code 91 = .ok (.iload 4, 2) := by decide +kernel
theorem d_SC_sendUp_93 : decode prog_1_method_24_code 93 = .ok (.invokevirtual 221, 3) := by decide +kernel
theorem d_SC_sendUp_96 : decode prog_1_method_24_code 96 = .ok (.aload 11, 2) := by decide +kernel
theorem d_SC_sendUp_98 : decode prog_1_method_24_code 98 = .ok (.iload 10, 2) := by decide +kernel
theorem d_SC_sendUp_100 : decode prog_1_method_24_code 100 = .ok (.invokevirtual 225, 3) := by decide +kernel
theorem d_SC_sendUp_103 : decode prog_1_method_24_code 103 = .ok (.iload 6, 2) := by decide +kernel
theorem d_SC_sendUp_105 : decode prog_1_method_24_code 105 = .ok (.iconst 1, 1) := by decide +kernel
theorem d_SC_sendUp_106 : decode prog_1_method_24_code 106 = .ok (.if_icmp .le 16, 3) := by decide +kernel
theorem d_SC_sendUp_109 : decode prog_1_method_24_code 109 = .ok (.aload 11, 2) := by decide +kernel
theorem d_SC_sendUp_111 : decode prog_1_method_24_code 111 = .ok (.aload_n 1, 1) := by decide +kernel
theorem d_SC_sendUp_112 : decode prog_1_method_24_code 112 = .ok (.getfield 228, 3) := by decide +kernel
theorem d_SC_sendUp_115 : decode prog_1_method_24_code 115 = .ok (.iload 6, 2) := by decide +kernel
theorem d_SC_sendUp_117 : decode prog_1_method_24_code 117 = .ok (.iload 8, 2) := by decide +kernel
theorem d_SC_sendUp_119 : decode prog_1_method_24_code 119 = .ok (.invokevirtual 231, 3) := by decide +kernel
theorem d_SC_sendUp_122 : decode prog_1_method_24_code 122 = .ok (.aload_n 0, 1) := by decide +kernel
theorem d_SC_sendUp_123 : decode prog_1_method_24_code 123 = .ok (.getfield 27, 3) := by decide +kernel
theorem d_SC_sendUp_126 : decode prog_1_method_24_code 126 = .ok (.iload 7, 2) := by decide +kernel
theorem d_SC_sendUp_128 : decode prog_1_method_24_code 128 = .ok (.iload 9, 2) := by decide +kernel
theorem d_SC_sendUp_130 : decode prog_1_method_24_code 130 = .ok (.aload 11, 2) := by decide +kernel
theorem d_SC_sendUp_132 : decode prog_1_method_24_code 132 = .ok (.invokevirtual 235, 3) := by decide +kernel
theorem d_SC_sendUp_135 : decode prog_1_method_24_code 135 = .ok (.aload_n 0, 1) := by decide +kernel
theorem d_SC_sendUp_136 : decode prog_1_method_24_code 136 = .ok (.getfield 20, 3) := by decide +kernel
theorem d_SC_sendUp_139 : decode prog_1_method_24_code 139 = .ok (.aload 11, 2) := by decide +kernel
theorem d_SC_sendUp_141 : decode prog_1_method_24_code 141 = .ok (.invokevirtual 167, 3) := by decide +kernel
theorem d_SC_sendUp_144 : decode prog_1_method_24_code 144 = .ok (.iload 9, 2) := by decide +kernel
theorem d_SC_sendUp_146 : decode prog_1_method_24_code 146 = .ok (.istore 7, 2) := by decide +kernel
theorem d_SC_sendUp_148 : decode prog_1_method_24_code 148 = .ok (.iinc 8 1, 3) := by decide +kernel
theorem d_SC_sendUp_151 : decode prog_1_method_24_code 151 = .ok (.goto (-145), 3) := by decide +kernel
theorem d_SC_sendUp_154 : decode prog_1_method_24_code 154 = .ok (.iload 6, 2) := by decide +kernel
theorem d_SC_sendUp_156 : decode prog_1_method_24_code 156 = .ok (.iconst 1, 1) := by decide +kernel
theorem d_SC_sendUp_157 : decode prog_1_method_24_code 157 = .ok (.if_icmp .le 7, 3) := by decide +kernel
theorem d_SC_sendUp_160 : decode prog_1_method_24_code 160 = .ok (.aload_n 1, 1) := by decide +kernel
theorem d_SC_sendUp_161 : decode prog_1_method_24_code 161 = .ok (.invokevirtual 239, 3) := by decide +kernel
theorem d_SC_sendUp_164 : decode prog_1_method_24_code 164 = .ok (.return_, 1) := by decide +kernel
theorem d_SC_earliestPlace_0 : decode prog_1_method_25_code 0 = .ok (.iconst (-1), 1) := by decide +kernel
theorem d_SC_earliestPlace_1 : decode prog_1_method_25_code 1 = .ok (.istore_n 1, 1) := by decide +kernel
theorem d_SC_earliestPlace_2 : decode prog_1_method_25_code 2 = .ok (.iconst 0, 1) := by decide +kernel
theorem d_SC_earliestPlace_3 : decode prog_1_method_25_code 3 = .ok (.istore_n 2, 1) := by decide +kernel
theorem d_SC_earliestPlace_4 : decode prog_1_method_25_code 4 = .ok (.iload_n 2, 1) := by decide +kernel
theorem d_SC_earliestPlace_5 : decode prog_1_method_25_code 5 = .ok (.aload_n 0, 1) := by decide +kernel
theorem d_SC_earliestPlace_6 : decode prog_1_method_25_code 6 = .ok (.getfield 38, 3) := by decide +kernel
theorem d_SC_earliestPlace_9 : decode prog_1_method_25_code 9 = .ok (.invokevirtual 101, 3) := by decide +kernel
theorem d_SC_earliestPlace_12 : decode prog_1_method_25_code 12 = .ok (.if_icmp .ge 46, 3) := by decide +kernel
theorem d_SC_earliestPlace_15 : decode prog_1_method_25_code 15 = .ok (.iload_n 1, 1) := by decide +kernel
theorem d_SC_earliestPlace_16 : decode prog_1_method_25_code 16 = .ok (.ifCond .lt 34, 3) := by decide +kernel
theorem d_SC_earliestPlace_19 : decode prog_1_method_25_code 19 = .ok (.aload_n 0, 1) := by decide +kernel
theorem d_SC_earliestPlace_20 : decode prog_1_method_25_code 20 = .ok (.getfield 38, 3) := by decide +kernel
theorem d_SC_earliestPlace_23 : decode prog_1_method_25_code 23 = .ok (.iload_n 2, 1) := by decide +kernel
theorem d_SC_earliestPlace_24 : decode prog_1_method_25_code 24 = .ok (.invokevirtual 134, 3) := by decide +kernel
theorem d_SC_earliestPlace_27 : decode prog_1_method_25_code 27 = .ok (.checkcast 117, 3) := by decide +kernel
theorem d_SC_earliestPlace_30 : decode prog_1_method_25_code 30 = .ok (.invokevirtual 138, 3) := by decide +kernel
theorem d_SC_earliestPlace_33 : decode prog_1_method_25_code 33 = .ok (.aload_n 0, 1) := by decide +kernel
theorem d_SC_earliestPlace_34 : decode prog_1_method_25_code 34 = .ok (.getfield 38, 3) := by decide +kernel
theorem d_SC_earliestPlace_37 : decode prog_1_method_25_code 37 = .ok (.iload_n 1, 1) := by decide +kernel
theorem d_SC_earliestPlace_38 : decode prog_1_method_25_code 38 = .ok (.invokevirtual 134, 3) := by decide +kernel
theorem d_SC_earliestPlace_41 : decode prog_1_method_25_code 41 = .ok (.checkcast 117, 3) := by decide +kernel
theorem d_SC_earliestPlace_44 : decode prog_1_method_25_code 44 = .ok (.invokevirtual 138, 3) := by decide +kernel
theorem d_SC_earliestPlace_47 : decode prog_1_method_25_code 47 = .ok (.if_icmp .ge 5, 3) := by decide +kernel
theorem d_SC_earliestPlace_50 : decode prog_1_method_25_code 50 = .ok (.iload_n 2, 1) := by decide +kernel
theorem d_SC_earliestPlace_51 : decode prog_1_method_25_code 51 = .ok (.istore_n 1, 1) := by decide +kernel
theorem d_SC_earliestPlace_52 : decode prog_1_method_25_code 52 = .ok (.iinc 2 1, 3) := by decide +kernel
theorem d_SC_earliestPlace_55 : decode prog_1_method_25_code 55 = .ok (.goto (-51), 3) := by decide +kernel
theorem d_SC_earliestPlace_58 : decode prog_1_method_25_code 58 = .ok (.iload_n 1, 1) := by decide +kernel
theorem d_SC_earliestPlace_59 : decode prog_1_method_25_code 59 = .ok (.ireturn, 1) := by decide +kernel