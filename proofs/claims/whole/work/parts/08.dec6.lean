theorem d_MO_swap_0 : decode prog_12_method_49_code 0 = .ok (.iload_n 1, 1) := by decide +kernel
theorem d_MO_swap_1 : decode prog_12_method_49_code 1 = .ok (.invokestatic 187, 3) := by decide +kernel
theorem d_MO_swap_4 : decode prog_12_method_49_code 4 = .ok (.ifCond .eq 15, 3) := by decide +kernel
theorem d_MO_swap_7 : decode prog_12_method_49_code 7 = .ok (.aload_n 0, 1) := by decide +kernel
theorem d_MO_swap_8 : decode prog_12_method_49_code 8 = .ok (.getfield 51, 3) := by decide +kernel
theorem d_MO_swap_11 : decode prog_12_method_49_code 11 = .ok (.iconst 1, 1) := by decide +kernel
theorem d_MO_swap_12 : decode prog_12_method_49_code 12 = .ok (.iload_n 1, 1) := by decide +kernel
theorem d_MO_swap_13 : decode prog_12_method_49_code 13 = .ok (.iadd, 1) := by decide +kernel
theorem d_MO_swap_14 : decode prog_12_method_49_code 14 = .ok (.iaload, 1) := by decide +kernel
theorem d_MO_swap_15 : decode prog_12_method_49_code 15 = .ok (.iconst 2, 1) := by decide +kernel
theorem d_MO_swap_16 : decode prog_12_method_49_code 16 = .ok (.if_icmp .ge 5, 3) := by decide +kernel
theorem d_MO_swap_19 : decode prog_12_method_49_code 19 = .ok (.iconst 0, 1) := by decide +kernel
theorem d_MO_swap_20 : decode prog_12_method_49_code 20 = .ok (.ireturn, 1) := by decide +kernel
theorem d_MO_swap_21 : decode prog_12_method_49_code 21 = .ok (.iconst 1, 1) := by decide +kernel
theorem d_MO_swap_22 : decode prog_12_method_49_code 22 = .ok (.iload_n 1, 1) := by decide +kernel
theorem d_MO_swap_23 : decode prog_12_method_49_code 23 = .ok (.iadd, 1) := by decide +kernel
theorem d_MO_swap_24 : decode prog_12_method_49_code 24 = .ok (.invokestatic 159, 3) := by decide +kernel
theorem d_MO_swap_27 : decode prog_12_method_49_code 27 = .ok (.istore_n 2, 1) := by decide +kernel
theorem d_MO_swap_28 : decode prog_12_method_49_code 28 = .ok (.aload_n 0, 1) := by decide +kernel
theorem d_MO_swap_29 : decode prog_12_method_49_code 29 = .ok (.iload_n 2, 1) := by decide +kernel
theorem d_MO_swap_30 : decode prog_12_method_49_code 30 = .ok (.invokevirtual 217, 3) := by decide +kernel
theorem d_MO_swap_33 : decode prog_12_method_49_code 33 = .ok (.aload_n 0, 1) := by decide +kernel
theorem d_MO_swap_34 : decode prog_12_method_49_code 34 = .ok (.iload_n 2, 1) := by decide +kernel
theorem d_MO_swap_35 : decode prog_12_method_49_code 35 = .ok (.iload_n 2, 1) := by decide +kernel
theorem d_MO_swap_36 : decode prog_12_method_49_code 36 = .ok (.iconst 1, 1) := by decide +kernel
theorem d_MO_swap_37 : decode prog_12_method_49_code 37 = .ok (.iadd, 1) := by decide +kernel
theorem d_MO_swap_38 : decode prog_12_method_49_code 38 = .ok (.invokevirtual 162, 3) := by decide +kernel
theorem d_MO_swap_41 : decode prog_12_method_49_code 41 = .ok (.aload_n 0, 1) := by decide +kernel
theorem d_MO_swap_42 : decode prog_12_method_49_code 42 = .ok (.getfield 51, 3) := by decide +kernel
theorem d_MO_swap_45 : decode prog_12_method_49_code 45 = .ok (.iconst 1, 1) := by decide +kernel
theorem d_MO_swap_46 : decode prog_12_method_49_code 46 = .ok (.iload_n 1, 1) := by decide +kernel
theorem d_MO_swap_47 : decode prog_12_method_49_code 47 = .ok (.iadd, 1) := by decide +kernel
theorem d_MO_swap_48 : decode prog_12_method_49_code 48 = .ok (.iaload, 1) := by decide +kernel
theorem d_MO_swap_49 : decode prog_12_method_49_code 49 = .ok (.istore_n 3, 1) := by decide +kernel
theorem d_MO_swap_50 : decode prog_12_method_49_code 50 = .ok (.aload_n 0, 1) := by decide +kernel
theorem d_MO_swap_51 : decode prog_12_method_49_code 51 = .ok (.getfield 51, 3) := by decide +kernel
theorem d_MO_swap_54 : decode prog_12_method_49_code 54 = .ok (.iconst 1, 1) := by decide +kernel
theorem d_MO_swap_55 : decode prog_12_method_49_code 55 = .ok (.iload_n 1, 1) := by decide +kernel
theorem d_MO_swap_56 : decode prog_12_method_49_code 56 = .ok (.iadd, 1) := by decide +kernel
theorem d_MO_swap_57 : decode prog_12_method_49_code 57 = .ok (.iconst 1, 1) := by decide +kernel
theorem d_MO_swap_58 : decode prog_12_method_49_code 58 = .ok (.iastore, 1) := by decide +kernel
theorem d_MO_swap_59 : decode prog_12_method_49_code 59 = .ok (.aload_n 0, 1) := by decide +kernel
theorem d_MO_swap_60 : decode prog_12_method_49_code 60 = .ok (.iconst 1, 1) := by decide +kernel
theorem d_MO_swap_61 : decode prog_12_method_49_code 61 = .ok (.iload_n 1, 1) := by decide +kernel
theorem d_MO_swap_62 : decode prog_12_method_49_code 62 = .ok (.iadd, 1) := by decide +kernel
theorem d_MO_swap_63 : decode prog_12_method_49_code 63 = .ok (.iconst 0, 1) := by decide +kernel
theorem d_MO_swap_64 : decode prog_12_method_49_code 64 = .ok (.invokevirtual 208, 3) := by decide +kernel
theorem d_MO_swap_67 : decode prog_12_method_49_code 67 = .ok (.aload_n 0, 1) := by decide +kernel
theorem d_MO_swap_68 : decode prog_12_method_49_code 68 = .ok (.getfield 51, 3) := by decide +kernel
theorem d_MO_swap_71 : decode prog_12_method_49_code 71 = .ok (.iconst 1, 1) := by decide +kernel
theorem d_MO_swap_72 : decode prog_12_method_49_code 72 = .ok (.iload_n 1, 1) := by decide +kernel
theorem d_MO_swap_73 : decode prog_12_method_49_code 73 = .ok (.iadd, 1) := by decide +kernel
theorem d_MO_swap_74 : decode prog_12_method_49_code 74 = .ok (.iload_n 3, 1) := by decide +kernel
theorem d_MO_swap_75 : decode prog_12_method_49_code 75 = .ok (.iastore, 1) := by decide +kernel
theorem d_MO_swap_76 : decode prog_12_method_49_code 76 = .ok (.iconst 1, 1) := by decide +kernel
theorem d_MO_swap_77 : decode prog_12_method_49_code 77 = .ok (.ireturn, 1) := by decide +kernel
theorem d_MO_report_0 : decode prog_12_method_50_code 0 = .ok (.iload_n 1, 1) := by decide +kernel
theorem d_MO_report_1 : decode prog_12_method_50_code 1 = .ok (.invokestatic 187, 3) := by decide +kernel
theorem d_MO_report_4 : decode prog_12_method_50_code 4 = .ok (.ifCond .ne 5, 3) := by decide +kernel
theorem d_MO_report_7 : decode prog_12_method_50_code 7 = .ok (.iconst (-1), 1) := by decide +kernel
theorem d_MO_report_8 : decode prog_12_method_50_code 8 = .ok (.ireturn, 1) := by decide +kernel
theorem d_MO_report_9 : decode prog_12_method_50_code 9 = .ok (.aload_n 0, 1) := by decide +kernel
theorem d_MO_report_10 : decode prog_12_method_50_code 10 = .ok (.getfield 51, 3) := by decide +kernel
theorem d_MO_report_13 : decode prog_12_method_50_code 13 = .ok (.iconst 5, 1) := by decide +kernel
theorem d_MO_report_14 : decode prog_12_method_50_code 14 = .ok (.iload_n 1, 1) := by decide +kernel
theorem d_MO_report_15 : decode prog_12_method_50_code 15 = .ok (.iadd, 1) := by decide +kernel
theorem d_MO_report_16 : decode prog_12_method_50_code 16 = .ok (.iaload, 1) := by decide +kernel
theorem d_MO_report_17 : decode prog_12_method_50_code 17 = .ok (.ifCond .ne 6, 3) := by decide +kernel
theorem d_MO_report_20 : decode prog_12_method_50_code 20 = .ok (.bipush (-2), 2) := by decide +kernel
theorem d_MO_report_22 : decode prog_12_method_50_code 22 = .ok (.ireturn, 1) := by decide +kernel
theorem d_MO_report_23 : decode prog_12_method_50_code 23 = .ok (.aload_n 0, 1) := by decide +kernel
theorem d_MO_report_24 : decode prog_12_method_50_code 24 = .ok (.iconst 5, 1) := by decide +kernel
theorem d_MO_report_25 : decode prog_12_method_50_code 25 = .ok (.iload_n 1, 1) := by decide +kernel
theorem d_MO_report_26 : decode prog_12_method_50_code 26 = .ok (.iadd, 1) := by decide +kernel
theorem d_MO_report_27 : decode prog_12_method_50_code 27 = .ok (.invokestatic 159, 3) := by decide +kernel
theorem d_MO_report_30 : decode prog_12_method_50_code 30 = .ok (.invokevirtual 217, 3) := by decide +kernel
theorem d_MO_report_33 : decode prog_12_method_50_code 33 = .ok (.aload_n 0, 1) := by decide +kernel
theorem d_MO_report_34 : decode prog_12_method_50_code 34 = .ok (.iconst 5, 1) := by decide +kernel
theorem d_MO_report_35 : decode prog_12_method_50_code 35 = .ok (.iload_n 1, 1) := by decide +kernel
theorem d_MO_report_36 : decode prog_12_method_50_code 36 = .ok (.iadd, 1) := by decide +kernel
theorem d_MO_report_37 : decode prog_12_method_50_code 37 = .ok (.invokevirtual 223, 3) := by decide +kernel
theorem d_MO_report_40 : decode prog_12_method_50_code 40 = .ok (.sipush 256, 3) := by decide +kernel
theorem d_MO_report_43 : decode prog_12_method_50_code 43 = .ok (.aload_n 0, 1) := by decide +kernel
theorem d_MO_report_44 : decode prog_12_method_50_code 44 = .ok (.getfield 39, 3) := by decide +kernel
theorem d_MO_report_47 : decode prog_12_method_50_code 47 = .ok (.aload_n 0, 1) := by decide +kernel
theorem d_MO_report_48 : decode prog_12_method_50_code 48 = .ok (.getfield 131, 3) := by decide +kernel
theorem d_MO_report_51 : decode prog_12_method_50_code 51 = .ok (.iconst 1, 1) := by decide +kernel
theorem d_MO_report_52 : decode prog_12_method_50_code 52 = .ok (.isub, 1) := by decide +kernel
theorem d_MO_report_53 : decode prog_12_method_50_code 53 = .ok (.iaload, 1) := by decide +kernel
theorem d_MO_report_54 : decode prog_12_method_50_code 54 = .ok (.imul, 1) := by decide +kernel
theorem d_MO_report_55 : decode prog_12_method_50_code 55 = .ok (.aload_n 0, 1) := by decide +kernel
theorem d_MO_report_56 : decode prog_12_method_50_code 56 = .ok (.getfield 39, 3) := by decide +kernel
theorem d_MO_report_59 : decode prog_12_method_50_code 59 = .ok (.iconst 1, 1) := by decide +kernel
theorem d_MO_report_60 : decode prog_12_method_50_code 60 = .ok (.iaload, 1) := by decide +kernel
theorem d_MO_report_61 : decode prog_12_method_50_code 61 = .ok (.iadd, 1) := by decide +kernel
theorem d_MO_report_62 : decode prog_12_method_50_code 62 = .ok (.ireturn, 1) := by decide +kernel
theorem d_MO_waiting_0 : decode prog_12_method_51_code 0 = .ok (.iload_n 1, 1) := by decide +kernel
theorem d_MO_waiting_1 : decode prog_12_method_51_code 1 = .ok (.iconst (-1), 1) := by decide +kernel
theorem d_MO_waiting_2 : decode prog_12_method_51_code 2 = .ok (.if_icmp .lt 9, 3) := by decide +kernel
theorem d_MO_waiting_5 : decode prog_12_method_51_code 5 = .ok (.iload_n 1, 1) := by decide +kernel
theorem d_MO_waiting_6 : decode prog_12_method_51_code 6 = .ok (.bipush 7, 2) := by decide +kernel
theorem d_MO_waiting_8 : decode prog_12_method_51_code 8 = .ok (.if_icmp .le 7, 3) := by decide +kernel
theorem d_MO_waiting_11 : decode prog_12_method_51_code 11 = .ok (.iconst (-1), 1) := by decide +kernel
theorem d_MO_waiting_12 : decode prog_12_method_51_code 12 = .ok (.goto 11, 3) := by decide +kernel
theorem d_MO_waiting_15 : decode prog_12_method_51_code 15 = .ok (.aload_n 0, 1) := by decide +kernel
theorem d_MO_waiting_16 : decode prog_12_method_51_code 16 = .ok (.getfield 51, 3) := by decide +kernel
theorem d_MO_waiting_19 : decode prog_12_method_51_code 19 = .ok (.iload_n 1, 1) := by decide +kernel
theorem d_MO_waiting_20 : decode prog_12_method_51_code 20 = .ok (.iconst 1, 1) := by decide +kernel
theorem d_MO_waiting_21 : decode prog_12_method_51_code 21 = .ok (.iadd, 1) := by decide +kernel
theorem d_MO_waiting_22 : decode prog_12_method_51_code 22 = .ok (.iaload, 1) := by decide +kernel
theorem d_MO_waiting_23 : decode prog_12_method_51_code 23 = .ok (.ireturn, 1) := by decide +kernel
theorem d_MO_byteAt_0 : decode prog_12_method_52_code 0 = .ok (.iload_n 1, 1) := by decide +kernel
theorem d_MO_byteAt_1 : decode prog_12_method_52_code 1 = .ok (.iconst (-1), 1) := by decide +kernel
theorem d_MO_byteAt_2 : decode prog_12_method_52_code 2 = .ok (.if_icmp .lt 20, 3) := by decide +kernel
theorem d_MO_byteAt_5 : decode prog_12_method_52_code 5 = .ok (.iload_n 1, 1) := by decide +kernel
theorem d_MO_byteAt_6 : decode prog_12_method_52_code 6 = .ok (.bipush 7, 2) := by decide +kernel
theorem d_MO_byteAt_8 : decode prog_12_method_52_code 8 = .ok (.if_icmp .gt 14, 3) := by decide +kernel
theorem d_MO_byteAt_11 : decode prog_12_method_52_code 11 = .ok (.aload_n 0, 1) := by decide +kernel
theorem d_MO_byteAt_12 : decode prog_12_method_52_code 12 = .ok (.getfield 51, 3) := by decide +kernel
theorem d_MO_byteAt_15 : decode prog_12_method_52_code 15 = .ok (.iload_n 1, 1) := by decide +kernel
theorem d_MO_byteAt_16 : decode prog_12_method_52_code 16 = .ok (.iconst 1, 1) := by decide +kernel
theorem d_MO_byteAt_17 : decode prog_12_method_52_code 17 = .ok (.iadd, 1) := by decide +kernel
theorem d_MO_byteAt_18 : decode prog_12_method_52_code 18 = .ok (.iaload, 1) := by decide +kernel
theorem d_MO_byteAt_19 : decode prog_12_method_52_code 19 = .ok (.ifCond .ne 6, 3) := by decide +kernel
theorem d_MO_byteAt_22 : decode prog_12_method_52_code 22 = .ok (.bipush (-2), 2) := by decide +kernel
theorem d_MO_byteAt_24 : decode prog_12_method_52_code 24 = .ok (.ireturn, 1) := by decide +kernel
theorem d_MO_byteAt_25 : decode prog_12_method_52_code 25 = .ok (.iload_n 1, 1) := by decide +kernel
theorem d_MO_byteAt_26 : decode prog_12_method_52_code 26 = .ok (.iconst 1, 1) := by decide +kernel
theorem d_MO_byteAt_27 : decode prog_12_method_52_code 27 = .ok (.iadd, 1) := by decide +kernel
theorem d_MO_byteAt_28 : decode prog_12_method_52_code 28 = .ok (.invokestatic 159, 3) := by decide +kernel
theorem d_MO_byteAt_31 : decode prog_12_method_52_code 31 = .ok (.istore_n 3, 1) := by decide +kernel
theorem d_MO_byteAt_32 : decode prog_12_method_52_code 32 = .ok (.iload_n 2, 1) := by decide +kernel
theorem d_MO_byteAt_33 : decode prog_12_method_52_code 33 = .ok (.ifCond .lt 13, 3) := by decide +kernel
theorem d_MO_byteAt_36 : decode prog_12_method_52_code 36 = .ok (.iload_n 2, 1) := by decide +kernel
theorem d_MO_byteAt_37 : decode prog_12_method_52_code 37 = .ok (.aload_n 0, 1) := by decide +kernel
theorem d_MO_byteAt_38 : decode prog_12_method_52_code 38 = .ok (.getfield 45, 3) := by decide +kernel
theorem d_MO_byteAt_41 : decode prog_12_method_52_code 41 = .ok (.iload_n 3, 1) := by decide +kernel
theorem d_MO_byteAt_42 : decode prog_12_method_52_code 42 = .ok (.iaload, 1) := by decide +kernel
theorem d_MO_byteAt_43 : decode prog_12_method_52_code 43 = .ok (.if_icmp .lt 8, 3) := by decide +kernel
theorem d_MO_byteAt_46 : decode prog_12_method_52_code 46 = .ok (.bipush (-2), 2) := by decide +kernel
theorem d_MO_byteAt_48 : decode prog_12_method_52_code 48 = .ok (.goto 15, 3) := by decide +kernel
theorem d_MO_byteAt_51 : decode prog_12_method_52_code 51 = .ok (.aload_n 0, 1) := by decide +kernel
theorem d_MO_byteAt_52 : decode prog_12_method_52_code 52 = .ok (.getfield 42, 3) := by decide +kernel
theorem d_MO_byteAt_55 : decode prog_12_method_52_code 55 = .ok (.sipush 160, 3) := by decide +kernel
theorem d_MO_byteAt_58 : decode prog_12_method_52_code 58 = .ok (.iload_n 3, 1) := by decide +kernel
theorem d_MO_byteAt_59 : decode prog_12_method_52_code 59 = .ok (.imul, 1) := by decide +kernel
theorem d_MO_byteAt_60 : decode prog_12_method_52_code 60 = .ok (.iload_n 2, 1) := by decide +kernel
theorem d_MO_byteAt_61 : decode prog_12_method_52_code 61 = .ok (.iadd, 1) := by decide +kernel
theorem d_MO_byteAt_62 : decode prog_12_method_52_code 62 = .ok (.iaload, 1) := by decide +kernel
theorem d_MO_byteAt_63 : decode prog_12_method_52_code 63 = .ok (.ireturn, 1) := by decide +kernel
theorem d_MO_text_0 : decode prog_12_method_53_code 0 = .ok (.iload_n 1, 1) := by decide +kernel
theorem d_MO_text_1 : decode prog_12_method_53_code 1 = .ok (.invokestatic 187, 3) := by decide +kernel
theorem d_MO_text_4 : decode prog_12_method_53_code 4 = .ok (.ifCond .eq 17, 3) := by decide +kernel
theorem d_MO_text_7 : decode prog_12_method_53_code 7 = .ok (.iload_n 2, 1) := by decide +kernel
theorem d_MO_text_8 : decode prog_12_method_53_code 8 = .ok (.ifCond .lt 13, 3) := by decide +kernel
theorem d_MO_text_11 : decode prog_12_method_53_code 11 = .ok (.iload_n 2, 1) := by decide +kernel
theorem d_MO_text_12 : decode prog_12_method_53_code 12 = .ok (.aload_n 0, 1) := by decide +kernel
theorem d_MO_text_13 : decode prog_12_method_53_code 13 = .ok (.getfield 30, 3) := by decide +kernel
theorem d_MO_text_16 : decode prog_12_method_53_code 16 = .ok (.iload_n 1, 1) := by decide +kernel
theorem d_MO_text_17 : decode prog_12_method_53_code 17 = .ok (.iaload, 1) := by decide +kernel
theorem d_MO_text_18 : decode prog_12_method_53_code 18 = .ok (.if_icmp .lt 8, 3) := by decide +kernel
theorem d_MO_text_21 : decode prog_12_method_53_code 21 = .ok (.bipush (-2), 2) := by decide +kernel
theorem d_MO_text_23 : decode prog_12_method_53_code 23 = .ok (.goto 15, 3) := by decide +kernel
theorem d_MO_text_26 : decode prog_12_method_53_code 26 = .ok (.aload_n 0, 1) := by decide +kernel
theorem d_MO_text_27 : decode prog_12_method_53_code 27 = .ok (.getfield 33, 3) := by decide +kernel
theorem d_MO_text_30 : decode prog_12_method_53_code 30 = .ok (.sipush 480, 3) := by decide +kernel
theorem d_MO_text_33 : decode prog_12_method_53_code 33 = .ok (.iload_n 1, 1) := by decide +kernel
theorem d_MO_text_34 : decode prog_12_method_53_code 34 = .ok (.imul, 1) := by decide +kernel
theorem d_MO_text_35 : decode prog_12_method_53_code 35 = .ok (.iload_n 2, 1) := by decide +kernel
theorem d_MO_text_36 : decode prog_12_method_53_code 36 = .ok (.iadd, 1) := by decide +kernel
theorem d_MO_text_37 : decode prog_12_method_53_code 37 = .ok (.iaload, 1) := by decide +kernel
theorem d_MO_text_38 : decode prog_12_method_53_code 38 = .ok (.ireturn, 1) := by decide +kernel
theorem d_MO_sender_0 : decode prog_12_method_54_code 0 = .ok (.iload_n 1, 1) := by decide +kernel
theorem d_MO_sender_1 : decode prog_12_method_54_code 1 = .ok (.invokestatic 187, 3) := by decide +kernel
theorem d_MO_sender_4 : decode prog_12_method_54_code 4 = .ok (.ifCond .eq 12, 3) := by decide +kernel
theorem d_MO_sender_7 : decode prog_12_method_54_code 7 = .ok (.aload_n 0, 1) := by decide +kernel
theorem d_MO_sender_8 : decode prog_12_method_54_code 8 = .ok (.getfield 36, 3) := by decide +kernel
theorem d_MO_sender_11 : decode prog_12_method_54_code 11 = .ok (.iload_n 1, 1) := by decide +kernel
theorem d_MO_sender_12 : decode prog_12_method_54_code 12 = .ok (.laload, 1) := by decide +kernel
theorem d_MO_sender_13 : decode prog_12_method_54_code 13 = .ok (.goto 4, 3) := by decide +kernel
theorem d_MO_sender_16 : decode prog_12_method_54_code 16 = .ok (.lconst 0, 1) := by decide +kernel
theorem d_MO_sender_17 : decode prog_12_method_54_code 17 = .ok (.lreturn, 1) := by decide +kernel
theorem d_MO_state_0 : decode prog_12_method_55_code 0 = .ok (.iload_n 1, 1) := by decide +kernel
theorem d_MO_state_1 : decode prog_12_method_55_code 1 = .ok (.ifCond .lt 11, 3) := by decide +kernel
theorem d_MO_state_4 : decode prog_12_method_55_code 4 = .ok (.iload_n 1, 1) := by decide +kernel
theorem d_MO_state_5 : decode prog_12_method_55_code 5 = .ok (.aload_n 0, 1) := by decide +kernel
theorem d_MO_state_6 : decode prog_12_method_55_code 6 = .ok (.getfield 214, 3) := by decide +kernel
theorem d_MO_state_9 : decode prog_12_method_55_code 9 = .ok (.if_icmp .lt 8, 3) := by decide +kernel
theorem d_MO_state_12 : decode prog_12_method_55_code 12 = .ok (.bipush (-2), 2) := by decide +kernel
theorem d_MO_state_14 : decode prog_12_method_55_code 14 = .ok (.goto 9, 3) := by decide +kernel
theorem d_MO_state_17 : decode prog_12_method_55_code 17 = .ok (.aload_n 0, 1) := by decide +kernel
theorem d_MO_state_18 : decode prog_12_method_55_code 18 = .ok (.getfield 84, 3) := by decide +kernel
theorem d_MO_state_21 : decode prog_12_method_55_code 21 = .ok (.iload_n 1, 1) := by decide +kernel
theorem d_MO_state_22 : decode prog_12_method_55_code 22 = .ok (.iaload, 1) := by decide +kernel
theorem d_MO_state_23 : decode prog_12_method_55_code 23 = .ok (.ireturn, 1) := by decide +kernel
theorem d_MO_offers_0 : decode prog_12_method_56_code 0 = .ok (.iload_n 1, 1) := by decide +kernel
theorem d_MO_offers_1 : decode prog_12_method_56_code 1 = .ok (.ifCond .lt 11, 3) := by decide +kernel
theorem d_MO_offers_4 : decode prog_12_method_56_code 4 = .ok (.iload_n 1, 1) := by decide +kernel
theorem d_MO_offers_5 : decode prog_12_method_56_code 5 = .ok (.aload_n 0, 1) := by decide +kernel
theorem d_MO_offers_6 : decode prog_12_method_56_code 6 = .ok (.getfield 214, 3) := by decide +kernel
theorem d_MO_offers_9 : decode prog_12_method_56_code 9 = .ok (.if_icmp .lt 8, 3) := by decide +kernel
theorem d_MO_offers_12 : decode prog_12_method_56_code 12 = .ok (.bipush (-2), 2) := by decide +kernel
theorem d_MO_offers_14 : decode prog_12_method_56_code 14 = .ok (.goto 9, 3) := by decide +kernel
theorem d_MO_offers_17 : decode prog_12_method_56_code 17 = .ok (.aload_n 0, 1) := by decide +kernel
theorem d_MO_offers_18 : decode prog_12_method_56_code 18 = .ok (.getfield 81, 3) := by decide +kernel
theorem d_MO_offers_21 : decode prog_12_method_56_code 21 = .ok (.iload_n 1, 1) := by decide +kernel
theorem d_MO_offers_22 : decode prog_12_method_56_code 22 = .ok (.iaload, 1) := by decide +kernel
theorem d_MO_offers_23 : decode prog_12_method_56_code 23 = .ok (.ireturn, 1) := by decide +kernel
theorem d_MO_time_0 : decode prog_12_method_57_code 0 = .ok (.aload_n 0, 1) := by decide +kernel
theorem d_MO_time_1 : decode prog_12_method_57_code 1 = .ok (.getfield 226, 3) := by decide +kernel
theorem d_MO_time_4 : decode prog_12_method_57_code 4 = .ok (.ireturn, 1) := by decide +kernel
theorem d_Al_formOf_0 : decode prog_2_method_2_code 0 = .ok (.iconst 0, 1) := by decide +kernel
theorem d_Al_formOf_1 : decode prog_2_method_2_code 1 = .ok (.istore_n 1, 1) := by decide +kernel
theorem d_Al_formOf_2 : decode prog_2_method_2_code 2 = .ok (.iload_n 1, 1) := by decide +kernel
theorem d_Al_formOf_3 : decode prog_2_method_2_code 3 = .ok (.getstatic 7, 3) := by decide +kernel
theorem d_Al_formOf_6 : decode prog_2_method_2_code 6 = .ok (.arraylength, 1) := by decide +kernel
theorem d_Al_formOf_7 : decode prog_2_method_2_code 7 = .ok (.if_icmp .ge 20, 3) := by decide +kernel
theorem d_Al_formOf_10 : decode prog_2_method_2_code 10 = .ok (.getstatic 7, 3) := by decide +kernel
theorem d_Al_formOf_13 : decode prog_2_method_2_code 13 = .ok (.iload_n 1, 1) := by decide +kernel
theorem d_Al_formOf_14 : decode prog_2_method_2_code 14 = .ok (.iaload, 1) := by decide +kernel
theorem d_Al_formOf_15 : decode prog_2_method_2_code 15 = .ok (.iload_n 0, 1) := by decide +kernel
theorem d_Al_formOf_16 : decode prog_2_method_2_code 16 = .ok (.if_icmp .ne 5, 3) := by decide +kernel
theorem d_Al_formOf_19 : decode prog_2_method_2_code 19 = .ok (.iload_n 1, 1) := by decide +kernel
theorem d_Al_formOf_20 : decode prog_2_method_2_code 20 = .ok (.ireturn, 1) := by decide +kernel
theorem d_Al_formOf_21 : decode prog_2_method_2_code 21 = .ok (.iinc 1 1, 3) := by decide +kernel
theorem d_Al_formOf_24 : decode prog_2_method_2_code 24 = .ok (.goto (-22), 3) := by decide +kernel
theorem d_Al_formOf_27 : decode prog_2_method_2_code 27 = .ok (.iconst 0, 1) := by decide +kernel
theorem d_Al_formOf_28 : decode prog_2_method_2_code 28 = .ok (.istore_n 1, 1) := by decide +kernel
theorem d_Al_formOf_29 : decode prog_2_method_2_code 29 = .ok (.iload_n 1, 1) := by decide +kernel
theorem d_Al_formOf_30 : decode prog_2_method_2_code 30 = .ok (.getstatic 13, 3) := by decide +kernel
theorem d_Al_formOf_33 : decode prog_2_method_2_code 33 = .ok (.arraylength, 1) := by decide +kernel
theorem d_Al_formOf_34 : decode prog_2_method_2_code 34 = .ok (.if_icmp .ge 28, 3) := by decide +kernel
theorem d_Al_formOf_37 : decode prog_2_method_2_code 37 = .ok (.getstatic 16, 3) := by decide +kernel
theorem d_Al_formOf_40 : decode prog_2_method_2_code 40 = .ok (.iload_n 1, 1) := by decide +kernel
theorem d_Al_formOf_41 : decode prog_2_method_2_code 41 = .ok (.iaload, 1) := by decide +kernel
theorem d_Al_formOf_42 : decode prog_2_method_2_code 42 = .ok (.iload_n 0, 1) := by decide +kernel
theorem d_Al_formOf_43 : decode prog_2_method_2_code 43 = .ok (.if_icmp .ne 13, 3) := by decide +kernel
theorem d_Al_formOf_46 : decode prog_2_method_2_code 46 = .ok (.sipush 128, 3) := by decide +kernel
theorem d_Al_formOf_49 : decode prog_2_method_2_code 49 = .ok (.getstatic 13, 3) := by decide +kernel
theorem d_Al_formOf_52 : decode prog_2_method_2_code 52 = .ok (.iload_n 1, 1) := by decide +kernel
theorem d_Al_formOf_53 : decode prog_2_method_2_code 53 = .ok (.iaload, 1) := by decide +kernel
theorem d_Al_formOf_54 : decode prog_2_method_2_code 54 = .ok (.iadd, 1) := by decide +kernel
theorem d_Al_formOf_55 : decode prog_2_method_2_code 55 = .ok (.ireturn, 1) := by decide +kernel
theorem d_Al_formOf_56 : decode prog_2_method_2_code 56 = .ok (.iinc 1 1, 3) := by decide +kernel
theorem d_Al_formOf_59 : decode prog_2_method_2_code 59 = .ok (.goto (-30), 3) := by decide +kernel
theorem d_Al_formOf_62 : decode prog_2_method_2_code 62 = .ok (.iconst (-1), 1) := by decide +kernel
theorem d_Al_formOf_63 : decode prog_2_method_2_code 63 = .ok (.ireturn, 1) := by decide +kernel
theorem d_Al_septetsOf_0 : decode prog_2_method_3_code 0 = .ok (.iload_n 0, 1) := by decide +kernel
theorem d_Al_septetsOf_1 : decode prog_2_method_3_code 1 = .ok (.sipush 128, 3) := by decide +kernel
theorem d_Al_septetsOf_4 : decode prog_2_method_3_code 4 = .ok (.if_icmp .lt 7, 3) := by decide +kernel
theorem d_Al_septetsOf_7 : decode prog_2_method_3_code 7 = .ok (.iconst 2, 1) := by decide +kernel
theorem d_Al_septetsOf_8 : decode prog_2_method_3_code 8 = .ok (.goto 4, 3) := by decide +kernel
theorem d_Al_septetsOf_11 : decode prog_2_method_3_code 11 = .ok (.iconst 1, 1) := by decide +kernel
theorem d_Al_septetsOf_12 : decode prog_2_method_3_code 12 = .ok (.ireturn, 1) := by decide +kernel
theorem d_Al_plain_0 : decode prog_2_method_4_code 0 = .ok (.iload_n 0, 1) := by decide +kernel
theorem d_Al_plain_1 : decode prog_2_method_4_code 1 = .ok (.ifCond .lt 11, 3) := by decide +kernel
theorem d_Al_plain_4 : decode prog_2_method_4_code 4 = .ok (.iload_n 0, 1) := by decide +kernel
theorem d_Al_plain_5 : decode prog_2_method_4_code 5 = .ok (.getstatic 7, 3) := by decide +kernel
theorem d_Al_plain_8 : decode prog_2_method_4_code 8 = .ok (.arraylength, 1) := by decide +kernel
theorem d_Al_plain_9 : decode prog_2_method_4_code 9 = .ok (.if_icmp .lt 7, 3) := by decide +kernel
theorem d_Al_plain_12 : decode prog_2_method_4_code 12 = .ok (.iconst (-1), 1) := by decide +kernel
theorem d_Al_plain_13 : decode prog_2_method_4_code 13 = .ok (.goto 8, 3) := by decide +kernel
theorem d_Al_plain_16 : decode prog_2_method_4_code 16 = .ok (.getstatic 7, 3) := by decide +kernel
theorem d_Al_plain_19 : decode prog_2_method_4_code 19 = .ok (.iload_n 0, 1) := by decide +kernel
theorem d_Al_plain_20 : decode prog_2_method_4_code 20 = .ok (.iaload, 1) := by decide +kernel
theorem d_Al_plain_21 : decode prog_2_method_4_code 21 = .ok (.ireturn, 1) := by decide +kernel
theorem d_Al_second_0 : decode prog_2_method_5_code 0 = .ok (.iconst 0, 1) := by decide +kernel
theorem d_Al_second_1 : decode prog_2_method_5_code 1 = .ok (.istore_n 1, 1) := by decide +kernel
theorem d_Al_second_2 : decode prog_2_method_5_code 2 = .ok (.iload_n 1, 1) := by decide +kernel
theorem d_Al_second_3 : decode prog_2_method_5_code 3 = .ok (.getstatic 13, 3) := by decide +kernel
theorem d_Al_second_6 : decode prog_2_method_5_code 6 = .ok (.arraylength, 1) := by decide +kernel
theorem d_Al_second_7 : decode prog_2_method_5_code 7 = .ok (.if_icmp .ge 24, 3) := by decide +kernel
theorem d_Al_second_10 : decode prog_2_method_5_code 10 = .ok (.getstatic 13, 3) := by decide +kernel
theorem d_Al_second_13 : decode prog_2_method_5_code 13 = .ok (.iload_n 1, 1) := by decide +kernel
theorem d_Al_second_14 : decode prog_2_method_5_code 14 = .ok (.iaload, 1) := by decide +kernel
theorem d_Al_second_15 : decode prog_2_method_5_code 15 = .ok (.iload_n 0, 1) := by decide +kernel
theorem d_Al_second_16 : decode prog_2_method_5_code 16 = .ok (.if_icmp .ne 9, 3) := by decide +kernel
theorem d_Al_second_19 : decode prog_2_method_5_code 19 = .ok (.getstatic 16, 3) := by decide +kernel
theorem d_Al_second_22 : decode prog_2_method_5_code 22 = .ok (.iload_n 1, 1) := by decide +kernel
theorem d_Al_second_23 : decode prog_2_method_5_code 23 = .ok (.iaload, 1) := by decide +kernel
theorem d_Al_second_24 : decode prog_2_method_5_code 24 = .ok (.ireturn, 1) := by decide +kernel
theorem d_Al_second_25 : decode prog_2_method_5_code 25 = .ok (.iinc 1 1, 3) := by decide +kernel
theorem d_Al_second_28 : decode prog_2_method_5_code 28 = .ok (.goto (-26), 3) := by decide +kernel
theorem d_Al_second_31 : decode prog_2_method_5_code 31 = .ok (.iconst (-1), 1) := by decide +kernel
theorem d_Al_second_32 : decode prog_2_method_5_code 32 = .ok (.ireturn, 1) := by decide +kernel
theorem d_De_init_0 : decode prog_3_method_1_code 0 = .ok (.aload_n 0, 1) := by decide +kernel
theorem d_De_init_1 : decode prog_3_method_1_code 1 = .ok (.invokespecial 1, 3) := by decide +kernel
theorem d_De_init_4 : decode prog_3_method_1_code 4 = .ok (.aload_n 0, 1) := by decide +kernel
theorem d_De_init_5 : decode prog_3_method_1_code 5 = .ok (.new 7, 3) := by decide +kernel
theorem d_De_init_8 : decode prog_3_method_1_code 8 = .ok (.dup, 1) := by decide +kernel
theorem d_De_init_9 : decode prog_3_method_1_code 9 = .ok (.bipush 6, 2) := by decide +kernel
theorem d_De_init_11 : decode prog_3_method_1_code 11 = .ok (.invokespecial 11, 3) := by decide +kernel
theorem d_De_init_14 : decode prog_3_method_1_code 14 = .ok (.putfield 14, 3) := by decide +kernel
theorem d_De_init_17 : decode prog_3_method_1_code 17 = .ok (.aload_n 0, 1) := by decide +kernel
theorem d_De_init_18 : decode prog_3_method_1_code 18 = .ok (.new 7, 3) := by decide +kernel
theorem d_De_init_21 : decode prog_3_method_1_code 21 = .ok (.dup, 1) := by decide +kernel
theorem d_De_init_22 : decode prog_3_method_1_code 22 = .ok (.bipush 6, 2) := by decide +kernel
theorem d_De_init_24 : decode prog_3_method_1_code 24 = .ok (.invokespecial 11, 3) := by decide +kernel
theorem d_De_init_27 : decode prog_3_method_1_code 27 = .ok (.putfield 18, 3) := by decide +kernel
theorem d_De_init_30 : decode prog_3_method_1_code 30 = .ok (.aload_n 0, 1) := by decide +kernel
theorem d_De_init_31 : decode prog_3_method_1_code 31 = .ok (.new 21, 3) := by decide +kernel
theorem d_De_init_34 : decode prog_3_method_1_code 34 = .ok (.dup, 1) := by decide +kernel
theorem d_De_init_35 : decode prog_3_method_1_code 35 = .ok (.invokespecial 23, 3) := by decide +kernel
theorem d_De_init_38 : decode prog_3_method_1_code 38 = .ok (.putfield 24, 3) := by decide +kernel
theorem d_De_init_41 : decode prog_3_method_1_code 41 = .ok (.aload_n 0, 1) := by decide +kernel
theorem d_De_init_42 : decode prog_3_method_1_code 42 = .ok (.sipush 480, 3) := by decide +kernel
theorem d_De_init_45 : decode prog_3_method_1_code 45 = .ok (.newarray .int, 2) := by decide +kernel
theorem d_De_init_47 : decode prog_3_method_1_code 47 = .ok (.putfield 28, 3) := by decide +kernel
theorem d_De_init_50 : decode prog_3_method_1_code 50 = .ok (.return_, 1) := by decide +kernel
theorem d_De_nextMessageNumber_0 : decode prog_3_method_2_code 0 = .ok (.aload_n 0, 1) := by decide +kernel
theorem d_De_nextMessageNumber_1 : decode prog_3_method_2_code 1 = .ok (.getfield 32, 3) := by decide +kernel
theorem d_De_nextMessageNumber_4 : decode prog_3_method_2_code 4 = .ok (.istore_n 1, 1) := by decide +kernel
theorem d_De_nextMessageNumber_5 : decode prog_3_method_2_code 5 = .ok (.aload_n 0, 1) := by decide +kernel
theorem d_De_nextMessageNumber_6 : decode prog_3_method_2_code 6 = .ok (.aload_n 0, 1) := by decide +kernel
theorem d_De_nextMessageNumber_7 : decode prog_3_method_2_code 7 = .ok (.getfield 32, 3) := by decide +kernel
theorem d_De_nextMessageNumber_10 : decode prog_3_method_2_code 10 = .ok (.iconst 1, 1) := by decide +kernel
theorem d_De_nextMessageNumber_11 : decode prog_3_method_2_code 11 = .ok (.iadd, 1) := by decide +kernel
theorem d_De_nextMessageNumber_12 : decode prog_3_method_2_code 12 = .ok (.sipush 256, 3) := by decide +kernel
theorem d_De_nextMessageNumber_15 : decode prog_3_method_2_code 15 = .ok (.irem, 1) := by decide +kernel
theorem d_De_nextMessageNumber_16 : decode prog_3_method_2_code 16 = .ok (.putfield 32, 3) := by decide +kernel
theorem d_De_nextMessageNumber_19 : decode prog_3_method_2_code 19 = .ok (.iload_n 1, 1) := by decide +kernel
theorem d_De_nextMessageNumber_20 : decode prog_3_method_2_code 20 = .ok (.ireturn, 1) := by decide +kernel
theorem d_De_countReference_0 : decode prog_3_method_3_code 0 = .ok (.aload_n 0, 1) := by decide +kernel
theorem d_De_countReference_1 : decode prog_3_method_3_code 1 = .ok (.aload_n 0, 1) := by decide +kernel
theorem d_De_countReference_2 : decode prog_3_method_3_code 2 = .ok (.getfield 36, 3) := by decide +kernel
theorem d_De_countReference_5 : decode prog_3_method_3_code 5 = .ok (.iconst 1, 1) := by decide +kernel
theorem d_De_countReference_6 : decode prog_3_method_3_code 6 = .ok (.iadd, 1) := by decide +kernel
theorem d_De_countReference_7 : decode prog_3_method_3_code 7 = .ok (.sipush 256, 3) := by decide +kernel
theorem d_De_countReference_10 : decode prog_3_method_3_code 10 = .ok (.irem, 1) := by decide +kernel
theorem d_De_countReference_11 : decode prog_3_method_3_code 11 = .ok (.putfield 36, 3) := by decide +kernel
theorem d_De_countReference_14 : decode prog_3_method_3_code 14 = .ok (.return_, 1) := by decide +kernel
theorem d_De_read_0 : decode prog_3_method_4_code 0 = .ok (.aload_n 1, 1) := by decide +kernel
theorem d_De_read_1 : decode prog_3_method_4_code 1 = .ok (.iconst 1, 1) := by decide +kernel
theorem d_De_read_2 : decode prog_3_method_4_code 2 = .ok (.invokevirtual 41, 3) := by decide +kernel
theorem d_De_read_5 : decode prog_3_method_4_code 5 = .ok (.lstore_n 2, 1) := by decide +kernel
theorem d_De_read_6 : decode prog_3_method_4_code 6 = .ok (.aload_n 1, 1) := by decide +kernel
theorem d_De_read_7 : decode prog_3_method_4_code 7 = .ok (.invokevirtual 45, 3) := by decide +kernel
theorem d_De_read_10 : decode prog_3_method_4_code 10 = .ok (.ifCond .eq 10, 3) := by decide +kernel
theorem d_De_read_13 : decode prog_3_method_4_code 13 = .ok (.aload_n 0, 1) := by decide +kernel
theorem d_De_read_14 : decode prog_3_method_4_code 14 = .ok (.aload_n 1, 1) := by decide +kernel
theorem d_De_read_15 : decode prog_3_method_4_code 15 = .ok (.lload_n 2, 1) := by decide +kernel
theorem d_De_read_16 : decode prog_3_method_4_code 16 = .ok (.invokevirtual 49, 3) := by decide +kernel
theorem d_De_read_19 : decode prog_3_method_4_code 19 = .ok (.ireturn, 1) := by decide +kernel
theorem d_De_read_20 : decode prog_3_method_4_code 20 = .ok (.aload_n 0, 1) := by decide +kernel
theorem d_De_read_21 : decode prog_3_method_4_code 21 = .ok (.aload_n 1, 1) := by decide +kernel
theorem d_De_read_22 : decode prog_3_method_4_code 22 = .ok (.aload_n 0, 1) := by decide +kernel
theorem d_De_read_23 : decode prog_3_method_4_code 23 = .ok (.getfield 28, 3) := by decide +kernel
theorem d_De_read_26 : decode prog_3_method_4_code 26 = .ok (.iconst 0, 1) := by decide +kernel
theorem d_De_read_27 : decode prog_3_method_4_code 27 = .ok (.invokevirtual 53, 3) := by decide +kernel
theorem d_De_read_30 : decode prog_3_method_4_code 30 = .ok (.putfield 57, 3) := by decide +kernel
theorem d_De_read_33 : decode prog_3_method_4_code 33 = .ok (.aload_n 0, 1) := by decide +kernel
theorem d_De_read_34 : decode prog_3_method_4_code 34 = .ok (.lload_n 2, 1) := by decide +kernel
theorem d_De_read_35 : decode prog_3_method_4_code 35 = .ok (.putfield 60, 3) := by decide +kernel
theorem d_De_read_38 : decode prog_3_method_4_code 38 = .ok (.aload_n 0, 1) := by decide +kernel
theorem d_De_read_39 : decode prog_3_method_4_code 39 = .ok (.getfield 57, 3) := by decide +kernel
theorem d_De_read_42 : decode prog_3_method_4_code 42 = .ok (.ireturn, 1) := by decide +kernel
theorem d_De_gather_0 : decode prog_3_method_5_code 0 = .ok (.aload_n 1, 1) := by decide +kernel
theorem d_De_gather_1 : decode prog_3_method_5_code 1 = .ok (.invokevirtual 64, 3) := by decide +kernel
theorem d_De_gather_4 : decode prog_3_method_5_code 4 = .ok (.iconst 1, 1) := by decide +kernel
theorem d_De_gather_5 : decode prog_3_method_5_code 5 = .ok (.iadd, 1) := by decide +kernel
theorem d_De_gather_6 : decode prog_3_method_5_code 6 = .ok (.istore 4, 2) := by decide +kernel
theorem d_De_gather_8 : decode prog_3_method_5_code 8 = .ok (.aload_n 0, 1) := by decide +kernel
theorem d_De_gather_9 : decode prog_3_method_5_code 9 = .ok (.lload_n 2, 1) := by decide +kernel
theorem d_De_gather_10 : decode prog_3_method_5_code 10 = .ok (.aload_n 1, 1) := by decide +kernel
theorem d_De_gather_11 : decode prog_3_method_5_code 11 = .ok (.iload 4, 2) := by decide +kernel
theorem d_De_gather_13 : decode prog_3_method_5_code 13 = .ok (.iconst 3, 1) := by decide +kernel
theorem d_De_gather_14 : decode prog_3_method_5_code 14 = .ok (.iadd, 1) := by decide +kernel
theorem d_De_gather_15 : decode prog_3_method_5_code 15 = .ok (.invokevirtual 68, 3) := by decide +kernel
theorem d_De_gather_18 : decode prog_3_method_5_code 18 = .ok (.aload_n 1, 1) := by decide +kernel
theorem d_De_gather_19 : decode prog_3_method_5_code 19 = .ok (.iload 4, 2) := by decide +kernel
theorem d_De_gather_21 : decode prog_3_method_5_code 21 = .ok (.iconst 4, 1) := by decide +kernel
theorem d_De_gather_22 : decode prog_3_method_5_code 22 = .ok (.iadd, 1) := by decide +kernel
theorem d_De_gather_23 : decode prog_3_method_5_code 23 = .ok (.invokevirtual 68, 3) := by decide +kernel
theorem d_De_gather_26 : decode prog_3_method_5_code 26 = .ok (.invokevirtual 72, 3) := by decide +kernel
theorem d_De_gather_29 : decode prog_3_method_5_code 29 = .ok (.istore 5, 2) := by decide +kernel
theorem d_De_gather_31 : decode prog_3_method_5_code 31 = .ok (.aload_n 0, 1) := by decide +kernel
theorem d_De_gather_32 : decode prog_3_method_5_code 32 = .ok (.getfield 24, 3) := by decide +kernel
theorem d_De_gather_35 : decode prog_3_method_5_code 35 = .ok (.iload 5, 2) := by decide +kernel
theorem d_De_gather_37 : decode prog_3_method_5_code 37 = .ok (.invokevirtual 76, 3) := by decide +kernel
theorem d_De_gather_40 : decode prog_3_method_5_code 40 = .ok (.checkcast 80, 3) := by decide +kernel
theorem d_De_gather_43 : decode prog_3_method_5_code 43 = .ok (.astore 6, 2) := by decide +kernel
theorem d_De_gather_45 : decode prog_3_method_5_code 45 = .ok (.aload 6, 2) := by decide +kernel
theorem d_De_gather_47 : decode prog_3_method_5_code 47 = .ok (.aload_n 1, 1) := by decide +kernel
theorem d_De_gather_48 : decode prog_3_method_5_code 48 = .ok (.iload 4, 2) := by decide +kernel
theorem d_De_gather_50 : decode prog_3_method_5_code 50 = .ok (.iconst 5, 1) := by decide +kernel
theorem d_De_gather_51 : decode prog_3_method_5_code 51 = .ok (.iadd, 1) := by decide +kernel
theorem d_De_gather_52 : decode prog_3_method_5_code 52 = .ok (.invokevirtual 68, 3) := by decide +kernel
theorem d_De_gather_55 : decode prog_3_method_5_code 55 = .ok (.aload_n 1, 1) := by decide +kernel
theorem d_De_gather_56 : decode prog_3_method_5_code 56 = .ok (.invokevirtual 82, 3) := by decide +kernel
theorem d_De_gather_59 : decode prog_3_method_5_code 59 = .ok (.aload 6, 2) := by decide +kernel
theorem d_De_gather_61 : decode prog_3_method_5_code 61 = .ok (.invokevirtual 86, 3) := by decide +kernel
theorem d_De_gather_64 : decode prog_3_method_5_code 64 = .ok (.ifCond .le 11, 3) := by decide +kernel
theorem d_De_gather_67 : decode prog_3_method_5_code 67 = .ok (.iconst (-1), 1) := by decide +kernel
theorem d_De_gather_68 : decode prog_3_method_5_code 68 = .ok (.aload 6, 2) := by decide +kernel
theorem d_De_gather_70 : decode prog_3_method_5_code 70 = .ok (.invokevirtual 86, 3) := by decide +kernel
theorem d_De_gather_73 : decode prog_3_method_5_code 73 = .ok (.isub, 1) := by decide +kernel
theorem d_De_gather_74 : decode prog_3_method_5_code 74 = .ok (.ireturn, 1) := by decide +kernel
theorem d_De_gather_75 : decode prog_3_method_5_code 75 = .ok (.aload_n 0, 1) := by decide +kernel
theorem d_De_gather_76 : decode prog_3_method_5_code 76 = .ok (.getfield 24, 3) := by decide +kernel
theorem d_De_gather_79 : decode prog_3_method_5_code 79 = .ok (.iload 5, 2) := by decide +kernel
theorem d_De_gather_81 : decode prog_3_method_5_code 81 = .ok (.invokevirtual 89, 3) := by decide +kernel
theorem d_De_gather_84 : decode prog_3_method_5_code 84 = .ok (.pop, 1) := by decide +kernel
theorem d_De_gather_85 : decode prog_3_method_5_code 85 = .ok (.aload_n 0, 1) := by decide +kernel
theorem d_De_gather_86 : decode prog_3_method_5_code 86 = .ok (.aload 6, 2) := by decide +kernel
theorem d_De_gather_88 : decode prog_3_method_5_code 88 = .ok (.aload_n 0, 1) := by decide +kernel
theorem d_De_gather_89 : decode prog_3_method_5_code 89 = .ok (.getfield 28, 3) := by decide +kernel
theorem d_De_gather_92 : decode prog_3_method_5_code 92 = .ok (.invokevirtual 92, 3) := by decide +kernel
theorem d_De_gather_95 : decode prog_3_method_5_code 95 = .ok (.putfield 57, 3) := by decide +kernel
theorem d_De_gather_98 : decode prog_3_method_5_code 98 = .ok (.aload_n 0, 1) := by decide +kernel
theorem d_De_gather_99 : decode prog_3_method_5_code 99 = .ok (.lload_n 2, 1) := by decide +kernel
theorem d_De_gather_100 : decode prog_3_method_5_code 100 = .ok (.putfield 60, 3) := by decide +kernel
theorem d_De_gather_103 : decode prog_3_method_5_code 103 = .ok (.aload_n 0, 1) := by decide +kernel
theorem d_De_gather_104 : decode prog_3_method_5_code 104 = .ok (.getfield 57, 3) := by decide +kernel
theorem d_De_gather_107 : decode prog_3_method_5_code 107 = .ok (.ireturn, 1) := by decide +kernel
theorem d_De_pilePlace_0 : decode prog_3_method_6_code 0 = .ok (.iconst 0, 1) := by decide +kernel
theorem d_De_pilePlace_1 : decode prog_3_method_6_code 1 = .ok (.istore 5, 2) := by decide +kernel
theorem d_De_pilePlace_3 : decode prog_3_method_6_code 3 = .ok (.iload 5, 2) := by decide +kernel
theorem d_De_pilePlace_5 : decode prog_3_method_6_code 5 = .ok (.aload_n 0, 1) := by decide +kernel
theorem d_De_pilePlace_6 : decode prog_3_method_6_code 6 = .ok (.getfield 24, 3) := by decide +kernel
theorem d_De_pilePlace_9 : decode prog_3_method_6_code 9 = .ok (.invokevirtual 95, 3) := by decide +kernel
theorem d_De_pilePlace_12 : decode prog_3_method_6_code 12 = .ok (.if_icmp .ge 34, 3) := by decide +kernel
theorem d_De_pilePlace_15 : decode prog_3_method_6_code 15 = .ok (.aload_n 0, 1) := by decide +kernel
theorem d_De_pilePlace_16 : decode prog_3_method_6_code 16 = .ok (.getfield 24, 3) := by decide +kernel
theorem d_De_pilePlace_19 : decode prog_3_method_6_code 19 = .ok (.iload 5, 2) := by decide +kernel
theorem d_De_pilePlace_21 : decode prog_3_method_6_code 21 = .ok (.invokevirtual 76, 3) := by decide +kernel
theorem d_De_pilePlace_24 : decode prog_3_method_6_code 24 = .ok (.checkcast 80, 3) := by decide +kernel
theorem d_De_pilePlace_27 : decode prog_3_method_6_code 27 = .ok (.lload_n 1, 1) := by decide +kernel
theorem d_De_pilePlace_28 : decode prog_3_method_6_code 28 = .ok (.iload_n 3, 1) := by decide +kernel
theorem d_De_pilePlace_29 : decode prog_3_method_6_code 29 = .ok (.iload 4, 2) := by decide +kernel
theorem d_De_pilePlace_31 : decode prog_3_method_6_code 31 = .ok (.invokevirtual 98, 3) := by decide +kernel
theorem d_De_pilePlace_34 : decode prog_3_method_6_code 34 = .ok (.ifCond .eq 6, 3) := by decide +kernel
theorem d_De_pilePlace_37 : decode prog_3_method_6_code 37 = .ok (.iload 5, 2) := by decide +kernel
theorem d_De_pilePlace_39 : decode prog_3_method_6_code 39 = .ok (.ireturn, 1) := by decide +kernel
theorem d_De_pilePlace_40 : decode prog_3_method_6_code 40 = .ok (.iinc 5 1, 3) := by decide +kernel
theorem d_De_pilePlace_43 : decode prog_3_method_6_code 43 = .ok (.goto (-40), 3) := by decide +kernel
theorem d_De_pilePlace_46 : decode prog_3_method_6_code 46 = .ok (.aload_n 0, 1) := by decide +kernel
theorem d_De_pilePlace_47 : decode prog_3_method_6_code 47 = .ok (.getfield 24, 3) := by decide +kernel
theorem d_De_pilePlace_50 : decode prog_3_method_6_code 50 = .ok (.invokevirtual 95, 3) := by decide +kernel
theorem d_De_pilePlace_53 : decode prog_3_method_6_code 53 = .ok (.iconst 3, 1) := by decide +kernel
theorem d_De_pilePlace_54 : decode prog_3_method_6_code 54 = .ok (.if_icmp .lt 12, 3) := by decide +kernel
theorem d_De_pilePlace_57 : decode prog_3_method_6_code 57 = .ok (.aload_n 0, 1) := by decide +kernel
theorem d_De_pilePlace_58 : decode prog_3_method_6_code 58 = .ok (.getfield 24, 3) := by decide +kernel
theorem d_De_pilePlace_61 : decode prog_3_method_6_code 61 = .ok (.iconst 0, 1) := by decide +kernel
theorem d_De_pilePlace_62 : decode prog_3_method_6_code 62 = .ok (.invokevirtual 89, 3) := by decide +kernel
theorem d_De_pilePlace_65 : decode prog_3_method_6_code 65 = .ok (.pop, 1) := by decide +kernel
theorem d_De_pilePlace_66 : decode prog_3_method_6_code 66 = .ok (.aload_n 0, 1) := by decide +kernel
theorem d_De_pilePlace_67 : decode prog_3_method_6_code 67 = .ok (.getfield 24, 3) := by decide +kernel
theorem d_De_pilePlace_70 : decode prog_3_method_6_code 70 = .ok (.new 80, 3) := by decide +kernel
theorem d_De_pilePlace_73 : decode prog_3_method_6_code 73 = .ok (.dup, 1) := by decide +kernel
theorem d_De_pilePlace_74 : decode prog_3_method_6_code 74 = .ok (.lload_n 1, 1) := by decide +kernel
theorem d_De_pilePlace_75 : decode prog_3_method_6_code 75 = .ok (.iload_n 3, 1) := by decide +kernel
theorem d_De_pilePlace_76 : decode prog_3_method_6_code 76 = .ok (.iload 4, 2) := by decide +kernel
theorem d_De_pilePlace_78 : decode prog_3_method_6_code 78 = .ok (.invokespecial 102, 3) := by decide +kernel
theorem d_De_pilePlace_81 : decode prog_3_method_6_code 81 = .ok (.invokevirtual 105, 3) := by decide +kernel
theorem d_De_pilePlace_84 : decode prog_3_method_6_code 84 = .ok (.pop, 1) := by decide +kernel
theorem d_De_pilePlace_85 : decode prog_3_method_6_code 85 = .ok (.aload_n 0, 1) := by decide +kernel
theorem d_De_pilePlace_86 : decode prog_3_method_6_code 86 = .ok (.getfield 24, 3) := by decide +kernel
theorem d_De_pilePlace_89 : decode prog_3_method_6_code 89 = .ok (.invokevirtual 95, 3) := by decide +kernel
theorem d_De_pilePlace_92 : decode prog_3_method_6_code 92 = .ok (.iconst 1, 1) := by decide +kernel
theorem d_De_pilePlace_93 : decode prog_3_method_6_code 93 = .ok (.isub, 1) := by decide +kernel
theorem d_De_pilePlace_94 : decode prog_3_method_6_code 94 = .ok (.ireturn, 1) := by decide +kernel
theorem d_Dr_init_0 : decode prog_4_method_1_code 0 = .ok (.aload_n 0, 1) := by decide +kernel
theorem d_Dr_init_1 : decode prog_4_method_1_code 1 = .ok (.invokespecial 1, 3) := by decide +kernel
theorem d_Dr_init_4 : decode prog_4_method_1_code 4 = .ok (.aload_n 0, 1) := by decide +kernel
theorem d_Dr_init_5 : decode prog_4_method_1_code 5 = .ok (.sipush 480, 3) := by decide +kernel
theorem d_Dr_init_8 : decode prog_4_method_1_code 8 = .ok (.newarray .int, 2) := by decide +kernel
theorem d_Dr_init_10 : decode prog_4_method_1_code 10 = .ok (.putfield 9, 3) := by decide +kernel
theorem d_Dr_init_13 : decode prog_4_method_1_code 13 = .ok (.return_, 1) := by decide +kernel
theorem d_Dr_room_0 : decode prog_4_method_2_code 0 = .ok (.sipush 480, 3) := by decide +kernel
theorem d_Dr_room_3 : decode prog_4_method_2_code 3 = .ok (.aload_n 0, 1) := by decide +kernel
theorem d_Dr_room_4 : decode prog_4_method_2_code 4 = .ok (.getfield 13, 3) := by decide +kernel
theorem d_Dr_room_7 : decode prog_4_method_2_code 7 = .ok (.isub, 1) := by decide +kernel
theorem d_Dr_room_8 : decode prog_4_method_2_code 8 = .ok (.ireturn, 1) := by decide +kernel
theorem d_Dr_append_0 : decode prog_4_method_3_code 0 = .ok (.iconst 0, 1) := by decide +kernel
theorem d_Dr_append_1 : decode prog_4_method_3_code 1 = .ok (.istore_n 3, 1) := by decide +kernel
theorem d_Dr_append_2 : decode prog_4_method_3_code 2 = .ok (.iload_n 3, 1) := by decide +kernel
theorem d_Dr_append_3 : decode prog_4_method_3_code 3 = .ok (.iload_n 2, 1) := by decide +kernel
theorem d_Dr_append_4 : decode prog_4_method_3_code 4 = .ok (.if_icmp .ge 39, 3) := by decide +kernel
theorem d_Dr_append_7 : decode prog_4_method_3_code 7 = .ok (.aload_n 0, 1) := by decide +kernel
theorem d_Dr_append_8 : decode prog_4_method_3_code 8 = .ok (.getfield 13, 3) := by decide +kernel
theorem d_Dr_append_11 : decode prog_4_method_3_code 11 = .ok (.sipush 480, 3) := by decide +kernel
theorem d_Dr_append_14 : decode prog_4_method_3_code 14 = .ok (.if_icmp .ge 29, 3) := by decide +kernel
theorem d_Dr_append_17 : decode prog_4_method_3_code 17 = .ok (.aload_n 0, 1) := by decide +kernel
theorem d_Dr_append_18 : decode prog_4_method_3_code 18 = .ok (.getfield 9, 3) := by decide +kernel
theorem d_Dr_append_21 : decode prog_4_method_3_code 21 = .ok (.aload_n 0, 1) := by decide +kernel
theorem d_Dr_append_22 : decode prog_4_method_3_code 22 = .ok (.getfield 13, 3) := by decide +kernel
theorem d_Dr_append_25 : decode prog_4_method_3_code 25 = .ok (.iload_n 1, 1) := by decide +kernel
theorem d_Dr_append_26 : decode prog_4_method_3_code 26 = .ok (.iastore, 1) := by decide +kernel
theorem d_Dr_append_27 : decode prog_4_method_3_code 27 = .ok (.aload_n 0, 1) := by decide +kernel
theorem d_Dr_append_28 : decode prog_4_method_3_code 28 = .ok (.dup, 1) := by decide +kernel
theorem d_Dr_append_29 : decode prog_4_method_3_code 29 = .ok (.getfield 13, 3) := by decide +kernel
theorem d_Dr_append_32 : decode prog_4_method_3_code 32 = .ok (.iconst 1, 1) := by decide +kernel
theorem d_Dr_append_33 : decode prog_4_method_3_code 33 = .ok (.iadd, 1) := by decide +kernel
theorem d_Dr_append_34 : decode prog_4_method_3_code 34 = .ok (.putfield 13, 3) := by decide +kernel
theorem d_Dr_append_37 : decode prog_4_method_3_code 37 = .ok (.iinc 3 1, 3) := by decide +kernel
theorem d_Dr_append_40 : decode prog_4_method_3_code 40 = .ok (.goto (-38), 3) := by decide +kernel
theorem d_Dr_append_43 : decode prog_4_method_3_code 43 = .ok (.return_, 1) := by decide +kernel
theorem d_Dr_hasAlien_0 : decode prog_4_method_4_code 0 = .ok (.iconst 0, 1) := by decide +kernel
theorem d_Dr_hasAlien_1 : decode prog_4_method_4_code 1 = .ok (.istore_n 1, 1) := by decide +kernel
theorem d_Dr_hasAlien_2 : decode prog_4_method_4_code 2 = .ok (.iload_n 1, 1) := by decide +kernel
theorem d_Dr_hasAlien_3 : decode prog_4_method_4_code 3 = .ok (.aload_n 0, 1) := by decide +kernel
theorem d_Dr_hasAlien_4 : decode prog_4_method_4_code 4 = .ok (.getfield 13, 3) := by decide +kernel
theorem d_Dr_hasAlien_7 : decode prog_4_method_4_code 7 = .ok (.if_icmp .ge 21, 3) := by decide +kernel
theorem d_Dr_hasAlien_10 : decode prog_4_method_4_code 10 = .ok (.aload_n 0, 1) := by decide +kernel
theorem d_Dr_hasAlien_11 : decode prog_4_method_4_code 11 = .ok (.getfield 9, 3) := by decide +kernel
theorem d_Dr_hasAlien_14 : decode prog_4_method_4_code 14 = .ok (.iload_n 1, 1) := by decide +kernel
theorem d_Dr_hasAlien_15 : decode prog_4_method_4_code 15 = .ok (.iaload, 1) := by decide +kernel
theorem d_Dr_hasAlien_16 : decode prog_4_method_4_code 16 = .ok (.iconst (-1), 1) := by decide +kernel
theorem d_Dr_hasAlien_17 : decode prog_4_method_4_code 17 = .ok (.if_icmp .ne 5, 3) := by decide +kernel
theorem d_Dr_hasAlien_20 : decode prog_4_method_4_code 20 = .ok (.iconst 1, 1) := by decide +kernel
theorem d_Dr_hasAlien_21 : decode prog_4_method_4_code 21 = .ok (.ireturn, 1) := by decide +kernel
theorem d_Dr_hasAlien_22 : decode prog_4_method_4_code 22 = .ok (.iinc 1 1, 3) := by decide +kernel
theorem d_Dr_hasAlien_25 : decode prog_4_method_4_code 25 = .ok (.goto (-23), 3) := by decide +kernel
theorem d_Dr_hasAlien_28 : decode prog_4_method_4_code 28 = .ok (.iconst 0, 1) := by decide +kernel
theorem d_Dr_hasAlien_29 : decode prog_4_method_4_code 29 = .ok (.ireturn, 1) := by decide +kernel
theorem d_Dr_septets_0 : decode prog_4_method_5_code 0 = .ok (.iconst 0, 1) := by decide +kernel
theorem d_Dr_septets_1 : decode prog_4_method_5_code 1 = .ok (.istore_n 3, 1) := by decide +kernel
theorem d_Dr_septets_2 : decode prog_4_method_5_code 2 = .ok (.iload_n 1, 1) := by decide +kernel
theorem d_Dr_septets_3 : decode prog_4_method_5_code 3 = .ok (.istore 4, 2) := by decide +kernel
theorem d_Dr_septets_5 : decode prog_4_method_5_code 5 = .ok (.iload 4, 2) := by decide +kernel
theorem d_Dr_septets_7 : decode prog_4_method_5_code 7 = .ok (.iload_n 2, 1) := by decide +kernel
theorem d_Dr_septets_8 : decode prog_4_method_5_code 8 = .ok (.if_icmp .ge 22, 3) := by decide +kernel
theorem d_Dr_septets_11 : decode prog_4_method_5_code 11 = .ok (.iload_n 3, 1) := by decide +kernel
theorem d_Dr_septets_12 : decode prog_4_method_5_code 12 = .ok (.aload_n 0, 1) := by decide +kernel
theorem d_Dr_septets_13 : decode prog_4_method_5_code 13 = .ok (.getfield 9, 3) := by decide +kernel
theorem d_Dr_septets_16 : decode prog_4_method_5_code 16 = .ok (.iload 4, 2) := by decide +kernel
theorem d_Dr_septets_18 : decode prog_4_method_5_code 18 = .ok (.iaload, 1) := by decide +kernel
theorem d_Dr_septets_19 : decode prog_4_method_5_code 19 = .ok (.invokestatic 19, 3) := by decide +kernel
theorem d_Dr_septets_22 : decode prog_4_method_5_code 22 = .ok (.iadd, 1) := by decide +kernel
theorem d_Dr_septets_23 : decode prog_4_method_5_code 23 = .ok (.istore_n 3, 1) := by decide +kernel
theorem d_Dr_septets_24 : decode prog_4_method_5_code 24 = .ok (.iinc 4 1, 3) := by decide +kernel
theorem d_Dr_septets_27 : decode prog_4_method_5_code 27 = .ok (.goto (-22), 3) := by decide +kernel
theorem d_Dr_septets_30 : decode prog_4_method_5_code 30 = .ok (.iload_n 3, 1) := by decide +kernel
theorem d_Dr_septets_31 : decode prog_4_method_5_code 31 = .ok (.ireturn, 1) := by decide +kernel
theorem d_Dr_partCount_0 : decode prog_4_method_6_code 0 = .ok (.aload_n 0, 1) := by decide +kernel
theorem d_Dr_partCount_1 : decode prog_4_method_6_code 1 = .ok (.iconst 0, 1) := by decide +kernel
theorem d_Dr_partCount_2 : decode prog_4_method_6_code 2 = .ok (.aload_n 0, 1) := by decide +kernel
theorem d_Dr_partCount_3 : decode prog_4_method_6_code 3 = .ok (.getfield 13, 3) := by decide +kernel
theorem d_Dr_partCount_6 : decode prog_4_method_6_code 6 = .ok (.invokevirtual 23, 3) := by decide +kernel
theorem d_Dr_partCount_9 : decode prog_4_method_6_code 9 = .ok (.sipush 160, 3) := by decide +kernel
theorem d_Dr_partCount_12 : decode prog_4_method_6_code 12 = .ok (.if_icmp .gt 5, 3) := by decide +kernel
theorem d_Dr_partCount_15 : decode prog_4_method_6_code 15 = .ok (.iconst 1, 1) := by decide +kernel
theorem d_Dr_partCount_16 : decode prog_4_method_6_code 16 = .ok (.ireturn, 1) := by decide +kernel
theorem d_Dr_partCount_17 : decode prog_4_method_6_code 17 = .ok (.iconst 1, 1) := by decide +kernel
theorem d_Dr_partCount_18 : decode prog_4_method_6_code 18 = .ok (.istore_n 1, 1) := by decide +kernel
theorem d_Dr_partCount_19 : decode prog_4_method_6_code 19 = .ok (.iconst 0, 1) := by decide +kernel
theorem d_Dr_partCount_20 : decode prog_4_method_6_code 20 = .ok (.istore_n 2, 1) := by decide +kernel
theorem d_Dr_partCount_21 : decode prog_4_method_6_code 21 = .ok (.iconst 0, 1) := by decide +kernel
theorem d_Dr_partCount_22 : decode prog_4_method_6_code 22 = .ok (.istore_n 3, 1) := by decide +kernel
theorem d_Dr_partCount_23 : decode prog_4_method_6_code 23 = .ok (.iload_n 3, 1) := by decide +kernel
theorem d_Dr_partCount_24 : decode prog_4_method_6_code 24 = .ok (.aload_n 0, 1) := by decide +kernel
theorem d_Dr_partCount_25 : decode prog_4_method_6_code 25 = .ok (.getfield 13, 3) := by decide +kernel
theorem d_Dr_partCount_28 : decode prog_4_method_6_code 28 = .ok (.if_icmp .ge 40, 3) := by decide +kernel
theorem d_Dr_partCount_31 : decode prog_4_method_6_code 31 = .ok (.aload_n 0, 1) := by decide +kernel
theorem d_Dr_partCount_32 : decode prog_4_method_6_code 32 = .ok (.getfield 9, 3) := by decide +kernel
theorem d_Dr_partCount_35 : decode prog_4_method_6_code 35 = .ok (.iload_n 3, 1) := by decide +kernel
theorem d_Dr_partCount_36 : decode prog_4_method_6_code 36 = .ok (.iaload, 1) := by decide +kernel
theorem d_Dr_partCount_37 : decode prog_4_method_6_code 37 = .ok (.invokestatic 19, 3) := by decide +kernel
theorem d_Dr_partCount_40 : decode prog_4_method_6_code 40 = .ok (.istore 4, 2) := by decide +kernel
theorem d_Dr_partCount_42 : decode prog_4_method_6_code 42 = .ok (.iload_n 2, 1) := by decide +kernel
theorem d_Dr_partCount_43 : decode prog_4_method_6_code 43 = .ok (.iload 4, 2) := by decide +kernel
theorem d_Dr_partCount_45 : decode prog_4_method_6_code 45 = .ok (.iadd, 1) := by decide +kernel
theorem d_Dr_partCount_46 : decode prog_4_method_6_code 46 = .ok (.sipush 153, 3) := by decide +kernel
theorem d_Dr_partCount_49 : decode prog_4_method_6_code 49 = .ok (.if_icmp .le 8, 3) := by decide +kernel
theorem d_Dr_partCount_52 : decode prog_4_method_6_code 52 = .ok (.iinc 1 1, 3) := by decide +kernel
theorem d_Dr_partCount_55 : decode prog_4_method_6_code 55 = .ok (.iconst 0, 1) := by decide +kernel
theorem d_Dr_partCount_56 : decode prog_4_method_6_code 56 = .ok (.istore_n 2, 1) := by decide +kernel
theorem d_Dr_partCount_57 : decode prog_4_method_6_code 57 = .ok (.iload_n 2, 1) := by decide +kernel
theorem d_Dr_partCount_58 : decode prog_4_method_6_code 58 = .ok (.iload 4, 2) := by decide +kernel
theorem d_Dr_partCount_60 : decode prog_4_method_6_code 60 = .ok (.iadd, 1) := by decide +kernel
theorem d_Dr_partCount_61 : decode prog_4_method_6_code 61 = .ok (.istore_n 2, 1) := by decide +kernel
theorem d_Dr_partCount_62 : decode prog_4_method_6_code 62 = .ok (.iinc 3 1, 3) := by decide +kernel
theorem d_Dr_partCount_65 : decode prog_4_method_6_code 65 = .ok (.goto (-42), 3) := by decide +kernel
theorem d_Dr_partCount_68 : decode prog_4_method_6_code 68 = .ok (.iload_n 1, 1) := by decide +kernel
theorem d_Dr_partCount_69 : decode prog_4_method_6_code 69 = .ok (.ireturn, 1) := by decide +kernel
theorem d_Dr_partEnd_0 : decode prog_4_method_7_code 0 = .ok (.iconst 0, 1) := by decide +kernel
theorem d_Dr_partEnd_1 : decode prog_4_method_7_code 1 = .ok (.istore_n 2, 1) := by decide +kernel
theorem d_Dr_partEnd_2 : decode prog_4_method_7_code 2 = .ok (.iload_n 1, 1) := by decide +kernel
theorem d_Dr_partEnd_3 : decode prog_4_method_7_code 3 = .ok (.istore_n 3, 1) := by decide +kernel
theorem d_Dr_partEnd_4 : decode prog_4_method_7_code 4 = .ok (.iload_n 3, 1) := by decide +kernel
theorem d_Dr_partEnd_5 : decode prog_4_method_7_code 5 = .ok (.aload_n 0, 1) := by decide +kernel
theorem d_Dr_partEnd_6 : decode prog_4_method_7_code 6 = .ok (.getfield 13, 3) := by decide +kernel
theorem d_Dr_partEnd_9 : decode prog_4_method_7_code 9 = .ok (.if_icmp .ge 30, 3) := by decide +kernel
theorem d_Dr_partEnd_12 : decode prog_4_method_7_code 12 = .ok (.iload_n 2, 1) := by decide +kernel
theorem d_Dr_partEnd_13 : decode prog_4_method_7_code 13 = .ok (.aload_n 0, 1) := by decide +kernel
theorem d_Dr_partEnd_14 : decode prog_4_method_7_code 14 = .ok (.getfield 9, 3) := by decide +kernel
theorem d_Dr_partEnd_17 : decode prog_4_method_7_code 17 = .ok (.iload_n 3, 1) := by decide +kernel
theorem d_Dr_partEnd_18 : decode prog_4_method_7_code 18 = .ok (.iaload, 1) := by decide +kernel
theorem d_Dr_partEnd_19 : decode prog_4_method_7_code 19 = .ok (.invokestatic 19, 3) := by decide +kernel
theorem d_Dr_partEnd_22 : decode prog_4_method_7_code 22 = .ok (.iadd, 1) := by decide +kernel
theorem d_Dr_partEnd_23 : decode prog_4_method_7_code 23 = .ok (.istore_n 2, 1) := by decide +kernel
theorem d_Dr_partEnd_24 : decode prog_4_method_7_code 24 = .ok (.iload_n 2, 1) := by decide +kernel
theorem d_Dr_partEnd_25 : decode prog_4_method_7_code 25 = .ok (.sipush 153, 3) := by decide +kernel
theorem d_Dr_partEnd_28 : decode prog_4_method_7_code 28 = .ok (.if_icmp .le 5, 3) := by decide +kernel
theorem d_Dr_partEnd_31 : decode prog_4_method_7_code 31 = .ok (.iload_n 3, 1) := by decide +kernel
theorem d_Dr_partEnd_32 : decode prog_4_method_7_code 32 = .ok (.ireturn, 1) := by decide +kernel
theorem d_Dr_partEnd_33 : decode prog_4_method_7_code 33 = .ok (.iinc 3 1, 3) := by decide +kernel
theorem d_Dr_partEnd_36 : decode prog_4_method_7_code 36 = .ok (.goto (-32), 3) := by decide +kernel
theorem d_Dr_partEnd_39 : decode prog_4_method_7_code 39 = .ok (.aload_n 0, 1) := by decide +kernel
theorem d_Dr_partEnd_40 : decode prog_4_method_7_code 40 = .ok (.getfield 13, 3) := by decide +kernel
theorem d_Dr_partEnd_43 : decode prog_4_method_7_code 43 = .ok (.ireturn, 1) := by decide +kernel
theorem d_Dr_pack_0 : decode prog_4_method_8_code 0 = .ok (.aload_n 3, 1) := by decide +kernel
theorem d_Dr_pack_1 : decode prog_4_method_8_code 1 = .ok (.invokevirtual 27, 3) := by decide +kernel
theorem d_Dr_pack_4 : decode prog_4_method_8_code 4 = .ok (.iconst 1, 1) := by decide +kernel
theorem d_Dr_pack_5 : decode prog_4_method_8_code 5 = .ok (.iadd, 1) := by decide +kernel
theorem d_Dr_pack_6 : decode prog_4_method_8_code 6 = .ok (.istore 4, 2) := by decide +kernel
theorem d_Dr_pack_8 : decode prog_4_method_8_code 8 = .ok (.aload_n 3, 1) := by decide +kernel
theorem d_Dr_pack_9 : decode prog_4_method_8_code 9 = .ok (.invokevirtual 33, 3) := by decide +kernel
theorem d_Dr_pack_12 : decode prog_4_method_8_code 12 = .ok (.istore 5, 2) := by decide +kernel
theorem d_Dr_pack_14 : decode prog_4_method_8_code 14 = .ok (.iload_n 1, 1) := by decide +kernel
theorem d_Dr_pack_15 : decode prog_4_method_8_code 15 = .ok (.istore 6, 2) := by decide +kernel
theorem d_Dr_pack_17 : decode prog_4_method_8_code 17 = .ok (.iload 6, 2) := by decide +kernel
theorem d_Dr_pack_19 : decode prog_4_method_8_code 19 = .ok (.iload_n 2, 1) := by decide +kernel
theorem d_Dr_pack_20 : decode prog_4_method_8_code 20 = .ok (.if_icmp .ge 55, 3) := by decide +kernel
theorem d_Dr_pack_23 : decode prog_4_method_8_code 23 = .ok (.aload_n 0, 1) := by decide +kernel
theorem d_Dr_pack_24 : decode prog_4_method_8_code 24 = .ok (.getfield 9, 3) := by decide +kernel
theorem d_Dr_pack_27 : decode prog_4_method_8_code 27 = .ok (.iload 6, 2) := by decide +kernel
theorem d_Dr_pack_29 : decode prog_4_method_8_code 29 = .ok (.iaload, 1) := by decide +kernel
theorem d_Dr_pack_30 : decode prog_4_method_8_code 30 = .ok (.istore 7, 2) := by decide +kernel
theorem d_Dr_pack_32 : decode prog_4_method_8_code 32 = .ok (.iload 7, 2) := by decide +kernel
theorem d_Dr_pack_34 : decode prog_4_method_8_code 34 = .ok (.sipush 128, 3) := by decide +kernel
theorem d_Dr_pack_37 : decode prog_4_method_8_code 37 = .ok (.if_icmp .lt 16, 3) := by decide +kernel
theorem d_Dr_pack_40 : decode prog_4_method_8_code 40 = .ok (.aload_n 3, 1) := by decide +kernel
theorem d_Dr_pack_41 : decode prog_4_method_8_code 41 = .ok (.iload 4, 2) := by decide +kernel
theorem d_Dr_pack_43 : decode prog_4_method_8_code 43 = .ok (.iload 5, 2) := by decide +kernel
theorem d_Dr_pack_45 : decode prog_4_method_8_code 45 = .ok (.bipush 27, 2) := by decide +kernel
theorem d_Dr_pack_47 : decode prog_4_method_8_code 47 = .ok (.invokevirtual 36, 3) := by decide +kernel
theorem d_Dr_pack_50 : decode prog_4_method_8_code 50 = .ok (.iinc 5 7, 3) := by decide +kernel
theorem d_Dr_pack_53 : decode prog_4_method_8_code 53 = .ok (.aload_n 3, 1) := by decide +kernel
theorem d_Dr_pack_54 : decode prog_4_method_8_code 54 = .ok (.iload 4, 2) := by decide +kernel
theorem d_Dr_pack_56 : decode prog_4_method_8_code 56 = .ok (.iload 5, 2) := by decide +kernel
theorem d_Dr_pack_58 : decode prog_4_method_8_code 58 = .ok (.iload 7, 2) := by decide +kernel
theorem d_Dr_pack_60 : decode prog_4_method_8_code 60 = .ok (.bipush 127, 2) := by decide +kernel
theorem d_Dr_pack_62 : decode prog_4_method_8_code 62 = .ok (.iand, 1) := by decide +kernel
theorem d_Dr_pack_63 : decode prog_4_method_8_code 63 = .ok (.invokevirtual 36, 3) := by decide +kernel
theorem d_Dr_pack_66 : decode prog_4_method_8_code 66 = .ok (.iinc 5 7, 3) := by decide +kernel
theorem d_Dr_pack_69 : decode prog_4_method_8_code 69 = .ok (.iinc 6 1, 3) := by decide +kernel
theorem d_Dr_pack_72 : decode prog_4_method_8_code 72 = .ok (.goto (-55), 3) := by decide +kernel
theorem d_Dr_pack_75 : decode prog_4_method_8_code 75 = .ok (.return_, 1) := by decide +kernel
theorem d_Li_init_0 : decode prog_6_method_1_code 0 = .ok (.aload_n 0, 1) := by decide +kernel
theorem d_Li_init_1 : decode prog_6_method_1_code 1 = .ok (.invokespecial 1, 3) := by decide +kernel
theorem d_Li_init_4 : decode prog_6_method_1_code 4 = .ok (.aload_n 0, 1) := by decide +kernel
theorem d_Li_init_5 : decode prog_6_method_1_code 5 = .ok (.new 7, 3) := by decide +kernel
theorem d_Li_init_8 : decode prog_6_method_1_code 8 = .ok (.dup, 1) := by decide +kernel
theorem d_Li_init_9 : decode prog_6_method_1_code 9 = .ok (.invokespecial 9, 3) := by decide +kernel
theorem d_Li_init_12 : decode prog_6_method_1_code 12 = .ok (.putfield 10, 3) := by decide +kernel
theorem d_Li_init_15 : decode prog_6_method_1_code 15 = .ok (.aload_n 0, 1) := by decide +kernel
theorem d_Li_init_16 : decode prog_6_method_1_code 16 = .ok (.iload_n 1, 1) := by decide +kernel
theorem d_Li_init_17 : decode prog_6_method_1_code 17 = .ok (.putfield 16, 3) := by decide +kernel
theorem d_Li_init_20 : decode prog_6_method_1_code 20 = .ok (.return_, 1) := by decide +kernel
theorem d_Li_size_0 : decode prog_6_method_2_code 0 = .ok (.aload_n 0, 1) := by decide +kernel
theorem d_Li_size_1 : decode prog_6_method_2_code 1 = .ok (.getfield 10, 3) := by decide +kernel
theorem d_Li_size_4 : decode prog_6_method_2_code 4 = .ok (.invokevirtual 20, 3) := by decide +kernel
theorem d_Li_size_7 : decode prog_6_method_2_code 7 = .ok (.ireturn, 1) := by decide +kernel
theorem d_Li_room_0 : decode prog_6_method_3_code 0 = .ok (.aload_n 0, 1) := by decide +kernel
theorem d_Li_room_1 : decode prog_6_method_3_code 1 = .ok (.getfield 16, 3) := by decide +kernel
theorem d_Li_room_4 : decode prog_6_method_3_code 4 = .ok (.aload_n 0, 1) := by decide +kernel
theorem d_Li_room_5 : decode prog_6_method_3_code 5 = .ok (.getfield 10, 3) := by decide +kernel
theorem d_Li_room_8 : decode prog_6_method_3_code 8 = .ok (.invokevirtual 20, 3) := by decide +kernel
theorem d_Li_room_11 : decode prog_6_method_3_code 11 = .ok (.isub, 1) := by decide +kernel
theorem d_Li_room_12 : decode prog_6_method_3_code 12 = .ok (.ireturn, 1) := by decide +kernel
theorem d_Li_append_0 : decode prog_6_method_4_code 0 = .ok (.aload_n 0, 1) := by decide +kernel
theorem d_Li_append_1 : decode prog_6_method_4_code 1 = .ok (.getfield 10, 3) := by decide +kernel
theorem d_Li_append_4 : decode prog_6_method_4_code 4 = .ok (.invokevirtual 20, 3) := by decide +kernel
theorem d_Li_append_7 : decode prog_6_method_4_code 7 = .ok (.aload_n 0, 1) := by decide +kernel
theorem d_Li_append_8 : decode prog_6_method_4_code 8 = .ok (.getfield 16, 3) := by decide +kernel
theorem d_Li_append_11 : decode prog_6_method_4_code 11 = .ok (.if_icmp .ge 12, 3) := by decide +kernel
theorem d_Li_append_14 : decode prog_6_method_4_code 14 = .ok (.aload_n 0, 1) := by decide +kernel
theorem d_Li_append_15 : decode prog_6_method_4_code 15 = .ok (.getfield 10, 3) := by decide +kernel
theorem d_Li_append_18 : decode prog_6_method_4_code 18 = .ok (.aload_n 1, 1) := by decide +kernel
theorem d_Li_append_19 : decode prog_6_method_4_code 19 = .ok (.invokevirtual 24, 3) := by decide +kernel
theorem d_Li_append_22 : decode prog_6_method_4_code 22 = .ok (.pop, 1) := by decide +kernel
theorem d_Li_append_23 : decode prog_6_method_4_code 23 = .ok (.return_, 1) := by decide +kernel
theorem d_Li_first_0 : decode prog_6_method_5_code 0 = .ok (.aload_n 0, 1) := by decide +kernel
theorem d_Li_first_1 : decode prog_6_method_5_code 1 = .ok (.getfield 10, 3) := by decide +kernel
theorem d_Li_first_4 : decode prog_6_method_5_code 4 = .ok (.invokevirtual 28, 3) := by decide +kernel
theorem d_Li_first_7 : decode prog_6_method_5_code 7 = .ok (.ifCond .eq 7, 3) := by decide +kernel
theorem d_Li_first_10 : decode prog_6_method_5_code 10 = .ok (.aconst_null, 1) := by decide +kernel
theorem d_Li_first_11 : decode prog_6_method_5_code 11 = .ok (.goto 14, 3) := by decide +kernel
theorem d_Li_first_14 : decode prog_6_method_5_code 14 = .ok (.aload_n 0, 1) := by decide +kernel
theorem d_Li_first_15 : decode prog_6_method_5_code 15 = .ok (.getfield 10, 3) := by decide +kernel
theorem d_Li_first_18 : decode prog_6_method_5_code 18 = .ok (.iconst 0, 1) := by decide +kernel
theorem d_Li_first_19 : decode prog_6_method_5_code 19 = .ok (.invokevirtual 32, 3) := by decide +kernel
theorem d_Li_first_22 : decode prog_6_method_5_code 22 = .ok (.checkcast 36, 3) := by decide +kernel
theorem d_Li_first_25 : decode prog_6_method_5_code 25 = .ok (.areturn, 1) := by decide +kernel
theorem d_Li_removeFirst_0 : decode prog_6_method_6_code 0 = .ok (.aload_n 0, 1) := by decide +kernel
theorem d_Li_removeFirst_1 : decode prog_6_method_6_code 1 = .ok (.getfield 10, 3) := by decide +kernel
theorem d_Li_removeFirst_4 : decode prog_6_method_6_code 4 = .ok (.invokevirtual 28, 3) := by decide +kernel
theorem d_Li_removeFirst_7 : decode prog_6_method_6_code 7 = .ok (.ifCond .eq 7, 3) := by decide +kernel
theorem d_Li_removeFirst_10 : decode prog_6_method_6_code 10 = .ok (.aconst_null, 1) := by decide +kernel
theorem d_Li_removeFirst_11 : decode prog_6_method_6_code 11 = .ok (.goto 14, 3) := by decide +kernel
theorem d_Li_removeFirst_14 : decode prog_6_method_6_code 14 = .ok (.aload_n 0, 1) := by decide +kernel
theorem d_Li_removeFirst_15 : decode prog_6_method_6_code 15 = .ok (.getfield 10, 3) := by decide +kernel
theorem d_Li_removeFirst_18 : decode prog_6_method_6_code 18 = .ok (.iconst 0, 1) := by decide +kernel
theorem d_Li_removeFirst_19 : decode prog_6_method_6_code 19 = .ok (.invokevirtual 38, 3) := by decide +kernel
theorem d_Li_removeFirst_22 : decode prog_6_method_6_code 22 = .ok (.checkcast 36, 3) := by decide +kernel
theorem d_Li_removeFirst_25 : decode prog_6_method_6_code 25 = .ok (.areturn, 1) := by decide +kernel