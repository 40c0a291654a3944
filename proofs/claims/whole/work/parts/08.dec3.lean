theorem d_MO_append_0 : decode prog_12_method_14_code 0 = .ok (.iload_n 1, 1) := by decide +kernel
theorem d_MO_append_1 : decode prog_12_method_14_code 1 = .ok (.invokestatic 159, 3) := by decide +kernel
theorem d_MO_append_4 : decode prog_12_method_14_code 4 = .ok (.aload_n 0, 1) := by decide +kernel
theorem d_MO_append_5 : decode prog_12_method_14_code 5 = .ok (.getfield 51, 3) := by decide +kernel
theorem d_MO_append_8 : decode prog_12_method_14_code 8 = .ok (.iload_n 1, 1) := by decide +kernel
theorem d_MO_append_9 : decode prog_12_method_14_code 9 = .ok (.iaload, 1) := by decide +kernel
theorem d_MO_append_10 : decode prog_12_method_14_code 10 = .ok (.iadd, 1) := by decide +kernel
theorem d_MO_append_11 : decode prog_12_method_14_code 11 = .ok (.istore_n 3, 1) := by decide +kernel
theorem d_MO_append_12 : decode prog_12_method_14_code 12 = .ok (.iconst 0, 1) := by decide +kernel
theorem d_MO_append_13 : decode prog_12_method_14_code 13 = .ok (.istore 4, 2) := by decide +kernel
theorem d_MO_append_15 : decode prog_12_method_14_code 15 = .ok (.iload 4, 2) := by decide +kernel
theorem d_MO_append_17 : decode prog_12_method_14_code 17 = .ok (.aload_n 0, 1) := by decide +kernel
theorem d_MO_append_18 : decode prog_12_method_14_code 18 = .ok (.getfield 131, 3) := by decide +kernel
theorem d_MO_append_21 : decode prog_12_method_14_code 21 = .ok (.if_icmp .ge 29, 3) := by decide +kernel
theorem d_MO_append_24 : decode prog_12_method_14_code 24 = .ok (.aload_n 0, 1) := by decide +kernel
theorem d_MO_append_25 : decode prog_12_method_14_code 25 = .ok (.getfield 42, 3) := by decide +kernel
theorem d_MO_append_28 : decode prog_12_method_14_code 28 = .ok (.sipush 160, 3) := by decide +kernel
theorem d_MO_append_31 : decode prog_12_method_14_code 31 = .ok (.iload_n 3, 1) := by decide +kernel
theorem d_MO_append_32 : decode prog_12_method_14_code 32 = .ok (.imul, 1) := by decide +kernel
theorem d_MO_append_33 : decode prog_12_method_14_code 33 = .ok (.iload 4, 2) := by decide +kernel
theorem d_MO_append_35 : decode prog_12_method_14_code 35 = .ok (.iadd, 1) := by decide +kernel
theorem d_MO_append_36 : decode prog_12_method_14_code 36 = .ok (.aload_n 0, 1) := by decide +kernel
theorem d_MO_append_37 : decode prog_12_method_14_code 37 = .ok (.getfield 39, 3) := by decide +kernel
theorem d_MO_append_40 : decode prog_12_method_14_code 40 = .ok (.iload 4, 2) := by decide +kernel
theorem d_MO_append_42 : decode prog_12_method_14_code 42 = .ok (.iaload, 1) := by decide +kernel
theorem d_MO_append_43 : decode prog_12_method_14_code 43 = .ok (.iastore, 1) := by decide +kernel
theorem d_MO_append_44 : decode prog_12_method_14_code 44 = .ok (.iinc 4 1, 3) := by decide +kernel
theorem d_MO_append_47 : decode prog_12_method_14_code 47 = .ok (.goto (-32), 3) := by decide +kernel
theorem d_MO_append_50 : decode prog_12_method_14_code 50 = .ok (.aload_n 0, 1) := by decide +kernel
theorem d_MO_append_51 : decode prog_12_method_14_code 51 = .ok (.getfield 45, 3) := by decide +kernel
theorem d_MO_append_54 : decode prog_12_method_14_code 54 = .ok (.iload_n 3, 1) := by decide +kernel
theorem d_MO_append_55 : decode prog_12_method_14_code 55 = .ok (.aload_n 0, 1) := by decide +kernel
theorem d_MO_append_56 : decode prog_12_method_14_code 56 = .ok (.getfield 131, 3) := by decide +kernel
theorem d_MO_append_59 : decode prog_12_method_14_code 59 = .ok (.iastore, 1) := by decide +kernel
theorem d_MO_append_60 : decode prog_12_method_14_code 60 = .ok (.aload_n 0, 1) := by decide +kernel
theorem d_MO_append_61 : decode prog_12_method_14_code 61 = .ok (.getfield 48, 3) := by decide +kernel
theorem d_MO_append_64 : decode prog_12_method_14_code 64 = .ok (.iload_n 3, 1) := by decide +kernel
theorem d_MO_append_65 : decode prog_12_method_14_code 65 = .ok (.iload_n 2, 1) := by decide +kernel
theorem d_MO_append_66 : decode prog_12_method_14_code 66 = .ok (.iastore, 1) := by decide +kernel
theorem d_MO_append_67 : decode prog_12_method_14_code 67 = .ok (.aload_n 0, 1) := by decide +kernel
theorem d_MO_append_68 : decode prog_12_method_14_code 68 = .ok (.getfield 51, 3) := by decide +kernel
theorem d_MO_append_71 : decode prog_12_method_14_code 71 = .ok (.iload_n 1, 1) := by decide +kernel
theorem d_MO_append_72 : decode prog_12_method_14_code 72 = .ok (.dup2, 1) := by decide +kernel
theorem d_MO_append_73 : decode prog_12_method_14_code 73 = .ok (.iaload, 1) := by decide +kernel
theorem d_MO_append_74 : decode prog_12_method_14_code 74 = .ok (.iconst 1, 1) := by decide +kernel
theorem d_MO_append_75 : decode prog_12_method_14_code 75 = .ok (.iadd, 1) := by decide +kernel
theorem d_MO_append_76 : decode prog_12_method_14_code 76 = .ok (.iastore, 1) := by decide +kernel
theorem d_MO_append_77 : decode prog_12_method_14_code 77 = .ok (.return_, 1) := by decide +kernel
theorem d_MO_load_0 : decode prog_12_method_15_code 0 = .ok (.aload_n 0, 1) := by decide +kernel
theorem d_MO_load_1 : decode prog_12_method_15_code 1 = .ok (.aload_n 0, 1) := by decide +kernel
theorem d_MO_load_2 : decode prog_12_method_15_code 2 = .ok (.getfield 45, 3) := by decide +kernel
theorem d_MO_load_5 : decode prog_12_method_15_code 5 = .ok (.iload_n 1, 1) := by decide +kernel
theorem d_MO_load_6 : decode prog_12_method_15_code 6 = .ok (.iaload, 1) := by decide +kernel
theorem d_MO_load_7 : decode prog_12_method_15_code 7 = .ok (.putfield 131, 3) := by decide +kernel
theorem d_MO_load_10 : decode prog_12_method_15_code 10 = .ok (.iconst 0, 1) := by decide +kernel
theorem d_MO_load_11 : decode prog_12_method_15_code 11 = .ok (.istore_n 2, 1) := by decide +kernel
theorem d_MO_load_12 : decode prog_12_method_15_code 12 = .ok (.iload_n 2, 1) := by decide +kernel
theorem d_MO_load_13 : decode prog_12_method_15_code 13 = .ok (.aload_n 0, 1) := by decide +kernel
theorem d_MO_load_14 : decode prog_12_method_15_code 14 = .ok (.getfield 131, 3) := by decide +kernel
theorem d_MO_load_17 : decode prog_12_method_15_code 17 = .ok (.if_icmp .ge 27, 3) := by decide +kernel
theorem d_MO_load_20 : decode prog_12_method_15_code 20 = .ok (.aload_n 0, 1) := by decide +kernel
theorem d_MO_load_21 : decode prog_12_method_15_code 21 = .ok (.getfield 39, 3) := by decide +kernel
theorem d_MO_load_24 : decode prog_12_method_15_code 24 = .ok (.iload_n 2, 1) := by decide +kernel
theorem d_MO_load_25 : decode prog_12_method_15_code 25 = .ok (.aload_n 0, 1) := by decide +kernel
theorem d_MO_load_26 : decode prog_12_method_15_code 26 = .ok (.getfield 42, 3) := by decide +kernel
theorem d_MO_load_29 : decode prog_12_method_15_code 29 = .ok (.sipush 160, 3) := by decide +kernel
theorem d_MO_load_32 : decode prog_12_method_15_code 32 = .ok (.iload_n 1, 1) := by decide +kernel
theorem d_MO_load_33 : decode prog_12_method_15_code 33 = .ok (.imul, 1) := by decide +kernel
theorem d_MO_load_34 : decode prog_12_method_15_code 34 = .ok (.iload_n 2, 1) := by decide +kernel
theorem d_MO_load_35 : decode prog_12_method_15_code 35 = .ok (.iadd, 1) := by decide +kernel
theorem d_MO_load_36 : decode prog_12_method_15_code 36 = .ok (.iaload, 1) := by decide +kernel
theorem d_MO_load_37 : decode prog_12_method_15_code 37 = .ok (.iastore, 1) := by decide +kernel
theorem d_MO_load_38 : decode prog_12_method_15_code 38 = .ok (.iinc 2 1, 3) := by decide +kernel
theorem d_MO_load_41 : decode prog_12_method_15_code 41 = .ok (.goto (-29), 3) := by decide +kernel
theorem d_MO_load_44 : decode prog_12_method_15_code 44 = .ok (.return_, 1) := by decide +kernel
theorem d_MO_move_0 : decode prog_12_method_16_code 0 = .ok (.iconst 0, 1) := by decide +kernel
theorem d_MO_move_1 : decode prog_12_method_16_code 1 = .ok (.istore_n 3, 1) := by decide +kernel
theorem d_MO_move_2 : decode prog_12_method_16_code 2 = .ok (.iload_n 3, 1) := by decide +kernel
theorem d_MO_move_3 : decode prog_12_method_16_code 3 = .ok (.sipush 160, 3) := by decide +kernel
theorem d_MO_move_6 : decode prog_12_method_16_code 6 = .ok (.if_icmp .ge 33, 3) := by decide +kernel
theorem d_MO_move_9 : decode prog_12_method_16_code 9 = .ok (.aload_n 0, 1) := by decide +kernel
theorem d_MO_move_10 : decode prog_12_method_16_code 10 = .ok (.getfield 42, 3) := by decide +kernel
theorem d_MO_move_13 : decode prog_12_method_16_code 13 = .ok (.sipush 160, 3) := by decide +kernel
theorem d_MO_move_16 : decode prog_12_method_16_code 16 = .ok (.iload_n 1, 1) := by decide +kernel
theorem d_MO_move_17 : decode prog_12_method_16_code 17 = .ok (.imul, 1) := by decide +kernel
theorem d_MO_move_18 : decode prog_12_method_16_code 18 = .ok (.iload_n 3, 1) := by decide +kernel
theorem d_MO_move_19 : decode prog_12_method_16_code 19 = .ok (.iadd, 1) := by decide +kernel
theorem d_MO_move_20 : decode prog_12_method_16_code 20 = .ok (.aload_n 0, 1) := by decide +kernel
theorem d_MO_move_21 : decode prog_12_method_16_code 21 = .ok (.getfield 42, 3) := by decide +kernel
theorem d_MO_move_24 : decode prog_12_method_16_code 24 = .ok (.sipush 160, 3) := by decide +kernel
theorem d_MO_move_27 : decode prog_12_method_16_code 27 = .ok (.iload_n 2, 1) := by decide +kernel
theorem d_MO_move_28 : decode prog_12_method_16_code 28 = .ok (.imul, 1) := by decide +kernel
theorem d_MO_move_29 : decode prog_12_method_16_code 29 = .ok (.iload_n 3, 1) := by decide +kernel
theorem d_MO_move_30 : decode prog_12_method_16_code 30 = .ok (.iadd, 1) := by decide +kernel
theorem d_MO_move_31 : decode prog_12_method_16_code 31 = .ok (.iaload, 1) := by decide +kernel
theorem d_MO_move_32 : decode prog_12_method_16_code 32 = .ok (.iastore, 1) := by decide +kernel
theorem d_MO_move_33 : decode prog_12_method_16_code 33 = .ok (.iinc 3 1, 3) := by decide +kernel
theorem d_MO_move_36 : decode prog_12_method_16_code 36 = .ok (.goto (-34), 3) := by decide +kernel
theorem d_MO_move_39 : decode prog_12_method_16_code 39 = .ok (.aload_n 0, 1) := by decide +kernel
theorem d_MO_move_40 : decode prog_12_method_16_code 40 = .ok (.getfield 45, 3) := by decide +kernel
theorem d_MO_move_43 : decode prog_12_method_16_code 43 = .ok (.iload_n 1, 1) := by decide +kernel
theorem d_MO_move_44 : decode prog_12_method_16_code 44 = .ok (.aload_n 0, 1) := by decide +kernel
theorem d_MO_move_45 : decode prog_12_method_16_code 45 = .ok (.getfield 45, 3) := by decide +kernel
theorem d_MO_move_48 : decode prog_12_method_16_code 48 = .ok (.iload_n 2, 1) := by decide +kernel
theorem d_MO_move_49 : decode prog_12_method_16_code 49 = .ok (.iaload, 1) := by decide +kernel
theorem d_MO_move_50 : decode prog_12_method_16_code 50 = .ok (.iastore, 1) := by decide +kernel
theorem d_MO_move_51 : decode prog_12_method_16_code 51 = .ok (.aload_n 0, 1) := by decide +kernel
theorem d_MO_move_52 : decode prog_12_method_16_code 52 = .ok (.getfield 48, 3) := by decide +kernel
theorem d_MO_move_55 : decode prog_12_method_16_code 55 = .ok (.iload_n 1, 1) := by decide +kernel
theorem d_MO_move_56 : decode prog_12_method_16_code 56 = .ok (.aload_n 0, 1) := by decide +kernel
theorem d_MO_move_57 : decode prog_12_method_16_code 57 = .ok (.getfield 48, 3) := by decide +kernel
theorem d_MO_move_60 : decode prog_12_method_16_code 60 = .ok (.iload_n 2, 1) := by decide +kernel
theorem d_MO_move_61 : decode prog_12_method_16_code 61 = .ok (.iaload, 1) := by decide +kernel
theorem d_MO_move_62 : decode prog_12_method_16_code 62 = .ok (.iastore, 1) := by decide +kernel
theorem d_MO_move_63 : decode prog_12_method_16_code 63 = .ok (.return_, 1) := by decide +kernel
theorem d_MO_removeFirst_0 : decode prog_12_method_17_code 0 = .ok (.iload_n 1, 1) := by decide +kernel
theorem d_MO_removeFirst_1 : decode prog_12_method_17_code 1 = .ok (.invokestatic 159, 3) := by decide +kernel
theorem d_MO_removeFirst_4 : decode prog_12_method_17_code 4 = .ok (.istore_n 2, 1) := by decide +kernel
theorem d_MO_removeFirst_5 : decode prog_12_method_17_code 5 = .ok (.aload_n 0, 1) := by decide +kernel
theorem d_MO_removeFirst_6 : decode prog_12_method_17_code 6 = .ok (.getfield 51, 3) := by decide +kernel
theorem d_MO_removeFirst_9 : decode prog_12_method_17_code 9 = .ok (.iload_n 1, 1) := by decide +kernel
theorem d_MO_removeFirst_10 : decode prog_12_method_17_code 10 = .ok (.dup2, 1) := by decide +kernel
theorem d_MO_removeFirst_11 : decode prog_12_method_17_code 11 = .ok (.iaload, 1) := by decide +kernel
theorem d_MO_removeFirst_12 : decode prog_12_method_17_code 12 = .ok (.iconst 1, 1) := by decide +kernel
theorem d_MO_removeFirst_13 : decode prog_12_method_17_code 13 = .ok (.isub, 1) := by decide +kernel
theorem d_MO_removeFirst_14 : decode prog_12_method_17_code 14 = .ok (.iastore, 1) := by decide +kernel
theorem d_MO_removeFirst_15 : decode prog_12_method_17_code 15 = .ok (.iconst 0, 1) := by decide +kernel
theorem d_MO_removeFirst_16 : decode prog_12_method_17_code 16 = .ok (.istore_n 3, 1) := by decide +kernel
theorem d_MO_removeFirst_17 : decode prog_12_method_17_code 17 = .ok (.iload_n 3, 1) := by decide +kernel
theorem d_MO_removeFirst_18 : decode prog_12_method_17_code 18 = .ok (.aload_n 0, 1) := by decide +kernel
theorem d_MO_removeFirst_19 : decode prog_12_method_17_code 19 = .ok (.getfield 51, 3) := by decide +kernel
theorem d_MO_removeFirst_22 : decode prog_12_method_17_code 22 = .ok (.iload_n 1, 1) := by decide +kernel
theorem d_MO_removeFirst_23 : decode prog_12_method_17_code 23 = .ok (.iaload, 1) := by decide +kernel
theorem d_MO_removeFirst_24 : decode prog_12_method_17_code 24 = .ok (.if_icmp .ge 21, 3) := by decide +kernel
theorem d_MO_removeFirst_27 : decode prog_12_method_17_code 27 = .ok (.aload_n 0, 1) := by decide +kernel
theorem d_MO_removeFirst_28 : decode prog_12_method_17_code 28 = .ok (.iload_n 2, 1) := by decide +kernel
theorem d_MO_removeFirst_29 : decode prog_12_method_17_code 29 = .ok (.iload_n 3, 1) := by decide +kernel
theorem d_MO_removeFirst_30 : decode prog_12_method_17_code 30 = .ok (.iadd, 1) := by decide +kernel
theorem d_MO_removeFirst_31 : decode prog_12_method_17_code 31 = .ok (.iload_n 2, 1) := by decide +kernel
theorem d_MO_removeFirst_32 : decode prog_12_method_17_code 32 = .ok (.iload_n 3, 1) := by decide +kernel
theorem d_MO_removeFirst_33 : decode prog_12_method_17_code 33 = .ok (.iadd, 1) := by decide +kernel
theorem d_MO_removeFirst_34 : decode prog_12_method_17_code 34 = .ok (.iconst 1, 1) := by decide +kernel
theorem d_MO_removeFirst_35 : decode prog_12_method_17_code 35 = .ok (.iadd, 1) := by decide +kernel
theorem d_MO_removeFirst_36 : decode prog_12_method_17_code 36 = .ok (.invokevirtual 162, 3) := by decide +kernel
theorem d_MO_removeFirst_39 : decode prog_12_method_17_code 39 = .ok (.iinc 3 1, 3) := by decide +kernel
theorem d_MO_removeFirst_42 : decode prog_12_method_17_code 42 = .ok (.goto (-25), 3) := by decide +kernel
theorem d_MO_removeFirst_45 : decode prog_12_method_17_code 45 = .ok (.return_, 1) := by decide +kernel
theorem d_MO_bit_0 : decode prog_12_method_18_code 0 = .ok (.aload_n 0, 1) := by decide +kernel
theorem d_MO_bit_1 : decode prog_12_method_18_code 1 = .ok (.getfield 39, 3) := by decide +kernel
theorem d_MO_bit_4 : decode prog_12_method_18_code 4 = .ok (.iload_n 1, 1) := by decide +kernel
theorem d_MO_bit_5 : decode prog_12_method_18_code 5 = .ok (.iload_n 2, 1) := by decide +kernel
theorem d_MO_bit_6 : decode prog_12_method_18_code 6 = .ok (.bipush 8, 2) := by decide +kernel
theorem d_MO_bit_8 : decode prog_12_method_18_code 8 = .ok (.idiv, 1) := by decide +kernel
theorem d_MO_bit_9 : decode prog_12_method_18_code 9 = .ok (.iadd, 1) := by decide +kernel
theorem d_MO_bit_10 : decode prog_12_method_18_code 10 = .ok (.iaload, 1) := by decide +kernel
theorem d_MO_bit_11 : decode prog_12_method_18_code 11 = .ok (.iload_n 2, 1) := by decide +kernel
theorem d_MO_bit_12 : decode prog_12_method_18_code 12 = .ok (.bipush 8, 2) := by decide +kernel
theorem d_MO_bit_14 : decode prog_12_method_18_code 14 = .ok (.irem, 1) := by decide +kernel
theorem d_MO_bit_15 : decode prog_12_method_18_code 15 = .ok (.ishr, 1) := by decide +kernel
theorem d_MO_bit_16 : decode prog_12_method_18_code 16 = .ok (.iconst 1, 1) := by decide +kernel
theorem d_MO_bit_17 : decode prog_12_method_18_code 17 = .ok (.iand, 1) := by decide +kernel
theorem d_MO_bit_18 : decode prog_12_method_18_code 18 = .ok (.ireturn, 1) := by decide +kernel
theorem d_MO_readSeptets_0 : decode prog_12_method_19_code 0 = .ok (.iload_n 2, 1) := by decide +kernel
theorem d_MO_readSeptets_1 : decode prog_12_method_19_code 1 = .ok (.ifCond .eq 8, 3) := by decide +kernel
theorem d_MO_readSeptets_4 : decode prog_12_method_19_code 4 = .ok (.bipush 49, 2) := by decide +kernel
theorem d_MO_readSeptets_6 : decode prog_12_method_19_code 6 = .ok (.goto 4, 3) := by decide +kernel
theorem d_MO_readSeptets_9 : decode prog_12_method_19_code 9 = .ok (.iconst 0, 1) := by decide +kernel
theorem d_MO_readSeptets_10 : decode prog_12_method_19_code 10 = .ok (.istore_n 3, 1) := by decide +kernel
theorem d_MO_readSeptets_11 : decode prog_12_method_19_code 11 = .ok (.aload_n 0, 1) := by decide +kernel
theorem d_MO_readSeptets_12 : decode prog_12_method_19_code 12 = .ok (.iload_n 2, 1) := by decide +kernel
theorem d_MO_readSeptets_13 : decode prog_12_method_19_code 13 = .ok (.ifCond .eq 15, 3) := by decide +kernel
theorem d_MO_readSeptets_16 : decode prog_12_method_19_code 16 = .ok (.aload_n 0, 1) := by decide +kernel
theorem d_MO_readSeptets_17 : decode prog_12_method_19_code 17 = .ok (.getfield 39, 3) := by decide +kernel
theorem d_MO_readSeptets_20 : decode prog_12_method_19_code 20 = .ok (.iload_n 1, 1) := by decide +kernel
theorem d_MO_readSeptets_21 : decode prog_12_method_19_code 21 = .ok (.iaload, 1) := by decide +kernel
theorem d_MO_readSeptets_22 : decode prog_12_method_19_code 22 = .ok (.bipush 7, 2) := by decide +kernel
theorem d_MO_readSeptets_24 : decode prog_12_method_19_code 24 = .ok (.isub, 1) := by decide +kernel
theorem d_MO_readSeptets_25 : decode prog_12_method_19_code 25 = .ok (.goto 9, 3) := by decide +kernel
theorem d_MO_readSeptets_28 : decode prog_12_method_19_code 28 = .ok (.aload_n 0, 1) := by decide +kernel
theorem d_MO_readSeptets_29 : decode prog_12_method_19_code 29 = .ok (.getfield 39, 3) := by decide +kernel
theorem d_MO_readSeptets_32 : decode prog_12_method_19_code 32 = .ok (.iload_n 1, 1) := by decide +kernel
theorem d_MO_readSeptets_33 : decode prog_12_method_19_code 33 = .ok (.iaload, 1) := by decide +kernel
theorem d_MO_readSeptets_34 : decode prog_12_method_19_code 34 = .ok (.putfield 124, 3) := by decide +kernel
theorem d_MO_readSeptets_37 : decode prog_12_method_19_code 37 = .ok (.iconst 0, 1) := by decide +kernel
theorem d_MO_readSeptets_38 : decode prog_12_method_19_code 38 = .ok (.istore 4, 2) := by decide +kernel
theorem d_MO_readSeptets_40 : decode prog_12_method_19_code 40 = .ok (.iload 4, 2) := by decide +kernel
theorem d_MO_readSeptets_42 : decode prog_12_method_19_code 42 = .ok (.aload_n 0, 1) := by decide +kernel
theorem d_MO_readSeptets_43 : decode prog_12_method_19_code 43 = .ok (.getfield 124, 3) := by decide +kernel
theorem d_MO_readSeptets_46 : decode prog_12_method_19_code 46 = .ok (.if_icmp .ge 68, 3) := by decide +kernel
theorem d_MO_readSeptets_49 : decode prog_12_method_19_code 49 = .ok (.aload_n 0, 1) := by decide +kernel
theorem d_MO_readSeptets_50 : decode prog_12_method_19_code 50 = .ok (.getfield 13, 3) := by decide +kernel
theorem d_MO_readSeptets_53 : decode prog_12_method_19_code 53 = .ok (.iload 4, 2) := by decide +kernel
theorem d_MO_readSeptets_55 : decode prog_12_method_19_code 55 = .ok (.iconst 0, 1) := by decide +kernel
theorem d_MO_readSeptets_56 : decode prog_12_method_19_code 56 = .ok (.iastore, 1) := by decide +kernel
theorem d_MO_readSeptets_57 : decode prog_12_method_19_code 57 = .ok (.iconst 0, 1) := by decide +kernel
theorem d_MO_readSeptets_58 : decode prog_12_method_19_code 58 = .ok (.istore 5, 2) := by decide +kernel
theorem d_MO_readSeptets_60 : decode prog_12_method_19_code 60 = .ok (.iload 5, 2) := by decide +kernel
theorem d_MO_readSeptets_62 : decode prog_12_method_19_code 62 = .ok (.bipush 7, 2) := by decide +kernel
theorem d_MO_readSeptets_64 : decode prog_12_method_19_code 64 = .ok (.if_icmp .ge 44, 3) := by decide +kernel
theorem d_MO_readSeptets_67 : decode prog_12_method_19_code 67 = .ok (.aload_n 0, 1) := by decide +kernel
theorem d_MO_readSeptets_68 : decode prog_12_method_19_code 68 = .ok (.getfield 13, 3) := by decide +kernel
theorem d_MO_readSeptets_71 : decode prog_12_method_19_code 71 = .ok (.iload 4, 2) := by decide +kernel
theorem d_MO_readSeptets_73 : decode prog_12_method_19_code 73 = .ok (.aload_n 0, 1) := by decide +kernel
theorem d_MO_readSeptets_74 : decode prog_12_method_19_code 74 = .ok (.getfield 13, 3) := by decide +kernel
theorem d_MO_readSeptets_77 : decode prog_12_method_19_code 77 = .ok (.iload 4, 2) := by decide +kernel
theorem d_MO_readSeptets_79 : decode prog_12_method_19_code 79 = .ok (.iaload, 1) := by decide +kernel
theorem d_MO_readSeptets_80 : decode prog_12_method_19_code 80 = .ok (.aload_n 0, 1) := by decide +kernel
theorem d_MO_readSeptets_81 : decode prog_12_method_19_code 81 = .ok (.iload_n 1, 1) := by decide +kernel
theorem d_MO_readSeptets_82 : decode prog_12_method_19_code 82 = .ok (.iconst 1, 1) := by decide +kernel
theorem d_MO_readSeptets_83 : decode prog_12_method_19_code 83 = .ok (.iadd, 1) := by decide +kernel
theorem d_MO_readSeptets_84 : decode prog_12_method_19_code 84 = .ok (.iload_n 3, 1) := by decide +kernel
theorem d_MO_readSeptets_85 : decode prog_12_method_19_code 85 = .ok (.bipush 7, 2) := by decide +kernel
theorem d_MO_readSeptets_87 : decode prog_12_method_19_code 87 = .ok (.iload 4, 2) := by decide +kernel
theorem d_MO_readSeptets_89 : decode prog_12_method_19_code 89 = .ok (.imul, 1) := by decide +kernel
theorem d_MO_readSeptets_90 : decode prog_12_method_19_code 90 = .ok (.iadd, 1) := by decide +kernel
theorem d_MO_readSeptets_91 : decode prog_12_method_19_code 91 = .ok (.iload 5, 2) := by decide +kernel
theorem d_MO_readSeptets_93 : decode prog_12_method_19_code 93 = .ok (.iadd, 1) := by decide +kernel
theorem d_MO_readSeptets_94 : decode prog_12_method_19_code 94 = .ok (.invokevirtual 166, 3) := by decide +kernel
theorem d_MO_readSeptets_97 : decode prog_12_method_19_code 97 = .ok (.iload 5, 2) := by decide +kernel
theorem d_MO_readSeptets_99 : decode prog_12_method_19_code 99 = .ok (.ishl, 1) := by decide +kernel
theorem d_MO_readSeptets_100 : decode prog_12_method_19_code 100 = .ok (.ior, 1) := by decide +kernel
theorem d_MO_readSeptets_101 : decode prog_12_method_19_code 101 = .ok (.iastore, 1) := by decide +kernel
theorem d_MO_readSeptets_102 : decode prog_12_method_19_code 102 = .ok (.iinc 5 1, 3) := by decide +kernel
theorem d_MO_readSeptets_105 : decode prog_12_method_19_code 105 = .ok (.goto (-45), 3) := by decide +kernel
theorem d_MO_readSeptets_108 : decode prog_12_method_19_code 108 = .ok (.iinc 4 1, 3) := by decide +kernel
theorem d_MO_readSeptets_111 : decode prog_12_method_19_code 111 = .ok (.goto (-71), 3) := by decide +kernel
theorem d_MO_readSeptets_114 : decode prog_12_method_19_code 114 = .ok (.return_, 1) := by decide +kernel
theorem d_MO_areText_0 : decode prog_12_method_20_code 0 = .ok (.iconst 0, 1) := by decide +kernel
theorem d_MO_areText_1 : decode prog_12_method_20_code 1 = .ok (.istore_n 1, 1) := by decide +kernel
theorem d_MO_areText_2 : decode prog_12_method_20_code 2 = .ok (.iconst 0, 1) := by decide +kernel
theorem d_MO_areText_3 : decode prog_12_method_20_code 3 = .ok (.istore_n 2, 1) := by decide +kernel
theorem d_MO_areText_4 : decode prog_12_method_20_code 4 = .ok (.iload_n 2, 1) := by decide +kernel
theorem d_MO_areText_5 : decode prog_12_method_20_code 5 = .ok (.aload_n 0, 1) := by decide +kernel
theorem d_MO_areText_6 : decode prog_12_method_20_code 6 = .ok (.getfield 124, 3) := by decide +kernel
theorem d_MO_areText_9 : decode prog_12_method_20_code 9 = .ok (.if_icmp .ge 48, 3) := by decide +kernel
theorem d_MO_areText_12 : decode prog_12_method_20_code 12 = .ok (.iload_n 1, 1) := by decide +kernel
theorem d_MO_areText_13 : decode prog_12_method_20_code 13 = .ok (.ifCond .eq 17, 3) := by decide +kernel
theorem d_MO_areText_16 : decode prog_12_method_20_code 16 = .ok (.aload_n 0, 1) := by decide +kernel
theorem d_MO_areText_17 : decode prog_12_method_20_code 17 = .ok (.getfield 13, 3) := by decide +kernel
theorem d_MO_areText_20 : decode prog_12_method_20_code 20 = .ok (.iload_n 2, 1) := by decide +kernel
theorem d_MO_areText_21 : decode prog_12_method_20_code 21 = .ok (.iaload, 1) := by decide +kernel
theorem d_MO_areText_22 : decode prog_12_method_20_code 22 = .ok (.invokestatic 128, 3) := by decide +kernel
theorem d_MO_areText_25 : decode prog_12_method_20_code 25 = .ok (.ifCond .ge 5, 3) := by decide +kernel
theorem d_MO_areText_28 : decode prog_12_method_20_code 28 = .ok (.iconst 0, 1) := by decide +kernel
theorem d_MO_areText_29 : decode prog_12_method_20_code 29 = .ok (.ireturn, 1) := by decide +kernel
theorem d_MO_areText_30 : decode prog_12_method_20_code 30 = .ok (.iload_n 1, 1) := by decide +kernel
theorem d_MO_areText_31 : decode prog_12_method_20_code 31 = .ok (.ifCond .ne 18, 3) := by decide +kernel
theorem d_MO_areText_34 : decode prog_12_method_20_code 34 = .ok (.aload_n 0, 1) := by decide +kernel
theorem d_MO_areText_35 : decode prog_12_method_20_code 35 = .ok (.getfield 13, 3) := by decide +kernel
theorem d_MO_areText_38 : decode prog_12_method_20_code 38 = .ok (.iload_n 2, 1) := by decide +kernel
theorem d_MO_areText_39 : decode prog_12_method_20_code 39 = .ok (.iaload, 1) := by decide +kernel
theorem d_MO_areText_40 : decode prog_12_method_20_code 40 = .ok (.bipush 27, 2) := by decide +kernel
theorem d_MO_areText_42 : decode prog_12_method_20_code 42 = .ok (.if_icmp .ne 7, 3) := by decide +kernel
theorem d_MO_areText_45 : decode prog_12_method_20_code 45 = .ok (.iconst 1, 1) := by decide +kernel
theorem d_MO_areText_46 : decode prog_12_method_20_code 46 = .ok (.goto 4, 3) := by decide +kernel
theorem d_MO_areText_49 : decode prog_12_method_20_code 49 = .ok (.iconst 0, 1) := by decide +kernel
theorem d_MO_areText_50 : decode prog_12_method_20_code 50 = .ok (.istore_n 1, 1) := by decide +kernel
theorem d_MO_areText_51 : decode prog_12_method_20_code 51 = .ok (.iinc 2 1, 3) := by decide +kernel
theorem d_MO_areText_54 : decode prog_12_method_20_code 54 = .ok (.goto (-50), 3) := by decide +kernel
theorem d_MO_areText_57 : decode prog_12_method_20_code 57 = .ok (.iload_n 1, 1) := by decide +kernel
theorem d_MO_areText_58 : decode prog_12_method_20_code 58 = .ok (.ifCond .ne 7, 3) := by decide +kernel
theorem d_MO_areText_61 : decode prog_12_method_20_code 61 = .ok (.iconst 1, 1) := by decide +kernel
theorem d_MO_areText_62 : decode prog_12_method_20_code 62 = .ok (.goto 4, 3) := by decide +kernel
theorem d_MO_areText_65 : decode prog_12_method_20_code 65 = .ok (.iconst 0, 1) := by decide +kernel
theorem d_MO_areText_66 : decode prog_12_method_20_code 66 = .ok (.ireturn, 1) := by decide +kernel
theorem d_MO_readNumber_0 : decode prog_12_method_21_code 0 = .ok (.iload_n 1, 1) := by decide +kernel
theorem d_MO_readNumber_1 : decode prog_12_method_21_code 1 = .ok (.iconst 1, 1) := by decide +kernel
theorem d_MO_readNumber_2 : decode prog_12_method_21_code 2 = .ok (.iadd, 1) := by decide +kernel
theorem d_MO_readNumber_3 : decode prog_12_method_21_code 3 = .ok (.aload_n 0, 1) := by decide +kernel
theorem d_MO_readNumber_4 : decode prog_12_method_21_code 4 = .ok (.getfield 131, 3) := by decide +kernel
theorem d_MO_readNumber_7 : decode prog_12_method_21_code 7 = .ok (.if_icmp .ge 45, 3) := by decide +kernel
theorem d_MO_readNumber_10 : decode prog_12_method_21_code 10 = .ok (.aload_n 0, 1) := by decide +kernel
theorem d_MO_readNumber_11 : decode prog_12_method_21_code 11 = .ok (.getfield 39, 3) := by decide +kernel
theorem d_MO_readNumber_14 : decode prog_12_method_21_code 14 = .ok (.iload_n 1, 1) := by decide +kernel
theorem d_MO_readNumber_15 : decode prog_12_method_21_code 15 = .ok (.iaload, 1) := by decide +kernel
theorem d_MO_readNumber_16 : decode prog_12_method_21_code 16 = .ok (.iconst 1, 1) := by decide +kernel
theorem d_MO_readNumber_17 : decode prog_12_method_21_code 17 = .ok (.if_icmp .lt 35, 3) := by decide +kernel
theorem d_MO_readNumber_20 : decode prog_12_method_21_code 20 = .ok (.aload_n 0, 1) := by decide +kernel
theorem d_MO_readNumber_21 : decode prog_12_method_21_code 21 = .ok (.getfield 39, 3) := by decide +kernel
theorem d_MO_readNumber_24 : decode prog_12_method_21_code 24 = .ok (.iload_n 1, 1) := by decide +kernel
theorem d_MO_readNumber_25 : decode prog_12_method_21_code 25 = .ok (.iaload, 1) := by decide +kernel
theorem d_MO_readNumber_26 : decode prog_12_method_21_code 26 = .ok (.bipush 12, 2) := by decide +kernel
theorem d_MO_readNumber_28 : decode prog_12_method_21_code 28 = .ok (.if_icmp .gt 24, 3) := by decide +kernel
theorem d_MO_readNumber_31 : decode prog_12_method_21_code 31 = .ok (.iload_n 1, 1) := by decide +kernel
theorem d_MO_readNumber_32 : decode prog_12_method_21_code 32 = .ok (.iconst 2, 1) := by decide +kernel
theorem d_MO_readNumber_33 : decode prog_12_method_21_code 33 = .ok (.iadd, 1) := by decide +kernel
theorem d_MO_readNumber_34 : decode prog_12_method_21_code 34 = .ok (.aload_n 0, 1) := by decide +kernel
theorem d_MO_readNumber_35 : decode prog_12_method_21_code 35 = .ok (.getfield 39, 3) := by decide +kernel
theorem d_MO_readNumber_38 : decode prog_12_method_21_code 38 = .ok (.iload_n 1, 1) := by decide +kernel
theorem d_MO_readNumber_39 : decode prog_12_method_21_code 39 = .ok (.iaload, 1) := by decide +kernel
theorem d_MO_readNumber_40 : decode prog_12_method_21_code 40 = .ok (.iconst 1, 1) := by decide +kernel
theorem d_MO_readNumber_41 : decode prog_12_method_21_code 41 = .ok (.iadd, 1) := by decide +kernel
theorem d_MO_readNumber_42 : decode prog_12_method_21_code 42 = .ok (.iconst 2, 1) := by decide +kernel
theorem d_MO_readNumber_43 : decode prog_12_method_21_code 43 = .ok (.idiv, 1) := by decide +kernel
theorem d_MO_readNumber_44 : decode prog_12_method_21_code 44 = .ok (.iadd, 1) := by decide +kernel
theorem d_MO_readNumber_45 : decode prog_12_method_21_code 45 = .ok (.aload_n 0, 1) := by decide +kernel
theorem d_MO_readNumber_46 : decode prog_12_method_21_code 46 = .ok (.getfield 131, 3) := by decide +kernel
theorem d_MO_readNumber_49 : decode prog_12_method_21_code 49 = .ok (.if_icmp .le 5, 3) := by decide +kernel
theorem d_MO_readNumber_52 : decode prog_12_method_21_code 52 = .ok (.lconst 0, 1) := by decide +kernel
theorem d_MO_readNumber_53 : decode prog_12_method_21_code 53 = .ok (.lreturn, 1) := by decide +kernel
theorem d_MO_readNumber_54 : decode prog_12_method_21_code 54 = .ok (.lconst 0, 1) := by decide +kernel
theorem d_MO_readNumber_55 : decode prog_12_method_21_code 55 = .ok (.lstore_n 2, 1) := by decide +kernel
theorem d_MO_readNumber_56 : decode prog_12_method_21_code 56 = .ok (.iconst 0, 1) := by decide +kernel
theorem d_MO_readNumber_57 : decode prog_12_method_21_code 57 = .ok (.istore 4, 2) := by decide +kernel
theorem d_MO_readNumber_59 : decode prog_12_method_21_code 59 = .ok (.iload 4, 2) := by decide +kernel
theorem d_MO_readNumber_61 : decode prog_12_method_21_code 61 = .ok (.aload_n 0, 1) := by decide +kernel
theorem d_MO_readNumber_62 : decode prog_12_method_21_code 62 = .ok (.getfield 39, 3) := by decide +kernel
theorem d_MO_readNumber_65 : decode prog_12_method_21_code 65 = .ok (.iload_n 1, 1) := by decide +kernel
theorem d_MO_readNumber_66 : decode prog_12_method_21_code 66 = .ok (.iaload, 1) := by decide +kernel
theorem d_MO_readNumber_67 : decode prog_12_method_21_code 67 = .ok (.if_icmp .ge 53, 3) := by decide +kernel
theorem d_MO_readNumber_70 : decode prog_12_method_21_code 70 = .ok (.aload_n 0, 1) := by decide +kernel
theorem d_MO_readNumber_71 : decode prog_12_method_21_code 71 = .ok (.getfield 39, 3) := by decide +kernel
theorem d_MO_readNumber_74 : decode prog_12_method_21_code 74 = .ok (.iload_n 1, 1) := by decide +kernel
theorem d_MO_readNumber_75 : decode prog_12_method_21_code 75 = .ok (.iconst 2, 1) := by decide +kernel
theorem d_MO_readNumber_76 : decode prog_12_method_21_code 76 = .ok (.iadd, 1) := by decide +kernel
theorem d_MO_readNumber_77 : decode prog_12_method_21_code 77 = .ok (.iload 4, 2) := by decide +kernel
theorem d_MO_readNumber_79 : decode prog_12_method_21_code 79 = .ok (.iconst 2, 1) := by decide +kernel
theorem d_MO_readNumber_80 : decode prog_12_method_21_code 80 = .ok (.idiv, 1) := by decide +kernel
theorem d_MO_readNumber_81 : decode prog_12_method_21_code 81 = .ok (.iadd, 1) := by decide +kernel
theorem d_MO_readNumber_82 : decode prog_12_method_21_code 82 = .ok (.iaload, 1) := by decide +kernel
theorem d_MO_readNumber_83 : decode prog_12_method_21_code 83 = .ok (.iconst 4, 1) := by decide +kernel
theorem d_MO_readNumber_84 : decode prog_12_method_21_code 84 = .ok (.iload 4, 2) := by decide +kernel
theorem d_MO_readNumber_86 : decode prog_12_method_21_code 86 = .ok (.iconst 2, 1) := by decide +kernel
theorem d_MO_readNumber_87 : decode prog_12_method_21_code 87 = .ok (.irem, 1) := by decide +kernel
theorem d_MO_readNumber_88 : decode prog_12_method_21_code 88 = .ok (.imul, 1) := by decide +kernel
theorem d_MO_readNumber_89 : decode prog_12_method_21_code 89 = .ok (.ishr, 1) := by decide +kernel
theorem d_MO_readNumber_90 : decode prog_12_method_21_code 90 = .ok (.bipush 15, 2) := by decide +kernel
theorem d_MO_readNumber_92 : decode prog_12_method_21_code 92 = .ok (.iand, 1) := by decide +kernel
theorem d_MO_readNumber_93 : decode prog_12_method_21_code 93 = .ok (.istore 5, 2) := by decide +kernel
theorem d_MO_readNumber_95 : decode prog_12_method_21_code 95 = .ok (.iload 5, 2) := by decide +kernel
theorem d_MO_readNumber_97 : decode prog_12_method_21_code 97 = .ok (.bipush 9, 2) := by decide +kernel
theorem d_MO_readNumber_99 : decode prog_12_method_21_code 99 = .ok (.if_icmp .le 5, 3) := by decide +kernel
theorem d_MO_readNumber_102 : decode prog_12_method_21_code 102 = .ok (.lconst 0, 1) := by decide +kernel
theorem d_MO_readNumber_103 : decode prog_12_method_21_code 103 = .ok (.lreturn, 1) := by decide +kernel
theorem d_MO_readNumber_104 : decode prog_12_method_21_code 104 = .ok (.lload_n 2, 1) := by decide +kernel
theorem d_MO_readNumber_105 : decode prog_12_method_21_code 105 = .ok (.ldc2_w 134, 3) := by decide +kernel
theorem d_MO_readNumber_108 : decode prog_12_method_21_code 108 = .ok (.lmul, 1) := by decide +kernel
theorem d_MO_readNumber_109 : decode prog_12_method_21_code 109 = .ok (.iload 5, 2) := by decide +kernel
theorem d_MO_readNumber_111 : decode prog_12_method_21_code 111 = .ok (.i2l, 1) := by decide +kernel
theorem d_MO_readNumber_112 : decode prog_12_method_21_code 112 = .ok (.ladd, 1) := by decide +kernel
theorem d_MO_readNumber_113 : decode prog_12_method_21_code 113 = .ok (.lstore_n 2, 1) := by decide +kernel
theorem d_MO_readNumber_114 : decode prog_12_method_21_code 114 = .ok (.iinc 4 1, 3) := by decide +kernel
theorem d_MO_readNumber_117 : decode prog_12_method_21_code 117 = .ok (.goto (-58), 3) := by decide +kernel
theorem d_MO_readNumber_120 : decode prog_12_method_21_code 120 = .ok (.lload_n 2, 1) := by decide +kernel
theorem d_MO_readNumber_121 : decode prog_12_method_21_code 121 = .ok (.lreturn, 1) := by decide +kernel
theorem d_MO_legal_0 : decode prog_12_method_22_code 0 = .ok (.aload_n 0, 1) := by decide +kernel
theorem d_MO_legal_1 : decode prog_12_method_22_code 1 = .ok (.getfield 131, 3) := by decide +kernel
theorem d_MO_legal_4 : decode prog_12_method_22_code 4 = .ok (.iconst 3, 1) := by decide +kernel
theorem d_MO_legal_5 : decode prog_12_method_22_code 5 = .ok (.if_icmp .ge 7, 3) := by decide +kernel
theorem d_MO_legal_8 : decode prog_12_method_22_code 8 = .ok (.lconst 0, 1) := by decide +kernel
theorem d_MO_legal_9 : decode prog_12_method_22_code 9 = .ok (.goto 8, 3) := by decide +kernel
theorem d_MO_legal_12 : decode prog_12_method_22_code 12 = .ok (.aload_n 0, 1) := by decide +kernel
theorem d_MO_legal_13 : decode prog_12_method_22_code 13 = .ok (.iconst 2, 1) := by decide +kernel
theorem d_MO_legal_14 : decode prog_12_method_22_code 14 = .ok (.invokevirtual 170, 3) := by decide +kernel
theorem d_MO_legal_17 : decode prog_12_method_22_code 17 = .ok (.lstore_n 1, 1) := by decide +kernel
theorem d_MO_legal_18 : decode prog_12_method_22_code 18 = .ok (.lload_n 1, 1) := by decide +kernel
theorem d_MO_legal_19 : decode prog_12_method_22_code 19 = .ok (.lconst 0, 1) := by decide +kernel
theorem d_MO_legal_20 : decode prog_12_method_22_code 20 = .ok (.lcmp, 1) := by decide +kernel
theorem d_MO_legal_21 : decode prog_12_method_22_code 21 = .ok (.ifCond .ne 7, 3) := by decide +kernel
theorem d_MO_legal_24 : decode prog_12_method_22_code 24 = .ok (.iconst 0, 1) := by decide +kernel
theorem d_MO_legal_25 : decode prog_12_method_22_code 25 = .ok (.goto 16, 3) := by decide +kernel
theorem d_MO_legal_28 : decode prog_12_method_22_code 28 = .ok (.bipush 7, 2) := by decide +kernel
theorem d_MO_legal_30 : decode prog_12_method_22_code 30 = .ok (.aload_n 0, 1) := by decide +kernel
theorem d_MO_legal_31 : decode prog_12_method_22_code 31 = .ok (.getfield 39, 3) := by decide +kernel
theorem d_MO_legal_34 : decode prog_12_method_22_code 34 = .ok (.iconst 2, 1) := by decide +kernel
theorem d_MO_legal_35 : decode prog_12_method_22_code 35 = .ok (.iaload, 1) := by decide +kernel
theorem d_MO_legal_36 : decode prog_12_method_22_code 36 = .ok (.iconst 1, 1) := by decide +kernel
theorem d_MO_legal_37 : decode prog_12_method_22_code 37 = .ok (.iadd, 1) := by decide +kernel
theorem d_MO_legal_38 : decode prog_12_method_22_code 38 = .ok (.iconst 2, 1) := by decide +kernel
theorem d_MO_legal_39 : decode prog_12_method_22_code 39 = .ok (.idiv, 1) := by decide +kernel
theorem d_MO_legal_40 : decode prog_12_method_22_code 40 = .ok (.iadd, 1) := by decide +kernel
theorem d_MO_legal_41 : decode prog_12_method_22_code 41 = .ok (.istore_n 3, 1) := by decide +kernel
theorem d_MO_legal_42 : decode prog_12_method_22_code 42 = .ok (.lload_n 1, 1) := by decide +kernel
theorem d_MO_legal_43 : decode prog_12_method_22_code 43 = .ok (.lconst 0, 1) := by decide +kernel
theorem d_MO_legal_44 : decode prog_12_method_22_code 44 = .ok (.lcmp, 1) := by decide +kernel
theorem d_MO_legal_45 : decode prog_12_method_22_code 45 = .ok (.ifCond .eq 43, 3) := by decide +kernel
theorem d_MO_legal_48 : decode prog_12_method_22_code 48 = .ok (.iload_n 3, 1) := by decide +kernel
theorem d_MO_legal_49 : decode prog_12_method_22_code 49 = .ok (.aload_n 0, 1) := by decide +kernel
theorem d_MO_legal_50 : decode prog_12_method_22_code 50 = .ok (.getfield 131, 3) := by decide +kernel
theorem d_MO_legal_53 : decode prog_12_method_22_code 53 = .ok (.if_icmp .ge 35, 3) := by decide +kernel
theorem d_MO_legal_56 : decode prog_12_method_22_code 56 = .ok (.aload_n 0, 1) := by decide +kernel
theorem d_MO_legal_57 : decode prog_12_method_22_code 57 = .ok (.getfield 39, 3) := by decide +kernel
theorem d_MO_legal_60 : decode prog_12_method_22_code 60 = .ok (.iload_n 3, 1) := by decide +kernel
theorem d_MO_legal_61 : decode prog_12_method_22_code 61 = .ok (.iaload, 1) := by decide +kernel
theorem d_MO_legal_62 : decode prog_12_method_22_code 62 = .ok (.sipush 160, 3) := by decide +kernel
theorem d_MO_legal_65 : decode prog_12_method_22_code 65 = .ok (.if_icmp .gt 23, 3) := by decide +kernel
theorem d_MO_legal_68 : decode prog_12_method_22_code 68 = .ok (.iload_n 3, 1) := by decide +kernel
theorem d_MO_legal_69 : decode prog_12_method_22_code 69 = .ok (.iconst 1, 1) := by decide +kernel
theorem d_MO_legal_70 : decode prog_12_method_22_code 70 = .ok (.iadd, 1) := by decide +kernel
theorem d_MO_legal_71 : decode prog_12_method_22_code 71 = .ok (.aload_n 0, 1) := by decide +kernel
theorem d_MO_legal_72 : decode prog_12_method_22_code 72 = .ok (.getfield 39, 3) := by decide +kernel
theorem d_MO_legal_75 : decode prog_12_method_22_code 75 = .ok (.iload_n 3, 1) := by decide +kernel
theorem d_MO_legal_76 : decode prog_12_method_22_code 76 = .ok (.iaload, 1) := by decide +kernel
theorem d_MO_legal_77 : decode prog_12_method_22_code 77 = .ok (.invokestatic 148, 3) := by decide +kernel
theorem d_MO_legal_80 : decode prog_12_method_22_code 80 = .ok (.iadd, 1) := by decide +kernel
theorem d_MO_legal_81 : decode prog_12_method_22_code 81 = .ok (.aload_n 0, 1) := by decide +kernel
theorem d_MO_legal_82 : decode prog_12_method_22_code 82 = .ok (.getfield 131, 3) := by decide +kernel
theorem d_MO_legal_85 : decode prog_12_method_22_code 85 = .ok (.if_icmp .eq 5, 3) := by decide +kernel
theorem d_MO_legal_88 : decode prog_12_method_22_code 88 = .ok (.iconst (-1), 1) := by decide +kernel
theorem d_MO_legal_89 : decode prog_12_method_22_code 89 = .ok (.ireturn, 1) := by decide +kernel
theorem d_MO_legal_90 : decode prog_12_method_22_code 90 = .ok (.aload_n 0, 1) := by decide +kernel
theorem d_MO_legal_91 : decode prog_12_method_22_code 91 = .ok (.getfield 39, 3) := by decide +kernel
theorem d_MO_legal_94 : decode prog_12_method_22_code 94 = .ok (.iconst 0, 1) := by decide +kernel
theorem d_MO_legal_95 : decode prog_12_method_22_code 95 = .ok (.iaload, 1) := by decide +kernel
theorem d_MO_legal_96 : decode prog_12_method_22_code 96 = .ok (.bipush 64, 2) := by decide +kernel
theorem d_MO_legal_98 : decode prog_12_method_22_code 98 = .ok (.iand, 1) := by decide +kernel
theorem d_MO_legal_99 : decode prog_12_method_22_code 99 = .ok (.ifCond .eq 7, 3) := by decide +kernel
theorem d_MO_legal_102 : decode prog_12_method_22_code 102 = .ok (.iconst 1, 1) := by decide +kernel
theorem d_MO_legal_103 : decode prog_12_method_22_code 103 = .ok (.goto 4, 3) := by decide +kernel
theorem d_MO_legal_106 : decode prog_12_method_22_code 106 = .ok (.iconst 0, 1) := by decide +kernel
theorem d_MO_legal_107 : decode prog_12_method_22_code 107 = .ok (.istore 4, 2) := by decide +kernel
theorem d_MO_legal_109 : decode prog_12_method_22_code 109 = .ok (.iload 4, 2) := by decide +kernel
theorem d_MO_legal_111 : decode prog_12_method_22_code 111 = .ok (.ifCond .eq 14, 3) := by decide +kernel
theorem d_MO_legal_114 : decode prog_12_method_22_code 114 = .ok (.aload_n 0, 1) := by decide +kernel
theorem d_MO_legal_115 : decode prog_12_method_22_code 115 = .ok (.getfield 39, 3) := by decide +kernel
theorem d_MO_legal_118 : decode prog_12_method_22_code 118 = .ok (.iload_n 3, 1) := by decide +kernel
theorem d_MO_legal_119 : decode prog_12_method_22_code 119 = .ok (.iaload, 1) := by decide +kernel
theorem d_MO_legal_120 : decode prog_12_method_22_code 120 = .ok (.bipush 7, 2) := by decide +kernel
theorem d_MO_legal_122 : decode prog_12_method_22_code 122 = .ok (.if_icmp .lt 17, 3) := by decide +kernel
theorem d_MO_legal_125 : decode prog_12_method_22_code 125 = .ok (.aload_n 0, 1) := by decide +kernel
theorem d_MO_legal_126 : decode prog_12_method_22_code 126 = .ok (.getfield 39, 3) := by decide +kernel
theorem d_MO_legal_129 : decode prog_12_method_22_code 129 = .ok (.iload_n 3, 1) := by decide +kernel
theorem d_MO_legal_130 : decode prog_12_method_22_code 130 = .ok (.iconst 1, 1) := by decide +kernel
theorem d_MO_legal_131 : decode prog_12_method_22_code 131 = .ok (.isub, 1) := by decide +kernel
theorem d_MO_legal_132 : decode prog_12_method_22_code 132 = .ok (.iaload, 1) := by decide +kernel
theorem d_MO_legal_133 : decode prog_12_method_22_code 133 = .ok (.sipush 143, 3) := by decide +kernel
theorem d_MO_legal_136 : decode prog_12_method_22_code 136 = .ok (.if_icmp .le 5, 3) := by decide +kernel
theorem d_MO_legal_139 : decode prog_12_method_22_code 139 = .ok (.iconst (-1), 1) := by decide +kernel
theorem d_MO_legal_140 : decode prog_12_method_22_code 140 = .ok (.ireturn, 1) := by decide +kernel
theorem d_MO_legal_141 : decode prog_12_method_22_code 141 = .ok (.iload 4, 2) := by decide +kernel
theorem d_MO_legal_143 : decode prog_12_method_22_code 143 = .ok (.ifCond .eq 64, 3) := by decide +kernel
theorem d_MO_legal_146 : decode prog_12_method_22_code 146 = .ok (.aload_n 0, 1) := by decide +kernel
theorem d_MO_legal_147 : decode prog_12_method_22_code 147 = .ok (.getfield 39, 3) := by decide +kernel
theorem d_MO_legal_150 : decode prog_12_method_22_code 150 = .ok (.iload_n 3, 1) := by decide +kernel
theorem d_MO_legal_151 : decode prog_12_method_22_code 151 = .ok (.iconst 5, 1) := by decide +kernel
theorem d_MO_legal_152 : decode prog_12_method_22_code 152 = .ok (.iadd, 1) := by decide +kernel
theorem d_MO_legal_153 : decode prog_12_method_22_code 153 = .ok (.iaload, 1) := by decide +kernel
theorem d_MO_legal_154 : decode prog_12_method_22_code 154 = .ok (.iconst 1, 1) := by decide +kernel
theorem d_MO_legal_155 : decode prog_12_method_22_code 155 = .ok (.if_icmp .lt 52, 3) := by decide +kernel
theorem d_MO_legal_158 : decode prog_12_method_22_code 158 = .ok (.aload_n 0, 1) := by decide +kernel
theorem d_MO_legal_159 : decode prog_12_method_22_code 159 = .ok (.getfield 39, 3) := by decide +kernel
theorem d_MO_legal_162 : decode prog_12_method_22_code 162 = .ok (.iload_n 3, 1) := by decide +kernel
theorem d_MO_legal_163 : decode prog_12_method_22_code 163 = .ok (.iconst 5, 1) := by decide +kernel
theorem d_MO_legal_164 : decode prog_12_method_22_code 164 = .ok (.iadd, 1) := by decide +kernel
theorem d_MO_legal_165 : decode prog_12_method_22_code 165 = .ok (.iaload, 1) := by decide +kernel
theorem d_MO_legal_166 : decode prog_12_method_22_code 166 = .ok (.iconst 3, 1) := by decide +kernel
theorem d_MO_legal_167 : decode prog_12_method_22_code 167 = .ok (.if_icmp .gt 40, 3) := by decide +kernel
theorem d_MO_legal_170 : decode prog_12_method_22_code 170 = .ok (.aload_n 0, 1) := by decide +kernel
theorem d_MO_legal_171 : decode prog_12_method_22_code 171 = .ok (.getfield 39, 3) := by decide +kernel
theorem d_MO_legal_174 : decode prog_12_method_22_code 174 = .ok (.iload_n 3, 1) := by decide +kernel
theorem d_MO_legal_175 : decode prog_12_method_22_code 175 = .ok (.bipush 6, 2) := by decide +kernel
theorem d_MO_legal_177 : decode prog_12_method_22_code 177 = .ok (.iadd, 1) := by decide +kernel
theorem d_MO_legal_178 : decode prog_12_method_22_code 178 = .ok (.iaload, 1) := by decide +kernel
theorem d_MO_legal_179 : decode prog_12_method_22_code 179 = .ok (.iconst 1, 1) := by decide +kernel
theorem d_MO_legal_180 : decode prog_12_method_22_code 180 = .ok (.if_icmp .lt 27, 3) := by decide +kernel
theorem d_MO_legal_183 : decode prog_12_method_22_code 183 = .ok (.aload_n 0, 1) := by decide +kernel
theorem d_MO_legal_184 : decode prog_12_method_22_code 184 = .ok (.getfield 39, 3) := by decide +kernel
theorem d_MO_legal_187 : decode prog_12_method_22_code 187 = .ok (.iload_n 3, 1) := by decide +kernel
theorem d_MO_legal_188 : decode prog_12_method_22_code 188 = .ok (.bipush 6, 2) := by decide +kernel
theorem d_MO_legal_190 : decode prog_12_method_22_code 190 = .ok (.iadd, 1) := by decide +kernel
theorem d_MO_legal_191 : decode prog_12_method_22_code 191 = .ok (.iaload, 1) := by decide +kernel
theorem d_MO_legal_192 : decode prog_12_method_22_code 192 = .ok (.aload_n 0, 1) := by decide +kernel
theorem d_MO_legal_193 : decode prog_12_method_22_code 193 = .ok (.getfield 39, 3) := by decide +kernel
theorem d_MO_legal_196 : decode prog_12_method_22_code 196 = .ok (.iload_n 3, 1) := by decide +kernel
theorem d_MO_legal_197 : decode prog_12_method_22_code 197 = .ok (.iconst 5, 1) := by decide +kernel
theorem d_MO_legal_198 : decode prog_12_method_22_code 198 = .ok (.iadd, 1) := by decide +kernel
theorem d_MO_legal_199 : decode prog_12_method_22_code 199 = .ok (.iaload, 1) := by decide +kernel
theorem d_MO_legal_200 : decode prog_12_method_22_code 200 = .ok (.if_icmp .gt 7, 3) := by decide +kernel
theorem d_MO_legal_203 : decode prog_12_method_22_code 203 = .ok (.iconst 1, 1) := by decide +kernel
theorem d_MO_legal_204 : decode prog_12_method_22_code 204 = .ok (.goto 4, 3) := by decide +kernel
theorem d_MO_legal_207 : decode prog_12_method_22_code 207 = .ok (.iconst 0, 1) := by decide +kernel
theorem d_MO_legal_208 : decode prog_12_method_22_code 208 = .ok (.istore 5, 2) := by decide +kernel
theorem d_MO_legal_210 : decode prog_12_method_22_code 210 = .ok (.aload_n 0, 1) := by decide +kernel
theorem d_MO_legal_211 : decode prog_12_method_22_code 211 = .ok (.iload_n 3, 1) := by decide +kernel
theorem d_MO_legal_212 : decode prog_12_method_22_code 212 = .ok (.iload 4, 2) := by decide +kernel
theorem d_MO_legal_214 : decode prog_12_method_22_code 214 = .ok (.invokevirtual 173, 3) := by decide +kernel
theorem d_MO_legal_217 : decode prog_12_method_22_code 217 = .ok (.iload 4, 2) := by decide +kernel
theorem d_MO_legal_219 : decode prog_12_method_22_code 219 = .ok (.ifCond .eq 8, 3) := by decide +kernel
theorem d_MO_legal_222 : decode prog_12_method_22_code 222 = .ok (.iload 5, 2) := by decide +kernel
theorem d_MO_legal_224 : decode prog_12_method_22_code 224 = .ok (.ifCond .eq 10, 3) := by decide +kernel
theorem d_MO_legal_227 : decode prog_12_method_22_code 227 = .ok (.aload_n 0, 1) := by decide +kernel
theorem d_MO_legal_228 : decode prog_12_method_22_code 228 = .ok (.invokevirtual 177, 3) := by decide +kernel
theorem d_MO_legal_231 : decode prog_12_method_22_code 231 = .ok (.ifCond .ne 5, 3) := by decide +kernel
theorem d_MO_legal_234 : decode prog_12_method_22_code 234 = .ok (.iconst (-1), 1) := by decide +kernel
theorem d_MO_legal_235 : decode prog_12_method_22_code 235 = .ok (.ireturn, 1) := by decide +kernel
theorem d_MO_legal_236 : decode prog_12_method_22_code 236 = .ok (.aload_n 0, 1) := by decide +kernel
theorem d_MO_legal_237 : decode prog_12_method_22_code 237 = .ok (.getfield 131, 3) := by decide +kernel
theorem d_MO_legal_240 : decode prog_12_method_22_code 240 = .ok (.istore 6, 2) := by decide +kernel
theorem d_MO_legal_242 : decode prog_12_method_22_code 242 = .ok (.iconst 0, 1) := by decide +kernel
theorem d_MO_legal_243 : decode prog_12_method_22_code 243 = .ok (.invokestatic 159, 3) := by decide +kernel
theorem d_MO_legal_246 : decode prog_12_method_22_code 246 = .ok (.istore 7, 2) := by decide +kernel
theorem d_MO_legal_248 : decode prog_12_method_22_code 248 = .ok (.aload_n 0, 1) := by decide +kernel
theorem d_MO_legal_249 : decode prog_12_method_22_code 249 = .ok (.aload_n 0, 1) := by decide +kernel
theorem d_MO_legal_250 : decode prog_12_method_22_code 250 = .ok (.getfield 39, 3) := by decide +kernel
theorem d_MO_legal_253 : decode prog_12_method_22_code 253 = .ok (.iconst 0, 1) := by decide +kernel
theorem d_MO_legal_254 : decode prog_12_method_22_code 254 = .ok (.iaload, 1) := by decide +kernel
theorem d_MO_legal_255 : decode prog_12_method_22_code 255 = .ok (.bipush 32, 2) := by decide +kernel
theorem d_MO_legal_257 : decode prog_12_method_22_code 257 = .ok (.iand, 1) := by decide +kernel
theorem d_MO_legal_258 : decode prog_12_method_22_code 258 = .ok (.ifCond .eq 7, 3) := by decide +kernel
theorem d_MO_legal_261 : decode prog_12_method_22_code 261 = .ok (.iconst 1, 1) := by decide +kernel
theorem d_MO_legal_262 : decode prog_12_method_22_code 262 = .ok (.goto 4, 3) := by decide +kernel
theorem d_MO_legal_265 : decode prog_12_method_22_code 265 = .ok (.iconst 0, 1) := by decide +kernel
theorem d_MO_legal_266 : decode prog_12_method_22_code 266 = .ok (.aload_n 0, 1) := by decide +kernel
theorem d_MO_legal_267 : decode prog_12_method_22_code 267 = .ok (.getfield 39, 3) := by decide +kernel
theorem d_MO_legal_270 : decode prog_12_method_22_code 270 = .ok (.iconst 1, 1) := by decide +kernel
theorem d_MO_legal_271 : decode prog_12_method_22_code 271 = .ok (.iaload, 1) := by decide +kernel
theorem d_MO_legal_272 : decode prog_12_method_22_code 272 = .ok (.lload_n 1, 1) := by decide +kernel
theorem d_MO_legal_273 : decode prog_12_method_22_code 273 = .ok (.aload_n 0, 1) := by decide +kernel
theorem d_MO_legal_274 : decode prog_12_method_22_code 274 = .ok (.getfield 39, 3) := by decide +kernel
theorem d_MO_legal_277 : decode prog_12_method_22_code 277 = .ok (.iload_n 3, 1) := by decide +kernel
theorem d_MO_legal_278 : decode prog_12_method_22_code 278 = .ok (.iconst 1, 1) := by decide +kernel
theorem d_MO_legal_279 : decode prog_12_method_22_code 279 = .ok (.isub, 1) := by decide +kernel
theorem d_MO_legal_280 : decode prog_12_method_22_code 280 = .ok (.iaload, 1) := by decide +kernel
theorem d_MO_legal_281 : decode prog_12_method_22_code 281 = .ok (.iconst 0, 1) := by decide +kernel
theorem d_MO_legal_282 : decode prog_12_method_22_code 282 = .ok (.aload_n 0, 1) := by decide +kernel
theorem d_MO_legal_283 : decode prog_12_method_22_code 283 = .ok (.getfield 124, 3) := by decide +kernel
theorem d_MO_legal_286 : decode prog_12_method_22_code 286 = .ok (.iload 4, 2) := by decide +kernel
theorem d_MO_legal_288 : decode prog_12_method_22_code 288 = .ok (.ifCond .eq 14, 3) := by decide +kernel
theorem d_MO_legal_291 : decode prog_12_method_22_code 291 = .ok (.aload_n 0, 1) := by decide +kernel
theorem d_MO_legal_292 : decode prog_12_method_22_code 292 = .ok (.getfield 39, 3) := by decide +kernel
theorem d_MO_legal_295 : decode prog_12_method_22_code 295 = .ok (.iload_n 3, 1) := by decide +kernel
theorem d_MO_legal_296 : decode prog_12_method_22_code 296 = .ok (.iconst 4, 1) := by decide +kernel
theorem d_MO_legal_297 : decode prog_12_method_22_code 297 = .ok (.iadd, 1) := by decide +kernel
theorem d_MO_legal_298 : decode prog_12_method_22_code 298 = .ok (.iaload, 1) := by decide +kernel
theorem d_MO_legal_299 : decode prog_12_method_22_code 299 = .ok (.goto 4, 3) := by decide +kernel
theorem d_MO_legal_302 : decode prog_12_method_22_code 302 = .ok (.iconst (-1), 1) := by decide +kernel
theorem d_MO_legal_303 : decode prog_12_method_22_code 303 = .ok (.iload 4, 2) := by decide +kernel
theorem d_MO_legal_305 : decode prog_12_method_22_code 305 = .ok (.ifCond .eq 14, 3) := by decide +kernel
theorem d_MO_legal_308 : decode prog_12_method_22_code 308 = .ok (.aload_n 0, 1) := by decide +kernel
theorem d_MO_legal_309 : decode prog_12_method_22_code 309 = .ok (.getfield 39, 3) := by decide +kernel
theorem d_MO_legal_312 : decode prog_12_method_22_code 312 = .ok (.iload_n 3, 1) := by decide +kernel
theorem d_MO_legal_313 : decode prog_12_method_22_code 313 = .ok (.iconst 5, 1) := by decide +kernel
theorem d_MO_legal_314 : decode prog_12_method_22_code 314 = .ok (.iadd, 1) := by decide +kernel
theorem d_MO_legal_315 : decode prog_12_method_22_code 315 = .ok (.iaload, 1) := by decide +kernel
theorem d_MO_legal_316 : decode prog_12_method_22_code 316 = .ok (.goto 4, 3) := by decide +kernel
theorem d_MO_legal_319 : decode prog_12_method_22_code 319 = .ok (.iconst 0, 1) := by decide +kernel
theorem d_MO_legal_320 : decode prog_12_method_22_code 320 = .ok (.iload 4, 2) := by decide +kernel
theorem d_MO_legal_322 : decode prog_12_method_22_code 322 = .ok (.ifCond .eq 15, 3) := by decide +kernel
theorem d_MO_legal_325 : decode prog_12_method_22_code 325 = .ok (.aload_n 0, 1) := by decide +kernel
theorem d_MO_legal_326 : decode prog_12_method_22_code 326 = .ok (.getfield 39, 3) := by decide +kernel
theorem d_MO_legal_329 : decode prog_12_method_22_code 329 = .ok (.iload_n 3, 1) := by decide +kernel
theorem d_MO_legal_330 : decode prog_12_method_22_code 330 = .ok (.bipush 6, 2) := by decide +kernel
theorem d_MO_legal_332 : decode prog_12_method_22_code 332 = .ok (.iadd, 1) := by decide +kernel
theorem d_MO_legal_333 : decode prog_12_method_22_code 333 = .ok (.iaload, 1) := by decide +kernel
theorem d_MO_legal_334 : decode prog_12_method_22_code 334 = .ok (.goto 4, 3) := by decide +kernel
theorem d_MO_legal_337 : decode prog_12_method_22_code 337 = .ok (.iconst 0, 1) := by decide +kernel
theorem d_MO_legal_338 : decode prog_12_method_22_code 338 = .ok (.invokevirtual 181, 3) := by decide +kernel
theorem d_MO_legal_341 : decode prog_12_method_22_code 341 = .ok (.aload_n 0, 1) := by decide +kernel
theorem d_MO_legal_342 : decode prog_12_method_22_code 342 = .ok (.getfield 131, 3) := by decide +kernel
theorem d_MO_legal_345 : decode prog_12_method_22_code 345 = .ok (.iload 6, 2) := by decide +kernel
theorem d_MO_legal_347 : decode prog_12_method_22_code 347 = .ok (.if_icmp .ne 7, 3) := by decide +kernel
theorem d_MO_legal_350 : decode prog_12_method_22_code 350 = .ok (.iconst 1, 1) := by decide +kernel
theorem d_MO_legal_351 : decode prog_12_method_22_code 351 = .ok (.goto 4, 3) := by decide +kernel
theorem d_MO_legal_354 : decode prog_12_method_22_code 354 = .ok (.iconst 0, 1) := by decide +kernel
theorem d_MO_legal_355 : decode prog_12_method_22_code 355 = .ok (.istore 8, 2) := by decide +kernel
theorem d_MO_legal_357 : decode prog_12_method_22_code 357 = .ok (.iconst 0, 1) := by decide +kernel
theorem d_MO_legal_358 : decode prog_12_method_22_code 358 = .ok (.istore 9, 2) := by decide +kernel
theorem d_MO_legal_360 : decode prog_12_method_22_code 360 = .ok (.iload 9, 2) := by decide +kernel
theorem d_MO_legal_362 : decode prog_12_method_22_code 362 = .ok (.iload 6, 2) := by decide +kernel
theorem d_MO_legal_364 : decode prog_12_method_22_code 364 = .ok (.if_icmp .ge 45, 3) := by decide +kernel
theorem d_MO_legal_367 : decode prog_12_method_22_code 367 = .ok (.iload 8, 2) := by decide +kernel
theorem d_MO_legal_369 : decode prog_12_method_22_code 369 = .ok (.ifCond .eq 31, 3) := by decide +kernel
theorem d_MO_legal_372 : decode prog_12_method_22_code 372 = .ok (.aload_n 0, 1) := by decide +kernel
theorem d_MO_legal_373 : decode prog_12_method_22_code 373 = .ok (.getfield 39, 3) := by decide +kernel
theorem d_MO_legal_376 : decode prog_12_method_22_code 376 = .ok (.iload 9, 2) := by decide +kernel
theorem d_MO_legal_378 : decode prog_12_method_22_code 378 = .ok (.iaload, 1) := by decide +kernel
theorem d_MO_legal_379 : decode prog_12_method_22_code 379 = .ok (.aload_n 0, 1) := by decide +kernel
theorem d_MO_legal_380 : decode prog_12_method_22_code 380 = .ok (.getfield 42, 3) := by decide +kernel
theorem d_MO_legal_383 : decode prog_12_method_22_code 383 = .ok (.sipush 160, 3) := by decide +kernel
theorem d_MO_legal_386 : decode prog_12_method_22_code 386 = .ok (.iload 7, 2) := by decide +kernel
theorem d_MO_legal_388 : decode prog_12_method_22_code 388 = .ok (.imul, 1) := by decide +kernel
theorem d_MO_legal_389 : decode prog_12_method_22_code 389 = .ok (.iload 9, 2) := by decide +kernel
theorem d_MO_legal_391 : decode prog_12_method_22_code 391 = .ok (.iadd, 1) := by decide +kernel
theorem d_MO_legal_392 : decode prog_12_method_22_code 392 = .ok (.iaload, 1) := by decide +kernel
theorem d_MO_legal_393 : decode prog_12_method_22_code 393 = .ok (.if_icmp .ne 7, 3) := by decide +kernel
theorem d_MO_legal_396 : decode prog_12_method_22_code 396 = .ok (.iconst 1, 1) := by decide +kernel
theorem d_MO_legal_397 : decode prog_12_method_22_code 397 = .ok (.goto 4, 3) := by decide +kernel
theorem d_MO_legal_400 : decode prog_12_method_22_code 400 = .ok (.iconst 0, 1) := by decide +kernel
theorem d_MO_legal_401 : decode prog_12_method_22_code 401 = .ok (.istore 8, 2) := by decide +kernel
theorem d_MO_legal_403 : decode prog_12_method_22_code 403 = .ok (.iinc 9 1, 3) := by decide +kernel
theorem d_MO_legal_406 : decode prog_12_method_22_code 406 = .ok (.goto (-46), 3) := by decide +kernel
theorem d_MO_legal_409 : decode prog_12_method_22_code 409 = .ok (.iload 8, 2) := by decide +kernel
theorem d_MO_legal_411 : decode prog_12_method_22_code 411 = .ok (.ifCond .eq 7, 3) := by decide +kernel
theorem d_MO_legal_414 : decode prog_12_method_22_code 414 = .ok (.iload_n 3, 1) := by decide +kernel
theorem d_MO_legal_415 : decode prog_12_method_22_code 415 = .ok (.goto 4, 3) := by decide +kernel
theorem d_MO_legal_418 : decode prog_12_method_22_code 418 = .ok (.iconst (-1), 1) := by decide +kernel
theorem d_MO_legal_419 : decode prog_12_method_22_code 419 = .ok (.ireturn, 1) := by decide +kernel
theorem d_MO_isDevice_0 : decode prog_12_method_23_code 0 = .ok (.iload_n 0, 1) := by decide +kernel
theorem d_MO_isDevice_1 : decode prog_12_method_23_code 1 = .ok (.ifCond .lt 12, 3) := by decide +kernel
theorem d_MO_isDevice_4 : decode prog_12_method_23_code 4 = .ok (.iload_n 0, 1) := by decide +kernel
theorem d_MO_isDevice_5 : decode prog_12_method_23_code 5 = .ok (.iconst 4, 1) := by decide +kernel
theorem d_MO_isDevice_6 : decode prog_12_method_23_code 6 = .ok (.if_icmp .ge 7, 3) := by decide +kernel
theorem d_MO_isDevice_9 : decode prog_12_method_23_code 9 = .ok (.iconst 1, 1) := by decide +kernel
theorem d_MO_isDevice_10 : decode prog_12_method_23_code 10 = .ok (.goto 4, 3) := by decide +kernel
theorem d_MO_isDevice_13 : decode prog_12_method_23_code 13 = .ok (.iconst 0, 1) := by decide +kernel
theorem d_MO_isDevice_14 : decode prog_12_method_23_code 14 = .ok (.ireturn, 1) := by decide +kernel
theorem d_MO_isNumber_0 : decode prog_12_method_24_code 0 = .ok (.lload_n 0, 1) := by decide +kernel
theorem d_MO_isNumber_1 : decode prog_12_method_24_code 1 = .ok (.lconst 1, 1) := by decide +kernel
theorem d_MO_isNumber_2 : decode prog_12_method_24_code 2 = .ok (.lcmp, 1) := by decide +kernel
theorem d_MO_isNumber_3 : decode prog_12_method_24_code 3 = .ok (.ifCond .lt 15, 3) := by decide +kernel
theorem d_MO_isNumber_6 : decode prog_12_method_24_code 6 = .ok (.lload_n 0, 1) := by decide +kernel
theorem d_MO_isNumber_7 : decode prog_12_method_24_code 7 = .ok (.ldc2_w 185, 3) := by decide +kernel
theorem d_MO_isNumber_10 : decode prog_12_method_24_code 10 = .ok (.lcmp, 1) := by decide +kernel
theorem d_MO_isNumber_11 : decode prog_12_method_24_code 11 = .ok (.ifCond .gt 7, 3) := by decide +kernel
theorem d_MO_isNumber_14 : decode prog_12_method_24_code 14 = .ok (.iconst 1, 1) := by decide +kernel
theorem d_MO_isNumber_15 : decode prog_12_method_24_code 15 = .ok (.goto 4, 3) := by decide +kernel
theorem d_MO_isNumber_18 : decode prog_12_method_24_code 18 = .ok (.iconst 0, 1) := by decide +kernel
theorem d_MO_isNumber_19 : decode prog_12_method_24_code 19 = .ok (.ireturn, 1) := by decide +kernel
theorem d_MO_register_0 : decode prog_12_method_25_code 0 = .ok (.iload_n 1, 1) := by decide +kernel
theorem d_MO_register_1 : decode prog_12_method_25_code 1 = .ok (.invokestatic 187, 3) := by decide +kernel
theorem d_MO_register_4 : decode prog_12_method_25_code 4 = .ok (.ifCond .eq 10, 3) := by decide +kernel
theorem d_MO_register_7 : decode prog_12_method_25_code 7 = .ok (.lload_n 2, 1) := by decide +kernel
theorem d_MO_register_8 : decode prog_12_method_25_code 8 = .ok (.invokestatic 191, 3) := by decide +kernel
theorem d_MO_register_11 : decode prog_12_method_25_code 11 = .ok (.ifCond .ne 5, 3) := by decide +kernel
theorem d_MO_register_14 : decode prog_12_method_25_code 14 = .ok (.iconst 0, 1) := by decide +kernel
theorem d_MO_register_15 : decode prog_12_method_25_code 15 = .ok (.ireturn, 1) := by decide +kernel
theorem d_MO_register_16 : decode prog_12_method_25_code 16 = .ok (.aload_n 0, 1) := by decide +kernel
theorem d_MO_register_17 : decode prog_12_method_25_code 17 = .ok (.getfield 16, 3) := by decide +kernel
theorem d_MO_register_20 : decode prog_12_method_25_code 20 = .ok (.iload_n 1, 1) := by decide +kernel
theorem d_MO_register_21 : decode prog_12_method_25_code 21 = .ok (.lload_n 2, 1) := by decide +kernel
theorem d_MO_register_22 : decode prog_12_method_25_code 22 = .ok (.lastore, 1) := by decide +kernel
theorem d_MO_register_23 : decode prog_12_method_25_code 23 = .ok (.iconst 1, 1) := by decide +kernel
theorem d_MO_register_24 : decode prog_12_method_25_code 24 = .ok (.ireturn, 1) := by decide +kernel
theorem d_MO_power1_0 : decode prog_12_method_26_code 0 = .ok (.iload_n 1, 1) := by decide +kernel
theorem d_MO_power1_1 : decode prog_12_method_26_code 1 = .ok (.invokestatic 187, 3) := by decide +kernel
theorem d_MO_power1_4 : decode prog_12_method_26_code 4 = .ok (.ifCond .ne 5, 3) := by decide +kernel
theorem d_MO_power1_7 : decode prog_12_method_26_code 7 = .ok (.iconst 0, 1) := by decide +kernel
theorem d_MO_power1_8 : decode prog_12_method_26_code 8 = .ok (.ireturn, 1) := by decide +kernel
theorem d_MO_power1_9 : decode prog_12_method_26_code 9 = .ok (.aload_n 0, 1) := by decide +kernel
theorem d_MO_power1_10 : decode prog_12_method_26_code 10 = .ok (.getfield 20, 3) := by decide +kernel
theorem d_MO_power1_13 : decode prog_12_method_26_code 13 = .ok (.iload_n 1, 1) := by decide +kernel
theorem d_MO_power1_14 : decode prog_12_method_26_code 14 = .ok (.iload_n 2, 1) := by decide +kernel
theorem d_MO_power1_15 : decode prog_12_method_26_code 15 = .ok (.bastore, 1) := by decide +kernel
theorem d_MO_power1_16 : decode prog_12_method_26_code 16 = .ok (.iconst 1, 1) := by decide +kernel
theorem d_MO_power1_17 : decode prog_12_method_26_code 17 = .ok (.ireturn, 1) := by decide +kernel
theorem d_MO_type_0 : decode prog_12_method_27_code 0 = .ok (.iload_n 2, 1) := by decide +kernel
theorem d_MO_type_1 : decode prog_12_method_27_code 1 = .ok (.iconst 1, 1) := by decide +kernel
theorem d_MO_type_2 : decode prog_12_method_27_code 2 = .ok (.if_icmp .lt 22, 3) := by decide +kernel
theorem d_MO_type_5 : decode prog_12_method_27_code 5 = .ok (.iload_n 2, 1) := by decide +kernel
theorem d_MO_type_6 : decode prog_12_method_27_code 6 = .ok (.sipush 160, 3) := by decide +kernel
theorem d_MO_type_9 : decode prog_12_method_27_code 9 = .ok (.if_icmp .gt 15, 3) := by decide +kernel
theorem d_MO_type_12 : decode prog_12_method_27_code 12 = .ok (.aload_n 0, 1) := by decide +kernel
theorem d_MO_type_13 : decode prog_12_method_27_code 13 = .ok (.getfield 195, 3) := by decide +kernel
theorem d_MO_type_16 : decode prog_12_method_27_code 16 = .ok (.iload_n 2, 1) := by decide +kernel
theorem d_MO_type_17 : decode prog_12_method_27_code 17 = .ok (.iadd, 1) := by decide +kernel
theorem d_MO_type_18 : decode prog_12_method_27_code 18 = .ok (.sipush 480, 3) := by decide +kernel
theorem d_MO_type_21 : decode prog_12_method_27_code 21 = .ok (.if_icmp .le 5, 3) := by decide +kernel
theorem d_MO_type_24 : decode prog_12_method_27_code 24 = .ok (.iconst 0, 1) := by decide +kernel
theorem d_MO_type_25 : decode prog_12_method_27_code 25 = .ok (.ireturn, 1) := by decide +kernel
theorem d_MO_type_26 : decode prog_12_method_27_code 26 = .ok (.iconst 0, 1) := by decide +kernel
theorem d_MO_type_27 : decode prog_12_method_27_code 27 = .ok (.istore_n 3, 1) := by decide +kernel
theorem d_MO_type_28 : decode prog_12_method_27_code 28 = .ok (.iload_n 3, 1) := by decide +kernel
theorem d_MO_type_29 : decode prog_12_method_27_code 29 = .ok (.iload_n 2, 1) := by decide +kernel
theorem d_MO_type_30 : decode prog_12_method_27_code 30 = .ok (.if_icmp .ge 29, 3) := by decide +kernel
theorem d_MO_type_33 : decode prog_12_method_27_code 33 = .ok (.aload_n 0, 1) := by decide +kernel
theorem d_MO_type_34 : decode prog_12_method_27_code 34 = .ok (.getfield 7, 3) := by decide +kernel
theorem d_MO_type_37 : decode prog_12_method_27_code 37 = .ok (.aload_n 0, 1) := by decide +kernel
theorem d_MO_type_38 : decode prog_12_method_27_code 38 = .ok (.getfield 195, 3) := by decide +kernel
theorem d_MO_type_41 : decode prog_12_method_27_code 41 = .ok (.iload_n 1, 1) := by decide +kernel
theorem d_MO_type_42 : decode prog_12_method_27_code 42 = .ok (.iastore, 1) := by decide +kernel
theorem d_MO_type_43 : decode prog_12_method_27_code 43 = .ok (.aload_n 0, 1) := by decide +kernel
theorem d_MO_type_44 : decode prog_12_method_27_code 44 = .ok (.dup, 1) := by decide +kernel
theorem d_MO_type_45 : decode prog_12_method_27_code 45 = .ok (.getfield 195, 3) := by decide +kernel
theorem d_MO_type_48 : decode prog_12_method_27_code 48 = .ok (.iconst 1, 1) := by decide +kernel
theorem d_MO_type_49 : decode prog_12_method_27_code 49 = .ok (.iadd, 1) := by decide +kernel
theorem d_MO_type_50 : decode prog_12_method_27_code 50 = .ok (.putfield 195, 3) := by decide +kernel
theorem d_MO_type_53 : decode prog_12_method_27_code 53 = .ok (.iinc 3 1, 3) := by decide +kernel
theorem d_MO_type_56 : decode prog_12_method_27_code 56 = .ok (.goto (-28), 3) := by decide +kernel
theorem d_MO_type_59 : decode prog_12_method_27_code 59 = .ok (.iconst 1, 1) := by decide +kernel
theorem d_MO_type_60 : decode prog_12_method_27_code 60 = .ok (.ireturn, 1) := by decide +kernel
theorem d_MO_wipe_0 : decode prog_12_method_28_code 0 = .ok (.aload_n 0, 1) := by decide +kernel
theorem d_MO_wipe_1 : decode prog_12_method_28_code 1 = .ok (.iconst 0, 1) := by decide +kernel
theorem d_MO_wipe_2 : decode prog_12_method_28_code 2 = .ok (.putfield 195, 3) := by decide +kernel
theorem d_MO_wipe_5 : decode prog_12_method_28_code 5 = .ok (.return_, 1) := by decide +kernel