theorem d_Mod_init_0 : decode b_Mod_init 0 = .ok (.aload_n 0, 1) := by decide +kernel
theorem d_Mod_init_1 : decode b_Mod_init 1 = .ok (.invokespecial 1, 3) := by decide +kernel
theorem d_Mod_init_4 : decode b_Mod_init 4 = .ok (.aload_n 0, 1) := by decide +kernel
theorem d_Mod_init_5 : decode b_Mod_init 5 = .ok (.iconst 3, 1) := by decide +kernel
theorem d_Mod_init_6 : decode b_Mod_init 6 = .ok (.newarray .int, 2) := by decide +kernel
theorem d_Mod_init_8 : decode b_Mod_init 8 = .ok (.putfield 7, 3) := by decide +kernel
theorem d_Mod_init_11 : decode b_Mod_init 11 = .ok (.aload_n 0, 1) := by decide +kernel
theorem d_Mod_init_12 : decode b_Mod_init 12 = .ok (.iconst 3, 1) := by decide +kernel
theorem d_Mod_init_13 : decode b_Mod_init 13 = .ok (.newarray .int, 2) := by decide +kernel
theorem d_Mod_init_15 : decode b_Mod_init 15 = .ok (.putfield 13, 3) := by decide +kernel
theorem d_Mod_init_18 : decode b_Mod_init 18 = .ok (.aload_n 0, 1) := by decide +kernel
theorem d_Mod_init_19 : decode b_Mod_init 19 = .ok (.bipush 24, 2) := by decide +kernel
theorem d_Mod_init_21 : decode b_Mod_init 21 = .ok (.newarray .int, 2) := by decide +kernel
theorem d_Mod_init_23 : decode b_Mod_init 23 = .ok (.putfield 16, 3) := by decide +kernel
theorem d_Mod_init_26 : decode b_Mod_init 26 = .ok (.aload_n 0, 1) := by decide +kernel
theorem d_Mod_init_27 : decode b_Mod_init 27 = .ok (.bipush 24, 2) := by decide +kernel
theorem d_Mod_init_29 : decode b_Mod_init 29 = .ok (.newarray .int, 2) := by decide +kernel
theorem d_Mod_init_31 : decode b_Mod_init 31 = .ok (.putfield 19, 3) := by decide +kernel
theorem d_Mod_init_34 : decode b_Mod_init 34 = .ok (.aload_n 0, 1) := by decide +kernel
theorem d_Mod_init_35 : decode b_Mod_init 35 = .ok (.bipush 24, 2) := by decide +kernel
theorem d_Mod_init_37 : decode b_Mod_init 37 = .ok (.newarray .int, 2) := by decide +kernel
theorem d_Mod_init_39 : decode b_Mod_init 39 = .ok (.putfield 22, 3) := by decide +kernel
theorem d_Mod_init_42 : decode b_Mod_init 42 = .ok (.aload_n 0, 1) := by decide +kernel
theorem d_Mod_init_43 : decode b_Mod_init 43 = .ok (.bipush 24, 2) := by decide +kernel
theorem d_Mod_init_45 : decode b_Mod_init 45 = .ok (.newarray .int, 2) := by decide +kernel
theorem d_Mod_init_47 : decode b_Mod_init 47 = .ok (.putfield 25, 3) := by decide +kernel
theorem d_Mod_init_50 : decode b_Mod_init 50 = .ok (.aload_n 0, 1) := by decide +kernel
theorem d_Mod_init_51 : decode b_Mod_init 51 = .ok (.bipush 24, 2) := by decide +kernel
theorem d_Mod_init_53 : decode b_Mod_init 53 = .ok (.newarray .int, 2) := by decide +kernel
theorem d_Mod_init_55 : decode b_Mod_init 55 = .ok (.putfield 28, 3) := by decide +kernel
theorem d_Mod_init_58 : decode b_Mod_init 58 = .ok (.aload_n 0, 1) := by decide +kernel
theorem d_Mod_init_59 : decode b_Mod_init 59 = .ok (.bipush 72, 2) := by decide +kernel
theorem d_Mod_init_61 : decode b_Mod_init 61 = .ok (.newarray .int, 2) := by decide +kernel
theorem d_Mod_init_63 : decode b_Mod_init 63 = .ok (.putfield 31, 3) := by decide +kernel
theorem d_Mod_init_66 : decode b_Mod_init 66 = .ok (.aload_n 0, 1) := by decide +kernel
theorem d_Mod_init_67 : decode b_Mod_init 67 = .ok (.bipush 24, 2) := by decide +kernel
theorem d_Mod_init_69 : decode b_Mod_init 69 = .ok (.newarray .int, 2) := by decide +kernel
theorem d_Mod_init_71 : decode b_Mod_init 71 = .ok (.putfield 34, 3) := by decide +kernel
theorem d_Mod_init_74 : decode b_Mod_init 74 = .ok (.aload_n 0, 1) := by decide +kernel
theorem d_Mod_init_75 : decode b_Mod_init 75 = .ok (.sipush 576, 3) := by decide +kernel
theorem d_Mod_init_78 : decode b_Mod_init 78 = .ok (.newarray .int, 2) := by decide +kernel
theorem d_Mod_init_80 : decode b_Mod_init 80 = .ok (.putfield 37, 3) := by decide +kernel
theorem d_Mod_init_83 : decode b_Mod_init 83 = .ok (.aload_n 0, 1) := by decide +kernel
theorem d_Mod_init_84 : decode b_Mod_init 84 = .ok (.bipush 25, 2) := by decide +kernel
theorem d_Mod_init_86 : decode b_Mod_init 86 = .ok (.newarray .int, 2) := by decide +kernel
theorem d_Mod_init_88 : decode b_Mod_init 88 = .ok (.putfield 40, 3) := by decide +kernel
theorem d_Mod_init_91 : decode b_Mod_init 91 = .ok (.aload_n 0, 1) := by decide +kernel
theorem d_Mod_init_92 : decode b_Mod_init 92 = .ok (.sipush 528, 3) := by decide +kernel
theorem d_Mod_init_95 : decode b_Mod_init 95 = .ok (.newarray .int, 2) := by decide +kernel
theorem d_Mod_init_97 : decode b_Mod_init 97 = .ok (.putfield 43, 3) := by decide +kernel
theorem d_Mod_init_100 : decode b_Mod_init 100 = .ok (.aload_n 0, 1) := by decide +kernel
theorem d_Mod_init_101 : decode b_Mod_init 101 = .ok (.sipush 700, 3) := by decide +kernel
theorem d_Mod_init_104 : decode b_Mod_init 104 = .ok (.newarray .int, 2) := by decide +kernel
theorem d_Mod_init_106 : decode b_Mod_init 106 = .ok (.putfield 46, 3) := by decide +kernel
theorem d_Mod_init_109 : decode b_Mod_init 109 = .ok (.aload_n 0, 1) := by decide +kernel
theorem d_Mod_init_110 : decode b_Mod_init 110 = .ok (.iconst (-1), 1) := by decide +kernel
theorem d_Mod_init_111 : decode b_Mod_init 111 = .ok (.putfield 49, 3) := by decide +kernel
theorem d_Mod_init_114 : decode b_Mod_init 114 = .ok (.aload_n 0, 1) := by decide +kernel
theorem d_Mod_init_115 : decode b_Mod_init 115 = .ok (.bipush 24, 2) := by decide +kernel
theorem d_Mod_init_117 : decode b_Mod_init 117 = .ok (.newarray .int, 2) := by decide +kernel
theorem d_Mod_init_119 : decode b_Mod_init 119 = .ok (.putfield 53, 3) := by decide +kernel
theorem d_Mod_init_122 : decode b_Mod_init 122 = .ok (.return_, 1) := by decide +kernel
theorem d_Mod_within_0 : decode b_Mod_within 0 = .ok (.iload_n 0, 1) := by decide +kernel
theorem d_Mod_within_1 : decode b_Mod_within 1 = .ok (.iload_n 1, 1) := by decide +kernel
theorem d_Mod_within_2 : decode b_Mod_within 2 = .ok (.if_icmp .lt 12, 3) := by decide +kernel
theorem d_Mod_within_5 : decode b_Mod_within 5 = .ok (.iload_n 0, 1) := by decide +kernel
theorem d_Mod_within_6 : decode b_Mod_within 6 = .ok (.iload_n 2, 1) := by decide +kernel
theorem d_Mod_within_7 : decode b_Mod_within 7 = .ok (.if_icmp .gt 7, 3) := by decide +kernel
theorem d_Mod_within_10 : decode b_Mod_within 10 = .ok (.iconst 1, 1) := by decide +kernel
theorem d_Mod_within_11 : decode b_Mod_within 11 = .ok (.goto 4, 3) := by decide +kernel
theorem d_Mod_within_14 : decode b_Mod_within 14 = .ok (.iconst 0, 1) := by decide +kernel
theorem d_Mod_within_15 : decode b_Mod_within 15 = .ok (.ireturn, 1) := by decide +kernel
theorem d_Mod_op_0 : decode b_Mod_op 0 = .ok (.iload_n 1, 1) := by decide +kernel
theorem d_Mod_op_1 : decode b_Mod_op 1 = .ok (.iconst 0, 1) := by decide +kernel
theorem d_Mod_op_2 : decode b_Mod_op 2 = .ok (.iconst 3, 1) := by decide +kernel
theorem d_Mod_op_3 : decode b_Mod_op 3 = .ok (.invokestatic 56, 3) := by decide +kernel
theorem d_Mod_op_6 : decode b_Mod_op 6 = .ok (.ifCond .eq 21, 3) := by decide +kernel
theorem d_Mod_op_9 : decode b_Mod_op 9 = .ok (.iload_n 2, 1) := by decide +kernel
theorem d_Mod_op_10 : decode b_Mod_op 10 = .ok (.iconst 1, 1) := by decide +kernel
theorem d_Mod_op_11 : decode b_Mod_op 11 = .ok (.bipush 63, 2) := by decide +kernel
theorem d_Mod_op_13 : decode b_Mod_op 13 = .ok (.invokestatic 56, 3) := by decide +kernel
theorem d_Mod_op_16 : decode b_Mod_op 16 = .ok (.ifCond .eq 11, 3) := by decide +kernel
theorem d_Mod_op_19 : decode b_Mod_op 19 = .ok (.aload_n 0, 1) := by decide +kernel
theorem d_Mod_op_20 : decode b_Mod_op 20 = .ok (.getfield 60, 3) := by decide +kernel
theorem d_Mod_op_23 : decode b_Mod_op 23 = .ok (.iconst 3, 1) := by decide +kernel
theorem d_Mod_op_24 : decode b_Mod_op 24 = .ok (.if_icmp .ne 5, 3) := by decide +kernel
theorem d_Mod_op_27 : decode b_Mod_op 27 = .ok (.iconst 0, 1) := by decide +kernel
theorem d_Mod_op_28 : decode b_Mod_op 28 = .ok (.ireturn, 1) := by decide +kernel
theorem d_Mod_op_29 : decode b_Mod_op 29 = .ok (.aload_n 0, 1) := by decide +kernel
theorem d_Mod_op_30 : decode b_Mod_op 30 = .ok (.getfield 7, 3) := by decide +kernel
theorem d_Mod_op_33 : decode b_Mod_op 33 = .ok (.aload_n 0, 1) := by decide +kernel
theorem d_Mod_op_34 : decode b_Mod_op 34 = .ok (.getfield 60, 3) := by decide +kernel
theorem d_Mod_op_37 : decode b_Mod_op 37 = .ok (.iload_n 1, 1) := by decide +kernel
theorem d_Mod_op_38 : decode b_Mod_op 38 = .ok (.iastore, 1) := by decide +kernel
theorem d_Mod_op_39 : decode b_Mod_op 39 = .ok (.aload_n 0, 1) := by decide +kernel
theorem d_Mod_op_40 : decode b_Mod_op 40 = .ok (.getfield 13, 3) := by decide +kernel
theorem d_Mod_op_43 : decode b_Mod_op 43 = .ok (.aload_n 0, 1) := by decide +kernel
theorem d_Mod_op_44 : decode b_Mod_op 44 = .ok (.getfield 60, 3) := by decide +kernel
theorem d_Mod_op_47 : decode b_Mod_op 47 = .ok (.iload_n 2, 1) := by decide +kernel
theorem d_Mod_op_48 : decode b_Mod_op 48 = .ok (.iastore, 1) := by decide +kernel
theorem d_Mod_op_49 : decode b_Mod_op 49 = .ok (.aload_n 0, 1) := by decide +kernel
theorem d_Mod_op_50 : decode b_Mod_op 50 = .ok (.dup, 1) := by decide +kernel
theorem d_Mod_op_51 : decode b_Mod_op 51 = .ok (.getfield 60, 3) := by decide +kernel
theorem d_Mod_op_54 : decode b_Mod_op 54 = .ok (.iconst 1, 1) := by decide +kernel
theorem d_Mod_op_55 : decode b_Mod_op 55 = .ok (.iadd, 1) := by decide +kernel
theorem d_Mod_op_56 : decode b_Mod_op 56 = .ok (.putfield 60, 3) := by decide +kernel
theorem d_Mod_op_59 : decode b_Mod_op 59 = .ok (.iconst 1, 1) := by decide +kernel
theorem d_Mod_op_60 : decode b_Mod_op 60 = .ok (.ireturn, 1) := by decide +kernel
theorem d_Mod_base_0 : decode b_Mod_base 0 = .ok (.iload_n 1, 1) := by decide +kernel
theorem d_Mod_base_1 : decode b_Mod_base 1 = .ok (.iconst 0, 1) := by decide +kernel
theorem d_Mod_base_2 : decode b_Mod_base 2 = .ok (.bipush 15, 2) := by decide +kernel
theorem d_Mod_base_4 : decode b_Mod_base 4 = .ok (.invokestatic 56, 3) := by decide +kernel
theorem d_Mod_base_7 : decode b_Mod_base 7 = .ok (.ifCond .eq 12, 3) := by decide +kernel
theorem d_Mod_base_10 : decode b_Mod_base 10 = .ok (.aload_n 0, 1) := by decide +kernel
theorem d_Mod_base_11 : decode b_Mod_base 11 = .ok (.getfield 63, 3) := by decide +kernel
theorem d_Mod_base_14 : decode b_Mod_base 14 = .ok (.bipush 24, 2) := by decide +kernel
theorem d_Mod_base_16 : decode b_Mod_base 16 = .ok (.if_icmp .ne 5, 3) := by decide +kernel
theorem d_Mod_base_19 : decode b_Mod_base 19 = .ok (.iconst 0, 1) := by decide +kernel
theorem d_Mod_base_20 : decode b_Mod_base 20 = .ok (.ireturn, 1) := by decide +kernel
theorem d_Mod_base_21 : decode b_Mod_base 21 = .ok (.aload_n 0, 1) := by decide +kernel
theorem d_Mod_base_22 : decode b_Mod_base 22 = .ok (.getfield 16, 3) := by decide +kernel
theorem d_Mod_base_25 : decode b_Mod_base 25 = .ok (.aload_n 0, 1) := by decide +kernel
theorem d_Mod_base_26 : decode b_Mod_base 26 = .ok (.getfield 63, 3) := by decide +kernel
theorem d_Mod_base_29 : decode b_Mod_base 29 = .ok (.iload_n 1, 1) := by decide +kernel
theorem d_Mod_base_30 : decode b_Mod_base 30 = .ok (.iastore, 1) := by decide +kernel
theorem d_Mod_base_31 : decode b_Mod_base 31 = .ok (.aload_n 0, 1) := by decide +kernel
theorem d_Mod_base_32 : decode b_Mod_base 32 = .ok (.dup, 1) := by decide +kernel
theorem d_Mod_base_33 : decode b_Mod_base 33 = .ok (.getfield 63, 3) := by decide +kernel
theorem d_Mod_base_36 : decode b_Mod_base 36 = .ok (.iconst 1, 1) := by decide +kernel
theorem d_Mod_base_37 : decode b_Mod_base 37 = .ok (.iadd, 1) := by decide +kernel
theorem d_Mod_base_38 : decode b_Mod_base 38 = .ok (.putfield 63, 3) := by decide +kernel
theorem d_Mod_base_41 : decode b_Mod_base 41 = .ok (.iconst 1, 1) := by decide +kernel
theorem d_Mod_base_42 : decode b_Mod_base 42 = .ok (.ireturn, 1) := by decide +kernel
theorem d_Mod_scrap_0 : decode b_Mod_scrap 0 = .ok (.aload_n 0, 1) := by decide +kernel
theorem d_Mod_scrap_1 : decode b_Mod_scrap 1 = .ok (.iconst 0, 1) := by decide +kernel
theorem d_Mod_scrap_2 : decode b_Mod_scrap 2 = .ok (.putfield 60, 3) := by decide +kernel
theorem d_Mod_scrap_5 : decode b_Mod_scrap 5 = .ok (.aload_n 0, 1) := by decide +kernel
theorem d_Mod_scrap_6 : decode b_Mod_scrap 6 = .ok (.iconst 0, 1) := by decide +kernel
theorem d_Mod_scrap_7 : decode b_Mod_scrap 7 = .ok (.putfield 63, 3) := by decide +kernel
theorem d_Mod_scrap_10 : decode b_Mod_scrap 10 = .ok (.return_, 1) := by decide +kernel
theorem d_Mod_sum_0 : decode b_Mod_sum 0 = .ok (.iconst 0, 1) := by decide +kernel
theorem d_Mod_sum_1 : decode b_Mod_sum 1 = .ok (.istore 4, 2) := by decide +kernel
theorem d_Mod_sum_3 : decode b_Mod_sum 3 = .ok (.iconst 0, 1) := by decide +kernel
theorem d_Mod_sum_4 : decode b_Mod_sum 4 = .ok (.istore 5, 2) := by decide +kernel
theorem d_Mod_sum_6 : decode b_Mod_sum 6 = .ok (.iload 5, 2) := by decide +kernel
theorem d_Mod_sum_8 : decode b_Mod_sum 8 = .ok (.aload_n 0, 1) := by decide +kernel
theorem d_Mod_sum_9 : decode b_Mod_sum 9 = .ok (.getfield 60, 3) := by decide +kernel
theorem d_Mod_sum_12 : decode b_Mod_sum 12 = .ok (.if_icmp .ge 59, 3) := by decide +kernel
theorem d_Mod_sum_15 : decode b_Mod_sum 15 = .ok (.aload_n 0, 1) := by decide +kernel
theorem d_Mod_sum_16 : decode b_Mod_sum 16 = .ok (.getfield 7, 3) := by decide +kernel
theorem d_Mod_sum_19 : decode b_Mod_sum 19 = .ok (.iload 5, 2) := by decide +kernel
theorem d_Mod_sum_21 : decode b_Mod_sum 21 = .ok (.iaload, 1) := by decide +kernel
theorem d_Mod_sum_22 : decode b_Mod_sum 22 = .ok (.iload_n 1, 1) := by decide +kernel
theorem d_Mod_sum_23 : decode b_Mod_sum 23 = .ok (.if_icmp .eq 25, 3) := by decide +kernel
theorem d_Mod_sum_26 : decode b_Mod_sum 26 = .ok (.aload_n 0, 1) := by decide +kernel
theorem d_Mod_sum_27 : decode b_Mod_sum 27 = .ok (.getfield 7, 3) := by decide +kernel
theorem d_Mod_sum_30 : decode b_Mod_sum 30 = .ok (.iload 5, 2) := by decide +kernel
theorem d_Mod_sum_32 : decode b_Mod_sum 32 = .ok (.iaload, 1) := by decide +kernel
theorem d_Mod_sum_33 : decode b_Mod_sum 33 = .ok (.iload_n 2, 1) := by decide +kernel
theorem d_Mod_sum_34 : decode b_Mod_sum 34 = .ok (.if_icmp .eq 14, 3) := by decide +kernel
theorem d_Mod_sum_37 : decode b_Mod_sum 37 = .ok (.aload_n 0, 1) := by decide +kernel
theorem d_Mod_sum_38 : decode b_Mod_sum 38 = .ok (.getfield 7, 3) := by decide +kernel
theorem d_Mod_sum_41 : decode b_Mod_sum 41 = .ok (.iload 5, 2) := by decide +kernel
theorem d_Mod_sum_43 : decode b_Mod_sum 43 = .ok (.iaload, 1) := by decide +kernel
theorem d_Mod_sum_44 : decode b_Mod_sum 44 = .ok (.iload_n 3, 1) := by decide +kernel
theorem d_Mod_sum_45 : decode b_Mod_sum 45 = .ok (.if_icmp .ne 16, 3) := by decide +kernel
theorem d_Mod_sum_48 : decode b_Mod_sum 48 = .ok (.iload 4, 2) := by decide +kernel
theorem d_Mod_sum_50 : decode b_Mod_sum 50 = .ok (.aload_n 0, 1) := by decide +kernel
theorem d_Mod_sum_51 : decode b_Mod_sum 51 = .ok (.getfield 13, 3) := by decide +kernel
theorem d_Mod_sum_54 : decode b_Mod_sum 54 = .ok (.iload 5, 2) := by decide +kernel
theorem d_Mod_sum_56 : decode b_Mod_sum 56 = .ok (.iaload, 1) := by decide +kernel
theorem d_Mod_sum_57 : decode b_Mod_sum 57 = .ok (.iadd, 1) := by decide +kernel
theorem d_Mod_sum_58 : decode b_Mod_sum 58 = .ok (.goto 5, 3) := by decide +kernel
theorem d_Mod_sum_61 : decode b_Mod_sum 61 = .ok (.iload 4, 2) := by decide +kernel
theorem d_Mod_sum_63 : decode b_Mod_sum 63 = .ok (.istore 4, 2) := by decide +kernel
theorem d_Mod_sum_65 : decode b_Mod_sum 65 = .ok (.iinc 5 1, 3) := by decide +kernel
theorem d_Mod_sum_68 : decode b_Mod_sum 68 = .ok (.goto (-62), 3) := by decide +kernel
theorem d_Mod_sum_71 : decode b_Mod_sum 71 = .ok (.iload 4, 2) := by decide +kernel
theorem d_Mod_sum_73 : decode b_Mod_sum 73 = .ok (.ireturn, 1) := by decide +kernel
theorem d_Mod_add_0 : decode b_Mod_add 0 = .ok (.aload_n 0, 1) := by decide +kernel
theorem d_Mod_add_1 : decode b_Mod_add 1 = .ok (.getfield 66, 3) := by decide +kernel
theorem d_Mod_add_4 : decode b_Mod_add 4 = .ok (.ifCond .ne 12, 3) := by decide +kernel
theorem d_Mod_add_7 : decode b_Mod_add 7 = .ok (.aload_n 0, 1) := by decide +kernel
theorem d_Mod_add_8 : decode b_Mod_add 8 = .ok (.getfield 70, 3) := by decide +kernel
theorem d_Mod_add_11 : decode b_Mod_add 11 = .ok (.bipush 24, 2) := by decide +kernel
theorem d_Mod_add_13 : decode b_Mod_add 13 = .ok (.if_icmp .ne 5, 3) := by decide +kernel
theorem d_Mod_add_16 : decode b_Mod_add 16 = .ok (.iconst (-1), 1) := by decide +kernel
theorem d_Mod_add_17 : decode b_Mod_add 17 = .ok (.ireturn, 1) := by decide +kernel
theorem d_Mod_add_18 : decode b_Mod_add 18 = .ok (.aload_n 0, 1) := by decide +kernel
theorem d_Mod_add_19 : decode b_Mod_add 19 = .ok (.iconst 0, 1) := by decide +kernel
theorem d_Mod_add_20 : decode b_Mod_add 20 = .ok (.iconst 2, 1) := by decide +kernel
theorem d_Mod_add_21 : decode b_Mod_add 21 = .ok (.iconst 3, 1) := by decide +kernel
theorem d_Mod_add_22 : decode b_Mod_add 22 = .ok (.invokevirtual 73, 3) := by decide +kernel
theorem d_Mod_add_25 : decode b_Mod_add 25 = .ok (.istore_n 3, 1) := by decide +kernel
theorem d_Mod_add_26 : decode b_Mod_add 26 = .ok (.aload_n 0, 1) := by decide +kernel
theorem d_Mod_add_27 : decode b_Mod_add 27 = .ok (.getfield 60, 3) := by decide +kernel
theorem d_Mod_add_30 : decode b_Mod_add 30 = .ok (.ifCond .eq 21, 3) := by decide +kernel
theorem d_Mod_add_33 : decode b_Mod_add 33 = .ok (.iload_n 3, 1) := by decide +kernel
theorem d_Mod_add_34 : decode b_Mod_add 34 = .ok (.ifCond .eq 17, 3) := by decide +kernel
theorem d_Mod_add_37 : decode b_Mod_add 37 = .ok (.aload_n 0, 1) := by decide +kernel
theorem d_Mod_add_38 : decode b_Mod_add 38 = .ok (.iconst 0, 1) := by decide +kernel
theorem d_Mod_add_39 : decode b_Mod_add 39 = .ok (.iconst 1, 1) := by decide +kernel
theorem d_Mod_add_40 : decode b_Mod_add 40 = .ok (.iconst 1, 1) := by decide +kernel
theorem d_Mod_add_41 : decode b_Mod_add 41 = .ok (.invokevirtual 73, 3) := by decide +kernel
theorem d_Mod_add_44 : decode b_Mod_add 44 = .ok (.aload_n 0, 1) := by decide +kernel
theorem d_Mod_add_45 : decode b_Mod_add 45 = .ok (.getfield 63, 3) := by decide +kernel
theorem d_Mod_add_48 : decode b_Mod_add 48 = .ok (.if_icmp .eq 6, 3) := by decide +kernel
theorem d_Mod_add_51 : decode b_Mod_add 51 = .ok (.bipush (-2), 2) := by decide +kernel
theorem d_Mod_add_53 : decode b_Mod_add 53 = .ok (.ireturn, 1) := by decide +kernel
theorem d_Mod_add_54 : decode b_Mod_add 54 = .ok (.iload_n 1, 1) := by decide +kernel
theorem d_Mod_add_55 : decode b_Mod_add 55 = .ok (.iconst 0, 1) := by decide +kernel
theorem d_Mod_add_56 : decode b_Mod_add 56 = .ok (.iconst 1, 1) := by decide +kernel
theorem d_Mod_add_57 : decode b_Mod_add 57 = .ok (.invokestatic 56, 3) := by decide +kernel
theorem d_Mod_add_60 : decode b_Mod_add 60 = .ok (.ifCond .eq 23, 3) := by decide +kernel
theorem d_Mod_add_63 : decode b_Mod_add 63 = .ok (.iload_n 2, 1) := by decide +kernel
theorem d_Mod_add_64 : decode b_Mod_add 64 = .ok (.iconst 0, 1) := by decide +kernel
theorem d_Mod_add_65 : decode b_Mod_add 65 = .ok (.sipush 4095, 3) := by decide +kernel
theorem d_Mod_add_68 : decode b_Mod_add 68 = .ok (.invokestatic 56, 3) := by decide +kernel
theorem d_Mod_add_71 : decode b_Mod_add 71 = .ok (.ifCond .eq 12, 3) := by decide +kernel
theorem d_Mod_add_74 : decode b_Mod_add 74 = .ok (.iload_n 2, 1) := by decide +kernel
theorem d_Mod_add_75 : decode b_Mod_add 75 = .ok (.iload_n 3, 1) := by decide +kernel
theorem d_Mod_add_76 : decode b_Mod_add 76 = .ok (.iadd, 1) := by decide +kernel
theorem d_Mod_add_77 : decode b_Mod_add 77 = .ok (.sipush 4096, 3) := by decide +kernel
theorem d_Mod_add_80 : decode b_Mod_add 80 = .ok (.if_icmp .le 6, 3) := by decide +kernel
theorem d_Mod_add_83 : decode b_Mod_add 83 = .ok (.bipush (-3), 2) := by decide +kernel
theorem d_Mod_add_85 : decode b_Mod_add 85 = .ok (.ireturn, 1) := by decide +kernel
theorem d_Mod_add_86 : decode b_Mod_add 86 = .ok (.aload_n 0, 1) := by decide +kernel
theorem d_Mod_add_87 : decode b_Mod_add 87 = .ok (.getfield 70, 3) := by decide +kernel
theorem d_Mod_add_90 : decode b_Mod_add 90 = .ok (.iconst 1, 1) := by decide +kernel
theorem d_Mod_add_91 : decode b_Mod_add 91 = .ok (.isub, 1) := by decide +kernel
theorem d_Mod_add_92 : decode b_Mod_add 92 = .ok (.istore 4, 2) := by decide +kernel
theorem d_Mod_add_94 : decode b_Mod_add 94 = .ok (.aload_n 0, 1) := by decide +kernel
theorem d_Mod_add_95 : decode b_Mod_add 95 = .ok (.getfield 70, 3) := by decide +kernel
theorem d_Mod_add_98 : decode b_Mod_add 98 = .ok (.ifCond .le 39, 3) := by decide +kernel
theorem d_Mod_add_101 : decode b_Mod_add 101 = .ok (.iload_n 1, 1) := by decide +kernel
theorem d_Mod_add_102 : decode b_Mod_add 102 = .ok (.aload_n 0, 1) := by decide +kernel
theorem d_Mod_add_103 : decode b_Mod_add 103 = .ok (.getfield 19, 3) := by decide +kernel
theorem d_Mod_add_106 : decode b_Mod_add 106 = .ok (.iload 4, 2) := by decide +kernel
theorem d_Mod_add_108 : decode b_Mod_add 108 = .ok (.iaload, 1) := by decide +kernel
theorem d_Mod_add_109 : decode b_Mod_add 109 = .ok (.if_icmp .lt 25, 3) := by decide +kernel
theorem d_Mod_add_112 : decode b_Mod_add 112 = .ok (.iload_n 1, 1) := by decide +kernel
theorem d_Mod_add_113 : decode b_Mod_add 113 = .ok (.aload_n 0, 1) := by decide +kernel
theorem d_Mod_add_114 : decode b_Mod_add 114 = .ok (.getfield 19, 3) := by decide +kernel
theorem d_Mod_add_117 : decode b_Mod_add 117 = .ok (.iload 4, 2) := by decide +kernel
theorem d_Mod_add_119 : decode b_Mod_add 119 = .ok (.iaload, 1) := by decide +kernel
theorem d_Mod_add_120 : decode b_Mod_add 120 = .ok (.if_icmp .ne 17, 3) := by decide +kernel
theorem d_Mod_add_123 : decode b_Mod_add 123 = .ok (.iload_n 2, 1) := by decide +kernel
theorem d_Mod_add_124 : decode b_Mod_add 124 = .ok (.aload_n 0, 1) := by decide +kernel
theorem d_Mod_add_125 : decode b_Mod_add 125 = .ok (.getfield 22, 3) := by decide +kernel
theorem d_Mod_add_128 : decode b_Mod_add 128 = .ok (.iload 4, 2) := by decide +kernel
theorem d_Mod_add_130 : decode b_Mod_add 130 = .ok (.iaload, 1) := by decide +kernel
theorem d_Mod_add_131 : decode b_Mod_add 131 = .ok (.if_icmp .ge 6, 3) := by decide +kernel
theorem d_Mod_add_134 : decode b_Mod_add 134 = .ok (.bipush (-4), 2) := by decide +kernel
theorem d_Mod_add_136 : decode b_Mod_add 136 = .ok (.ireturn, 1) := by decide +kernel
theorem d_Mod_add_137 : decode b_Mod_add 137 = .ok (.aload_n 0, 1) := by decide +kernel
theorem d_Mod_add_138 : decode b_Mod_add 138 = .ok (.getfield 19, 3) := by decide +kernel
theorem d_Mod_add_141 : decode b_Mod_add 141 = .ok (.aload_n 0, 1) := by decide +kernel
theorem d_Mod_add_142 : decode b_Mod_add 142 = .ok (.getfield 70, 3) := by decide +kernel
theorem d_Mod_add_145 : decode b_Mod_add 145 = .ok (.iload_n 1, 1) := by decide +kernel
theorem d_Mod_add_146 : decode b_Mod_add 146 = .ok (.iastore, 1) := by decide +kernel
theorem d_Mod_add_147 : decode b_Mod_add 147 = .ok (.aload_n 0, 1) := by decide +kernel
theorem d_Mod_add_148 : decode b_Mod_add 148 = .ok (.getfield 22, 3) := by decide +kernel
theorem d_Mod_add_151 : decode b_Mod_add 151 = .ok (.aload_n 0, 1) := by decide +kernel
theorem d_Mod_add_152 : decode b_Mod_add 152 = .ok (.getfield 70, 3) := by decide +kernel
theorem d_Mod_add_155 : decode b_Mod_add 155 = .ok (.iload_n 2, 1) := by decide +kernel
theorem d_Mod_add_156 : decode b_Mod_add 156 = .ok (.iastore, 1) := by decide +kernel
theorem d_Mod_add_157 : decode b_Mod_add 157 = .ok (.aload_n 0, 1) := by decide +kernel
theorem d_Mod_add_158 : decode b_Mod_add 158 = .ok (.getfield 25, 3) := by decide +kernel
theorem d_Mod_add_161 : decode b_Mod_add 161 = .ok (.aload_n 0, 1) := by decide +kernel
theorem d_Mod_add_162 : decode b_Mod_add 162 = .ok (.getfield 70, 3) := by decide +kernel
theorem d_Mod_add_165 : decode b_Mod_add 165 = .ok (.iload_n 2, 1) := by decide +kernel
theorem d_Mod_add_166 : decode b_Mod_add 166 = .ok (.iload_n 3, 1) := by decide +kernel
theorem d_Mod_add_167 : decode b_Mod_add 167 = .ok (.iadd, 1) := by decide +kernel
theorem d_Mod_add_168 : decode b_Mod_add 168 = .ok (.iastore, 1) := by decide +kernel
theorem d_Mod_add_169 : decode b_Mod_add 169 = .ok (.aload_n 0, 1) := by decide +kernel
theorem d_Mod_add_170 : decode b_Mod_add 170 = .ok (.getfield 28, 3) := by decide +kernel
theorem d_Mod_add_173 : decode b_Mod_add 173 = .ok (.aload_n 0, 1) := by decide +kernel
theorem d_Mod_add_174 : decode b_Mod_add 174 = .ok (.getfield 70, 3) := by decide +kernel
theorem d_Mod_add_177 : decode b_Mod_add 177 = .ok (.aload_n 0, 1) := by decide +kernel
theorem d_Mod_add_178 : decode b_Mod_add 178 = .ok (.getfield 60, 3) := by decide +kernel
theorem d_Mod_add_181 : decode b_Mod_add 181 = .ok (.iastore, 1) := by decide +kernel
theorem d_Mod_add_182 : decode b_Mod_add 182 = .ok (.aload_n 0, 1) := by decide +kernel
theorem d_Mod_add_183 : decode b_Mod_add 183 = .ok (.getfield 34, 3) := by decide +kernel
theorem d_Mod_add_186 : decode b_Mod_add 186 = .ok (.aload_n 0, 1) := by decide +kernel
theorem d_Mod_add_187 : decode b_Mod_add 187 = .ok (.getfield 70, 3) := by decide +kernel
theorem d_Mod_add_190 : decode b_Mod_add 190 = .ok (.aload_n 0, 1) := by decide +kernel
theorem d_Mod_add_191 : decode b_Mod_add 191 = .ok (.getfield 63, 3) := by decide +kernel
theorem d_Mod_add_194 : decode b_Mod_add 194 = .ok (.iastore, 1) := by decide +kernel
theorem d_Mod_add_195 : decode b_Mod_add 195 = .ok (.iconst 0, 1) := by decide +kernel
theorem d_Mod_add_196 : decode b_Mod_add 196 = .ok (.istore 5, 2) := by decide +kernel
theorem d_Mod_add_198 : decode b_Mod_add 198 = .ok (.iload 5, 2) := by decide +kernel
theorem d_Mod_add_200 : decode b_Mod_add 200 = .ok (.aload_n 0, 1) := by decide +kernel
theorem d_Mod_add_201 : decode b_Mod_add 201 = .ok (.getfield 60, 3) := by decide +kernel
theorem d_Mod_add_204 : decode b_Mod_add 204 = .ok (.if_icmp .ge 40, 3) := by decide +kernel
theorem d_Mod_add_207 : decode b_Mod_add 207 = .ok (.aload_n 0, 1) := by decide +kernel
theorem d_Mod_add_208 : decode b_Mod_add 208 = .ok (.getfield 31, 3) := by decide +kernel
theorem d_Mod_add_211 : decode b_Mod_add 211 = .ok (.iconst 3, 1) := by decide +kernel
theorem d_Mod_add_212 : decode b_Mod_add 212 = .ok (.aload_n 0, 1) := by decide +kernel
theorem d_Mod_add_213 : decode b_Mod_add 213 = .ok (.getfield 70, 3) := by decide +kernel
theorem d_Mod_add_216 : decode b_Mod_add 216 = .ok (.imul, 1) := by decide +kernel
theorem d_Mod_add_217 : decode b_Mod_add 217 = .ok (.iload 5, 2) := by decide +kernel
theorem d_Mod_add_219 : decode b_Mod_add 219 = .ok (.iadd, 1) := by decide +kernel
theorem d_Mod_add_220 : decode b_Mod_add 220 = .ok (.iconst 4, 1) := by decide +kernel
theorem d_Mod_add_221 : decode b_Mod_add 221 = .ok (.aload_n 0, 1) := by decide +kernel
theorem d_Mod_add_222 : decode b_Mod_add 222 = .ok (.getfield 13, 3) := by decide +kernel
theorem d_Mod_add_225 : decode b_Mod_add 225 = .ok (.iload 5, 2) := by decide +kernel
theorem d_Mod_add_227 : decode b_Mod_add 227 = .ok (.iaload, 1) := by decide +kernel
theorem d_Mod_add_228 : decode b_Mod_add 228 = .ok (.imul, 1) := by decide +kernel
theorem d_Mod_add_229 : decode b_Mod_add 229 = .ok (.aload_n 0, 1) := by decide +kernel
theorem d_Mod_add_230 : decode b_Mod_add 230 = .ok (.getfield 7, 3) := by decide +kernel
theorem d_Mod_add_233 : decode b_Mod_add 233 = .ok (.iload 5, 2) := by decide +kernel
theorem d_Mod_add_235 : decode b_Mod_add 235 = .ok (.iaload, 1) := by decide +kernel
theorem d_Mod_add_236 : decode b_Mod_add 236 = .ok (.iadd, 1) := by decide +kernel
theorem d_Mod_add_237 : decode b_Mod_add 237 = .ok (.iastore, 1) := by decide +kernel
theorem d_Mod_add_238 : decode b_Mod_add 238 = .ok (.iinc 5 1, 3) := by decide +kernel
theorem d_Mod_add_241 : decode b_Mod_add 241 = .ok (.goto (-43), 3) := by decide +kernel
theorem d_Mod_add_244 : decode b_Mod_add 244 = .ok (.iconst 0, 1) := by decide +kernel
theorem d_Mod_add_245 : decode b_Mod_add 245 = .ok (.istore 5, 2) := by decide +kernel
theorem d_Mod_add_247 : decode b_Mod_add 247 = .ok (.iload 5, 2) := by decide +kernel
theorem d_Mod_add_249 : decode b_Mod_add 249 = .ok (.aload_n 0, 1) := by decide +kernel
theorem d_Mod_add_250 : decode b_Mod_add 250 = .ok (.getfield 63, 3) := by decide +kernel
theorem d_Mod_add_253 : decode b_Mod_add 253 = .ok (.if_icmp .ge 31, 3) := by decide +kernel
theorem d_Mod_add_256 : decode b_Mod_add 256 = .ok (.aload_n 0, 1) := by decide +kernel
theorem d_Mod_add_257 : decode b_Mod_add 257 = .ok (.getfield 37, 3) := by decide +kernel
theorem d_Mod_add_260 : decode b_Mod_add 260 = .ok (.bipush 24, 2) := by decide +kernel
theorem d_Mod_add_262 : decode b_Mod_add 262 = .ok (.aload_n 0, 1) := by decide +kernel
theorem d_Mod_add_263 : decode b_Mod_add 263 = .ok (.getfield 70, 3) := by decide +kernel
theorem d_Mod_add_266 : decode b_Mod_add 266 = .ok (.imul, 1) := by decide +kernel
theorem d_Mod_add_267 : decode b_Mod_add 267 = .ok (.iload 5, 2) := by decide +kernel
theorem d_Mod_add_269 : decode b_Mod_add 269 = .ok (.iadd, 1) := by decide +kernel
theorem d_Mod_add_270 : decode b_Mod_add 270 = .ok (.aload_n 0, 1) := by decide +kernel
theorem d_Mod_add_271 : decode b_Mod_add 271 = .ok (.getfield 16, 3) := by decide +kernel
theorem d_Mod_add_274 : decode b_Mod_add 274 = .ok (.iload 5, 2) := by decide +kernel
theorem d_Mod_add_276 : decode b_Mod_add 276 = .ok (.iaload, 1) := by decide +kernel
theorem d_Mod_add_277 : decode b_Mod_add 277 = .ok (.iastore, 1) := by decide +kernel
theorem d_Mod_add_278 : decode b_Mod_add 278 = .ok (.iinc 5 1, 3) := by decide +kernel
theorem d_Mod_add_281 : decode b_Mod_add 281 = .ok (.goto (-34), 3) := by decide +kernel
theorem d_Mod_add_284 : decode b_Mod_add 284 = .ok (.aload_n 0, 1) := by decide +kernel
theorem d_Mod_add_285 : decode b_Mod_add 285 = .ok (.invokevirtual 77, 3) := by decide +kernel
theorem d_Mod_add_288 : decode b_Mod_add 288 = .ok (.aload_n 0, 1) := by decide +kernel
theorem d_Mod_add_289 : decode b_Mod_add 289 = .ok (.dup, 1) := by decide +kernel
theorem d_Mod_add_290 : decode b_Mod_add 290 = .ok (.getfield 70, 3) := by decide +kernel
theorem d_Mod_add_293 : decode b_Mod_add 293 = .ok (.iconst 1, 1) := by decide +kernel
theorem d_Mod_add_294 : decode b_Mod_add 294 = .ok (.iadd, 1) := by decide +kernel
theorem d_Mod_add_295 : decode b_Mod_add 295 = .ok (.putfield 70, 3) := by decide +kernel
theorem d_Mod_add_298 : decode b_Mod_add 298 = .ok (.aload_n 0, 1) := by decide +kernel
theorem d_Mod_add_299 : decode b_Mod_add 299 = .ok (.getfield 70, 3) := by decide +kernel
theorem d_Mod_add_302 : decode b_Mod_add 302 = .ok (.iconst 1, 1) := by decide +kernel
theorem d_Mod_add_303 : decode b_Mod_add 303 = .ok (.isub, 1) := by decide +kernel
theorem d_Mod_add_304 : decode b_Mod_add 304 = .ok (.ireturn, 1) := by decide +kernel
theorem d_Mod_binOf_0 : decode b_Mod_binOf 0 = .ok (.aload_n 0, 1) := by decide +kernel
theorem d_Mod_binOf_1 : decode b_Mod_binOf 1 = .ok (.getfield 22, 3) := by decide +kernel
theorem d_Mod_binOf_4 : decode b_Mod_binOf 4 = .ok (.iload_n 1, 1) := by decide +kernel
theorem d_Mod_binOf_5 : decode b_Mod_binOf 5 = .ok (.iaload, 1) := by decide +kernel
theorem d_Mod_binOf_6 : decode b_Mod_binOf 6 = .ok (.istore_n 2, 1) := by decide +kernel
theorem d_Mod_binOf_7 : decode b_Mod_binOf 7 = .ok (.aload_n 0, 1) := by decide +kernel
theorem d_Mod_binOf_8 : decode b_Mod_binOf 8 = .ok (.getfield 25, 3) := by decide +kernel
theorem d_Mod_binOf_11 : decode b_Mod_binOf 11 = .ok (.iload_n 1, 1) := by decide +kernel
theorem d_Mod_binOf_12 : decode b_Mod_binOf 12 = .ok (.iaload, 1) := by decide +kernel
theorem d_Mod_binOf_13 : decode b_Mod_binOf 13 = .ok (.iconst 1, 1) := by decide +kernel
theorem d_Mod_binOf_14 : decode b_Mod_binOf 14 = .ok (.isub, 1) := by decide +kernel
theorem d_Mod_binOf_15 : decode b_Mod_binOf 15 = .ok (.istore_n 3, 1) := by decide +kernel
theorem d_Mod_binOf_16 : decode b_Mod_binOf 16 = .ok (.iload_n 2, 1) := by decide +kernel
theorem d_Mod_binOf_17 : decode b_Mod_binOf 17 = .ok (.bipush 64, 2) := by decide +kernel
theorem d_Mod_binOf_19 : decode b_Mod_binOf 19 = .ok (.idiv, 1) := by decide +kernel
theorem d_Mod_binOf_20 : decode b_Mod_binOf 20 = .ok (.iload_n 3, 1) := by decide +kernel
theorem d_Mod_binOf_21 : decode b_Mod_binOf 21 = .ok (.bipush 64, 2) := by decide +kernel
theorem d_Mod_binOf_23 : decode b_Mod_binOf 23 = .ok (.idiv, 1) := by decide +kernel
theorem d_Mod_binOf_24 : decode b_Mod_binOf 24 = .ok (.if_icmp .ne 13, 3) := by decide +kernel
theorem d_Mod_binOf_27 : decode b_Mod_binOf 27 = .ok (.bipush 9, 2) := by decide +kernel
theorem d_Mod_binOf_29 : decode b_Mod_binOf 29 = .ok (.iload_n 2, 1) := by decide +kernel
theorem d_Mod_binOf_30 : decode b_Mod_binOf 30 = .ok (.bipush 64, 2) := by decide +kernel
theorem d_Mod_binOf_32 : decode b_Mod_binOf 32 = .ok (.idiv, 1) := by decide +kernel
theorem d_Mod_binOf_33 : decode b_Mod_binOf 33 = .ok (.iadd, 1) := by decide +kernel
theorem d_Mod_binOf_34 : decode b_Mod_binOf 34 = .ok (.goto 27, 3) := by decide +kernel
theorem d_Mod_binOf_37 : decode b_Mod_binOf 37 = .ok (.iload_n 2, 1) := by decide +kernel
theorem d_Mod_binOf_38 : decode b_Mod_binOf 38 = .ok (.sipush 512, 3) := by decide +kernel
theorem d_Mod_binOf_41 : decode b_Mod_binOf 41 = .ok (.idiv, 1) := by decide +kernel
theorem d_Mod_binOf_42 : decode b_Mod_binOf 42 = .ok (.iload_n 3, 1) := by decide +kernel
theorem d_Mod_binOf_43 : decode b_Mod_binOf 43 = .ok (.sipush 512, 3) := by decide +kernel
theorem d_Mod_binOf_46 : decode b_Mod_binOf 46 = .ok (.idiv, 1) := by decide +kernel
theorem d_Mod_binOf_47 : decode b_Mod_binOf 47 = .ok (.if_icmp .ne 13, 3) := by decide +kernel
theorem d_Mod_binOf_50 : decode b_Mod_binOf 50 = .ok (.iconst 1, 1) := by decide +kernel
theorem d_Mod_binOf_51 : decode b_Mod_binOf 51 = .ok (.iload_n 2, 1) := by decide +kernel
theorem d_Mod_binOf_52 : decode b_Mod_binOf 52 = .ok (.sipush 512, 3) := by decide +kernel
theorem d_Mod_binOf_55 : decode b_Mod_binOf 55 = .ok (.idiv, 1) := by decide +kernel
theorem d_Mod_binOf_56 : decode b_Mod_binOf 56 = .ok (.iadd, 1) := by decide +kernel
theorem d_Mod_binOf_57 : decode b_Mod_binOf 57 = .ok (.goto 4, 3) := by decide +kernel
theorem d_Mod_binOf_60 : decode b_Mod_binOf 60 = .ok (.iconst 0, 1) := by decide +kernel
theorem d_Mod_binOf_61 : decode b_Mod_binOf 61 = .ok (.ireturn, 1) := by decide +kernel
theorem d_Mod_put_0 : decode b_Mod_put 0 = .ok (.aload_n 0, 1) := by decide +kernel
theorem d_Mod_put_1 : decode b_Mod_put 1 = .ok (.getfield 43, 3) := by decide +kernel
theorem d_Mod_put_4 : decode b_Mod_put 4 = .ok (.aload_n 0, 1) := by decide +kernel
theorem d_Mod_put_5 : decode b_Mod_put 5 = .ok (.getfield 80, 3) := by decide +kernel
theorem d_Mod_put_8 : decode b_Mod_put 8 = .ok (.iload_n 1, 1) := by decide +kernel
theorem d_Mod_put_9 : decode b_Mod_put 9 = .ok (.iastore, 1) := by decide +kernel
theorem d_Mod_put_10 : decode b_Mod_put 10 = .ok (.aload_n 0, 1) := by decide +kernel
theorem d_Mod_put_11 : decode b_Mod_put 11 = .ok (.dup, 1) := by decide +kernel
theorem d_Mod_put_12 : decode b_Mod_put 12 = .ok (.getfield 80, 3) := by decide +kernel
theorem d_Mod_put_15 : decode b_Mod_put 15 = .ok (.iconst 1, 1) := by decide +kernel
theorem d_Mod_put_16 : decode b_Mod_put 16 = .ok (.iadd, 1) := by decide +kernel
theorem d_Mod_put_17 : decode b_Mod_put 17 = .ok (.putfield 80, 3) := by decide +kernel
theorem d_Mod_put_20 : decode b_Mod_put 20 = .ok (.return_, 1) := by decide +kernel
theorem d_Mod_putRead_0 : decode b_Mod_putRead 0 = .ok (.aload_n 0, 1) := by decide +kernel
theorem d_Mod_putRead_1 : decode b_Mod_putRead 1 = .ok (.getfield 40, 3) := by decide +kernel
theorem d_Mod_putRead_4 : decode b_Mod_putRead 4 = .ok (.iload_n 1, 1) := by decide +kernel
theorem d_Mod_putRead_5 : decode b_Mod_putRead 5 = .ok (.aload_n 0, 1) := by decide +kernel
theorem d_Mod_putRead_6 : decode b_Mod_putRead 6 = .ok (.getfield 80, 3) := by decide +kernel
theorem d_Mod_putRead_9 : decode b_Mod_putRead 9 = .ok (.iastore, 1) := by decide +kernel
theorem d_Mod_putRead_10 : decode b_Mod_putRead 10 = .ok (.aload_n 0, 1) := by decide +kernel
theorem d_Mod_putRead_11 : decode b_Mod_putRead 11 = .ok (.getfield 34, 3) := by decide +kernel
theorem d_Mod_putRead_14 : decode b_Mod_putRead 14 = .ok (.iload_n 1, 1) := by decide +kernel
theorem d_Mod_putRead_15 : decode b_Mod_putRead 15 = .ok (.iaload, 1) := by decide +kernel
theorem d_Mod_putRead_16 : decode b_Mod_putRead 16 = .ok (.iconst 1, 1) := by decide +kernel
theorem d_Mod_putRead_17 : decode b_Mod_putRead 17 = .ok (.iadd, 1) := by decide +kernel
theorem d_Mod_putRead_18 : decode b_Mod_putRead 18 = .ok (.iconst 2, 1) := by decide +kernel
theorem d_Mod_putRead_19 : decode b_Mod_putRead 19 = .ok (.idiv, 1) := by decide +kernel
theorem d_Mod_putRead_20 : decode b_Mod_putRead 20 = .ok (.istore_n 2, 1) := by decide +kernel
theorem d_Mod_putRead_21 : decode b_Mod_putRead 21 = .ok (.aload_n 0, 1) := by decide +kernel
theorem d_Mod_putRead_22 : decode b_Mod_putRead 22 = .ok (.bipush 6, 2) := by decide +kernel
theorem d_Mod_putRead_24 : decode b_Mod_putRead 24 = .ok (.aload_n 0, 1) := by decide +kernel
theorem d_Mod_putRead_25 : decode b_Mod_putRead 25 = .ok (.getfield 28, 3) := by decide +kernel
theorem d_Mod_putRead_28 : decode b_Mod_putRead 28 = .ok (.iload_n 1, 1) := by decide +kernel
theorem d_Mod_putRead_29 : decode b_Mod_putRead 29 = .ok (.iaload, 1) := by decide +kernel
theorem d_Mod_putRead_30 : decode b_Mod_putRead 30 = .ok (.iadd, 1) := by decide +kernel
theorem d_Mod_putRead_31 : decode b_Mod_putRead 31 = .ok (.iload_n 2, 1) := by decide +kernel
theorem d_Mod_putRead_32 : decode b_Mod_putRead 32 = .ok (.iadd, 1) := by decide +kernel
theorem d_Mod_putRead_33 : decode b_Mod_putRead 33 = .ok (.invokevirtual 83, 3) := by decide +kernel
theorem d_Mod_putRead_36 : decode b_Mod_putRead 36 = .ok (.aload_n 0, 1) := by decide +kernel
theorem d_Mod_putRead_37 : decode b_Mod_putRead 37 = .ok (.aload_n 0, 1) := by decide +kernel
theorem d_Mod_putRead_38 : decode b_Mod_putRead 38 = .ok (.getfield 19, 3) := by decide +kernel
theorem d_Mod_putRead_41 : decode b_Mod_putRead 41 = .ok (.iload_n 1, 1) := by decide +kernel
theorem d_Mod_putRead_42 : decode b_Mod_putRead 42 = .ok (.iaload, 1) := by decide +kernel
theorem d_Mod_putRead_43 : decode b_Mod_putRead 43 = .ok (.invokevirtual 83, 3) := by decide +kernel
theorem d_Mod_putRead_46 : decode b_Mod_putRead 46 = .ok (.aload_n 0, 1) := by decide +kernel
theorem d_Mod_putRead_47 : decode b_Mod_putRead 47 = .ok (.aload_n 0, 1) := by decide +kernel
theorem d_Mod_putRead_48 : decode b_Mod_putRead 48 = .ok (.getfield 22, 3) := by decide +kernel
theorem d_Mod_putRead_51 : decode b_Mod_putRead 51 = .ok (.iload_n 1, 1) := by decide +kernel
theorem d_Mod_putRead_52 : decode b_Mod_putRead 52 = .ok (.iaload, 1) := by decide +kernel
theorem d_Mod_putRead_53 : decode b_Mod_putRead 53 = .ok (.sipush 255, 3) := by decide +kernel
theorem d_Mod_putRead_56 : decode b_Mod_putRead 56 = .ok (.iand, 1) := by decide +kernel
theorem d_Mod_putRead_57 : decode b_Mod_putRead 57 = .ok (.invokevirtual 83, 3) := by decide +kernel
theorem d_Mod_putRead_60 : decode b_Mod_putRead 60 = .ok (.aload_n 0, 1) := by decide +kernel
theorem d_Mod_putRead_61 : decode b_Mod_putRead 61 = .ok (.aload_n 0, 1) := by decide +kernel
theorem d_Mod_putRead_62 : decode b_Mod_putRead 62 = .ok (.getfield 22, 3) := by decide +kernel
theorem d_Mod_putRead_65 : decode b_Mod_putRead 65 = .ok (.iload_n 1, 1) := by decide +kernel
theorem d_Mod_putRead_66 : decode b_Mod_putRead 66 = .ok (.iaload, 1) := by decide +kernel
theorem d_Mod_putRead_67 : decode b_Mod_putRead 67 = .ok (.bipush 8, 2) := by decide +kernel
theorem d_Mod_putRead_69 : decode b_Mod_putRead 69 = .ok (.ishr, 1) := by decide +kernel
theorem d_Mod_putRead_70 : decode b_Mod_putRead 70 = .ok (.invokevirtual 83, 3) := by decide +kernel
theorem d_Mod_putRead_73 : decode b_Mod_putRead 73 = .ok (.aload_n 0, 1) := by decide +kernel
theorem d_Mod_putRead_74 : decode b_Mod_putRead 74 = .ok (.aload_n 0, 1) := by decide +kernel
theorem d_Mod_putRead_75 : decode b_Mod_putRead 75 = .ok (.iload_n 1, 1) := by decide +kernel
theorem d_Mod_putRead_76 : decode b_Mod_putRead 76 = .ok (.invokevirtual 87, 3) := by decide +kernel
theorem d_Mod_putRead_79 : decode b_Mod_putRead 79 = .ok (.invokevirtual 83, 3) := by decide +kernel
theorem d_Mod_putRead_82 : decode b_Mod_putRead 82 = .ok (.aload_n 0, 1) := by decide +kernel
theorem d_Mod_putRead_83 : decode b_Mod_putRead 83 = .ok (.aload_n 0, 1) := by decide +kernel
theorem d_Mod_putRead_84 : decode b_Mod_putRead 84 = .ok (.getfield 28, 3) := by decide +kernel
theorem d_Mod_putRead_87 : decode b_Mod_putRead 87 = .ok (.iload_n 1, 1) := by decide +kernel
theorem d_Mod_putRead_88 : decode b_Mod_putRead 88 = .ok (.iaload, 1) := by decide +kernel
theorem d_Mod_putRead_89 : decode b_Mod_putRead 89 = .ok (.invokevirtual 83, 3) := by decide +kernel
theorem d_Mod_putRead_92 : decode b_Mod_putRead 92 = .ok (.aload_n 0, 1) := by decide +kernel
theorem d_Mod_putRead_93 : decode b_Mod_putRead 93 = .ok (.aload_n 0, 1) := by decide +kernel
theorem d_Mod_putRead_94 : decode b_Mod_putRead 94 = .ok (.getfield 34, 3) := by decide +kernel
theorem d_Mod_putRead_97 : decode b_Mod_putRead 97 = .ok (.iload_n 1, 1) := by decide +kernel
theorem d_Mod_putRead_98 : decode b_Mod_putRead 98 = .ok (.iaload, 1) := by decide +kernel
theorem d_Mod_putRead_99 : decode b_Mod_putRead 99 = .ok (.invokevirtual 83, 3) := by decide +kernel
theorem d_Mod_putRead_102 : decode b_Mod_putRead 102 = .ok (.iconst 0, 1) := by decide +kernel
theorem d_Mod_putRead_103 : decode b_Mod_putRead 103 = .ok (.istore_n 3, 1) := by decide +kernel
theorem d_Mod_putRead_104 : decode b_Mod_putRead 104 = .ok (.iload_n 3, 1) := by decide +kernel
theorem d_Mod_putRead_105 : decode b_Mod_putRead 105 = .ok (.aload_n 0, 1) := by decide +kernel
theorem d_Mod_putRead_106 : decode b_Mod_putRead 106 = .ok (.getfield 28, 3) := by decide +kernel
theorem d_Mod_putRead_109 : decode b_Mod_putRead 109 = .ok (.iload_n 1, 1) := by decide +kernel
theorem d_Mod_putRead_110 : decode b_Mod_putRead 110 = .ok (.iaload, 1) := by decide +kernel
theorem d_Mod_putRead_111 : decode b_Mod_putRead 111 = .ok (.if_icmp .ge 23, 3) := by decide +kernel
theorem d_Mod_putRead_114 : decode b_Mod_putRead 114 = .ok (.aload_n 0, 1) := by decide +kernel
theorem d_Mod_putRead_115 : decode b_Mod_putRead 115 = .ok (.aload_n 0, 1) := by decide +kernel
theorem d_Mod_putRead_116 : decode b_Mod_putRead 116 = .ok (.getfield 31, 3) := by decide +kernel
theorem d_Mod_putRead_119 : decode b_Mod_putRead 119 = .ok (.iconst 3, 1) := by decide +kernel
theorem d_Mod_putRead_120 : decode b_Mod_putRead 120 = .ok (.iload_n 1, 1) := by decide +kernel
theorem d_Mod_putRead_121 : decode b_Mod_putRead 121 = .ok (.imul, 1) := by decide +kernel
theorem d_Mod_putRead_122 : decode b_Mod_putRead 122 = .ok (.iload_n 3, 1) := by decide +kernel
theorem d_Mod_putRead_123 : decode b_Mod_putRead 123 = .ok (.iadd, 1) := by decide +kernel
theorem d_Mod_putRead_124 : decode b_Mod_putRead 124 = .ok (.iaload, 1) := by decide +kernel
theorem d_Mod_putRead_125 : decode b_Mod_putRead 125 = .ok (.invokevirtual 83, 3) := by decide +kernel
theorem d_Mod_putRead_128 : decode b_Mod_putRead 128 = .ok (.iinc 3 1, 3) := by decide +kernel
theorem d_Mod_putRead_131 : decode b_Mod_putRead 131 = .ok (.goto (-27), 3) := by decide +kernel
theorem d_Mod_putRead_134 : decode b_Mod_putRead 134 = .ok (.iconst 0, 1) := by decide +kernel
theorem d_Mod_putRead_135 : decode b_Mod_putRead 135 = .ok (.istore_n 3, 1) := by decide +kernel
theorem d_Mod_putRead_136 : decode b_Mod_putRead 136 = .ok (.iload_n 3, 1) := by decide +kernel
theorem d_Mod_putRead_137 : decode b_Mod_putRead 137 = .ok (.iload_n 2, 1) := by decide +kernel
theorem d_Mod_putRead_138 : decode b_Mod_putRead 138 = .ok (.if_icmp .ge 67, 3) := by decide +kernel
theorem d_Mod_putRead_141 : decode b_Mod_putRead 141 = .ok (.iconst 2, 1) := by decide +kernel
theorem d_Mod_putRead_142 : decode b_Mod_putRead 142 = .ok (.iload_n 3, 1) := by decide +kernel
theorem d_Mod_putRead_143 : decode b_Mod_putRead 143 = .ok (.imul, 1) := by decide +kernel
theorem d_Mod_putRead_144 : decode b_Mod_putRead 144 = .ok (.iconst 1, 1) := by decide +kernel
theorem d_Mod_putRead_145 : decode b_Mod_putRead 145 = .ok (.iadd, 1) := by decide +kernel
theorem d_Mod_putRead_146 : decode b_Mod_putRead 146 = .ok (.aload_n 0, 1) := by decide +kernel
theorem d_Mod_putRead_147 : decode b_Mod_putRead 147 = .ok (.getfield 34, 3) := by decide +kernel
theorem d_Mod_putRead_150 : decode b_Mod_putRead 150 = .ok (.iload_n 1, 1) := by decide +kernel
theorem d_Mod_putRead_151 : decode b_Mod_putRead 151 = .ok (.iaload, 1) := by decide +kernel
theorem d_Mod_putRead_152 : decode b_Mod_putRead 152 = .ok (.if_icmp .ge 21, 3) := by decide +kernel
theorem d_Mod_putRead_155 : decode b_Mod_putRead 155 = .ok (.aload_n 0, 1) := by decide +kernel
theorem d_Mod_putRead_156 : decode b_Mod_putRead 156 = .ok (.getfield 37, 3) := by decide +kernel
theorem d_Mod_putRead_159 : decode b_Mod_putRead 159 = .ok (.bipush 24, 2) := by decide +kernel
theorem d_Mod_putRead_161 : decode b_Mod_putRead 161 = .ok (.iload_n 1, 1) := by decide +kernel
theorem d_Mod_putRead_162 : decode b_Mod_putRead 162 = .ok (.imul, 1) := by decide +kernel
theorem d_Mod_putRead_163 : decode b_Mod_putRead 163 = .ok (.iconst 2, 1) := by decide +kernel
theorem d_Mod_putRead_164 : decode b_Mod_putRead 164 = .ok (.iload_n 3, 1) := by decide +kernel
theorem d_Mod_putRead_165 : decode b_Mod_putRead 165 = .ok (.imul, 1) := by decide +kernel
theorem d_Mod_putRead_166 : decode b_Mod_putRead 166 = .ok (.iadd, 1) := by decide +kernel
theorem d_Mod_putRead_167 : decode b_Mod_putRead 167 = .ok (.iconst 1, 1) := by decide +kernel
theorem d_Mod_putRead_168 : decode b_Mod_putRead 168 = .ok (.iadd, 1) := by decide +kernel
theorem d_Mod_putRead_169 : decode b_Mod_putRead 169 = .ok (.iaload, 1) := by decide +kernel
theorem d_Mod_putRead_170 : decode b_Mod_putRead 170 = .ok (.goto 4, 3) := by decide +kernel
theorem d_Mod_putRead_173 : decode b_Mod_putRead 173 = .ok (.iconst 0, 1) := by decide +kernel
theorem d_Mod_putRead_174 : decode b_Mod_putRead 174 = .ok (.istore 4, 2) := by decide +kernel
theorem d_Mod_putRead_176 : decode b_Mod_putRead 176 = .ok (.aload_n 0, 1) := by decide +kernel
theorem d_Mod_putRead_177 : decode b_Mod_putRead 177 = .ok (.bipush 16, 2) := by decide +kernel
theorem d_Mod_putRead_179 : decode b_Mod_putRead 179 = .ok (.aload_n 0, 1) := by decide +kernel
theorem d_Mod_putRead_180 : decode b_Mod_putRead 180 = .ok (.getfield 37, 3) := by decide +kernel
theorem d_Mod_putRead_183 : decode b_Mod_putRead 183 = .ok (.bipush 24, 2) := by decide +kernel
theorem d_Mod_putRead_185 : decode b_Mod_putRead 185 = .ok (.iload_n 1, 1) := by decide +kernel
theorem d_Mod_putRead_186 : decode b_Mod_putRead 186 = .ok (.imul, 1) := by decide +kernel
theorem d_Mod_putRead_187 : decode b_Mod_putRead 187 = .ok (.iconst 2, 1) := by decide +kernel
theorem d_Mod_putRead_188 : decode b_Mod_putRead 188 = .ok (.iload_n 3, 1) := by decide +kernel
theorem d_Mod_putRead_189 : decode b_Mod_putRead 189 = .ok (.imul, 1) := by decide +kernel
theorem d_Mod_putRead_190 : decode b_Mod_putRead 190 = .ok (.iadd, 1) := by decide +kernel
theorem d_Mod_putRead_191 : decode b_Mod_putRead 191 = .ok (.iaload, 1) := by decide +kernel
theorem d_Mod_putRead_192 : decode b_Mod_putRead 192 = .ok (.imul, 1) := by decide +kernel
theorem d_Mod_putRead_193 : decode b_Mod_putRead 193 = .ok (.iload 4, 2) := by decide +kernel
theorem d_Mod_putRead_195 : decode b_Mod_putRead 195 = .ok (.iadd, 1) := by decide +kernel
theorem d_Mod_putRead_196 : decode b_Mod_putRead 196 = .ok (.invokevirtual 83, 3) := by decide +kernel
theorem d_Mod_putRead_199 : decode b_Mod_putRead 199 = .ok (.iinc 3 1, 3) := by decide +kernel
theorem d_Mod_putRead_202 : decode b_Mod_putRead 202 = .ok (.goto (-66), 3) := by decide +kernel
theorem d_Mod_putRead_205 : decode b_Mod_putRead 205 = .ok (.aload_n 0, 1) := by decide +kernel
theorem d_Mod_putRead_206 : decode b_Mod_putRead 206 = .ok (.getfield 40, 3) := by decide +kernel
theorem d_Mod_putRead_209 : decode b_Mod_putRead 209 = .ok (.iload_n 1, 1) := by decide +kernel
theorem d_Mod_putRead_210 : decode b_Mod_putRead 210 = .ok (.iconst 1, 1) := by decide +kernel
theorem d_Mod_putRead_211 : decode b_Mod_putRead 211 = .ok (.iadd, 1) := by decide +kernel
theorem d_Mod_putRead_212 : decode b_Mod_putRead 212 = .ok (.aload_n 0, 1) := by decide +kernel
theorem d_Mod_putRead_213 : decode b_Mod_putRead 213 = .ok (.getfield 80, 3) := by decide +kernel
theorem d_Mod_putRead_216 : decode b_Mod_putRead 216 = .ok (.iastore, 1) := by decide +kernel
theorem d_Mod_putRead_217 : decode b_Mod_putRead 217 = .ok (.return_, 1) := by decide +kernel
theorem d_Mod_store_0 : decode b_Mod_store 0 = .ok (.aload_n 0, 1) := by decide +kernel
theorem d_Mod_store_1 : decode b_Mod_store 1 = .ok (.getfield 46, 3) := by decide +kernel
theorem d_Mod_store_4 : decode b_Mod_store 4 = .ok (.aload_n 0, 1) := by decide +kernel
theorem d_Mod_store_5 : decode b_Mod_store 5 = .ok (.getfield 91, 3) := by decide +kernel
theorem d_Mod_store_8 : decode b_Mod_store 8 = .ok (.iload_n 1, 1) := by decide +kernel
theorem d_Mod_store_9 : decode b_Mod_store 9 = .ok (.sipush 255, 3) := by decide +kernel
theorem d_Mod_store_12 : decode b_Mod_store 12 = .ok (.iand, 1) := by decide +kernel
theorem d_Mod_store_13 : decode b_Mod_store 13 = .ok (.iastore, 1) := by decide +kernel
theorem d_Mod_store_14 : decode b_Mod_store 14 = .ok (.aload_n 0, 1) := by decide +kernel
theorem d_Mod_store_15 : decode b_Mod_store 15 = .ok (.dup, 1) := by decide +kernel
theorem d_Mod_store_16 : decode b_Mod_store 16 = .ok (.getfield 91, 3) := by decide +kernel
theorem d_Mod_store_19 : decode b_Mod_store 19 = .ok (.iconst 1, 1) := by decide +kernel
theorem d_Mod_store_20 : decode b_Mod_store 20 = .ok (.iadd, 1) := by decide +kernel
theorem d_Mod_store_21 : decode b_Mod_store 21 = .ok (.putfield 91, 3) := by decide +kernel
theorem d_Mod_store_24 : decode b_Mod_store 24 = .ok (.return_, 1) := by decide +kernel
theorem d_Mod_storeBlock_0 : decode b_Mod_storeBlock 0 = .ok (.iload_n 2, 1) := by decide +kernel
theorem d_Mod_storeBlock_1 : decode b_Mod_storeBlock 1 = .ok (.iload_n 1, 1) := by decide +kernel
theorem d_Mod_storeBlock_2 : decode b_Mod_storeBlock 2 = .ok (.isub, 1) := by decide +kernel
theorem d_Mod_storeBlock_3 : decode b_Mod_storeBlock 3 = .ok (.istore_n 3, 1) := by decide +kernel
theorem d_Mod_storeBlock_4 : decode b_Mod_storeBlock 4 = .ok (.aload_n 0, 1) := by decide +kernel
theorem d_Mod_storeBlock_5 : decode b_Mod_storeBlock 5 = .ok (.bipush 31, 2) := by decide +kernel
theorem d_Mod_storeBlock_7 : decode b_Mod_storeBlock 7 = .ok (.invokevirtual 94, 3) := by decide +kernel
theorem d_Mod_storeBlock_10 : decode b_Mod_storeBlock 10 = .ok (.aload_n 0, 1) := by decide +kernel
theorem d_Mod_storeBlock_11 : decode b_Mod_storeBlock 11 = .ok (.sipush 139, 3) := by decide +kernel
theorem d_Mod_storeBlock_14 : decode b_Mod_storeBlock 14 = .ok (.invokevirtual 94, 3) := by decide +kernel
theorem d_Mod_storeBlock_17 : decode b_Mod_storeBlock 17 = .ok (.aload_n 0, 1) := by decide +kernel
theorem d_Mod_storeBlock_18 : decode b_Mod_storeBlock 18 = .ok (.iconst 1, 1) := by decide +kernel
theorem d_Mod_storeBlock_19 : decode b_Mod_storeBlock 19 = .ok (.invokevirtual 94, 3) := by decide +kernel
theorem d_Mod_storeBlock_22 : decode b_Mod_storeBlock 22 = .ok (.aload_n 0, 1) := by decide +kernel
theorem d_Mod_storeBlock_23 : decode b_Mod_storeBlock 23 = .ok (.iload_n 3, 1) := by decide +kernel
theorem d_Mod_storeBlock_24 : decode b_Mod_storeBlock 24 = .ok (.invokevirtual 94, 3) := by decide +kernel
theorem d_Mod_storeBlock_27 : decode b_Mod_storeBlock 27 = .ok (.aload_n 0, 1) := by decide +kernel
theorem d_Mod_storeBlock_28 : decode b_Mod_storeBlock 28 = .ok (.iload_n 3, 1) := by decide +kernel
theorem d_Mod_storeBlock_29 : decode b_Mod_storeBlock 29 = .ok (.bipush 8, 2) := by decide +kernel
theorem d_Mod_storeBlock_31 : decode b_Mod_storeBlock 31 = .ok (.ishr, 1) := by decide +kernel
theorem d_Mod_storeBlock_32 : decode b_Mod_storeBlock 32 = .ok (.invokevirtual 94, 3) := by decide +kernel
theorem d_Mod_storeBlock_35 : decode b_Mod_storeBlock 35 = .ok (.aload_n 0, 1) := by decide +kernel
theorem d_Mod_storeBlock_36 : decode b_Mod_storeBlock 36 = .ok (.iload_n 3, 1) := by decide +kernel
theorem d_Mod_storeBlock_37 : decode b_Mod_storeBlock 37 = .ok (.iconst (-1), 1) := by decide +kernel
theorem d_Mod_storeBlock_38 : decode b_Mod_storeBlock 38 = .ok (.ixor, 1) := by decide +kernel
theorem d_Mod_storeBlock_39 : decode b_Mod_storeBlock 39 = .ok (.invokevirtual 94, 3) := by decide +kernel
theorem d_Mod_storeBlock_42 : decode b_Mod_storeBlock 42 = .ok (.aload_n 0, 1) := by decide +kernel
theorem d_Mod_storeBlock_43 : decode b_Mod_storeBlock 43 = .ok (.iload_n 3, 1) := by decide +kernel
theorem d_Mod_storeBlock_44 : decode b_Mod_storeBlock 44 = .ok (.iconst (-1), 1) := by decide +kernel
theorem d_Mod_storeBlock_45 : decode b_Mod_storeBlock 45 = .ok (.ixor, 1) := by decide +kernel
theorem d_Mod_storeBlock_46 : decode b_Mod_storeBlock 46 = .ok (.bipush 8, 2) := by decide +kernel
theorem d_Mod_storeBlock_48 : decode b_Mod_storeBlock 48 = .ok (.ishr, 1) := by decide +kernel
theorem d_Mod_storeBlock_49 : decode b_Mod_storeBlock 49 = .ok (.invokevirtual 94, 3) := by decide +kernel
theorem d_Mod_storeBlock_52 : decode b_Mod_storeBlock 52 = .ok (.iconst (-1), 1) := by decide +kernel
theorem d_Mod_storeBlock_53 : decode b_Mod_storeBlock 53 = .ok (.istore 4, 2) := by decide +kernel
theorem d_Mod_storeBlock_55 : decode b_Mod_storeBlock 55 = .ok (.iload_n 1, 1) := by decide +kernel
theorem d_Mod_storeBlock_56 : decode b_Mod_storeBlock 56 = .ok (.istore 5, 2) := by decide +kernel
theorem d_Mod_storeBlock_58 : decode b_Mod_storeBlock 58 = .ok (.iload 5, 2) := by decide +kernel
theorem d_Mod_storeBlock_60 : decode b_Mod_storeBlock 60 = .ok (.iload_n 2, 1) := by decide +kernel
theorem d_Mod_storeBlock_61 : decode b_Mod_storeBlock 61 = .ok (.if_icmp .ge 72, 3) := by decide +kernel
theorem d_Mod_storeBlock_64 : decode b_Mod_storeBlock 64 = .ok (.aload_n 0, 1) := by decide +kernel
theorem d_Mod_storeBlock_65 : decode b_Mod_storeBlock 65 = .ok (.aload_n 0, 1) := by decide +kernel
theorem d_Mod_storeBlock_66 : decode b_Mod_storeBlock 66 = .ok (.getfield 43, 3) := by decide +kernel
theorem d_Mod_storeBlock_69 : decode b_Mod_storeBlock 69 = .ok (.iload 5, 2) := by decide +kernel
theorem d_Mod_storeBlock_71 : decode b_Mod_storeBlock 71 = .ok (.iaload, 1) := by decide +kernel
theorem d_Mod_storeBlock_72 : decode b_Mod_storeBlock 72 = .ok (.invokevirtual 94, 3) := by decide +kernel
theorem d_Mod_storeBlock_75 : decode b_Mod_storeBlock 75 = .ok (.iload 4, 2) := by decide +kernel
theorem d_Mod_storeBlock_77 : decode b_Mod_storeBlock 77 = .ok (.aload_n 0, 1) := by decide +kernel
theorem d_Mod_storeBlock_78 : decode b_Mod_storeBlock 78 = .ok (.getfield 43, 3) := by decide +kernel
theorem d_Mod_storeBlock_81 : decode b_Mod_storeBlock 81 = .ok (.iload 5, 2) := by decide +kernel
theorem d_Mod_storeBlock_83 : decode b_Mod_storeBlock 83 = .ok (.iaload, 1) := by decide +kernel
theorem d_Mod_storeBlock_84 : decode b_Mod_storeBlock 84 = .ok (.ixor, 1) := by decide +kernel
theorem d_Mod_storeBlock_85 : decode b_Mod_storeBlock 85 = .ok (.istore 4, 2) := by decide +kernel
theorem d_Mod_storeBlock_87 : decode b_Mod_storeBlock 87 = .ok (.iconst 0, 1) := by decide +kernel
theorem d_Mod_storeBlock_88 : decode b_Mod_storeBlock 88 = .ok (.istore 6, 2) := by decide +kernel
theorem d_Mod_storeBlock_90 : decode b_Mod_storeBlock 90 = .ok (.iload 6, 2) := by decide +kernel
theorem d_Mod_storeBlock_92 : decode b_Mod_storeBlock 92 = .ok (.bipush 8, 2) := by decide +kernel
theorem d_Mod_storeBlock_94 : decode b_Mod_storeBlock 94 = .ok (.if_icmp .ge 33, 3) := by decide +kernel
theorem d_Mod_storeBlock_97 : decode b_Mod_storeBlock 97 = .ok (.iload 4, 2) := by decide +kernel
theorem d_Mod_storeBlock_99 : decode b_Mod_storeBlock 99 = .ok (.iconst 1, 1) := by decide +kernel
theorem d_Mod_storeBlock_100 : decode b_Mod_storeBlock 100 = .ok (.iand, 1) := by decide +kernel
theorem d_Mod_storeBlock_101 : decode b_Mod_storeBlock 101 = .ok (.iconst 1, 1) := by decide +kernel
theorem d_Mod_storeBlock_102 : decode b_Mod_storeBlock 102 = .ok (.if_icmp .ne 13, 3) := by decide +kernel
theorem d_Mod_storeBlock_105 : decode b_Mod_storeBlock 105 = .ok (.iload 4, 2) := by decide +kernel
theorem d_Mod_storeBlock_107 : decode b_Mod_storeBlock 107 = .ok (.iconst 1, 1) := by decide +kernel
theorem d_Mod_storeBlock_108 : decode b_Mod_storeBlock 108 = .ok (.iushr, 1) := by decide +kernel
theorem d_Mod_storeBlock_109 : decode b_Mod_storeBlock 109 = .ok (.ldc 97, 2) := by decide +kernel
theorem d_Mod_storeBlock_111 : decode b_Mod_storeBlock 111 = .ok (.ixor, 1) := by decide +kernel
theorem d_Mod_storeBlock_112 : decode b_Mod_storeBlock 112 = .ok (.goto 7, 3) := by decide +kernel
theorem d_Mod_storeBlock_115 : decode b_Mod_storeBlock 115 = .ok (.iload 4, 2) := by decide +kernel
theorem d_Mod_storeBlock_117 : decode b_Mod_storeBlock 117 = .ok (.iconst 1, 1) := by decide +kernel
theorem d_Mod_storeBlock_118 : decode b_Mod_storeBlock 118 = .ok (.iushr, 1) := by decide +kernel
theorem d_Mod_storeBlock_119 : decode b_Mod_storeBlock 119 = .ok (.istore 4, 2) := by decide +kernel
theorem d_Mod_storeBlock_121 : decode b_Mod_storeBlock 121 = .ok (.iinc 6 1, 3) := by decide +kernel
theorem d_Mod_storeBlock_124 : decode b_Mod_storeBlock 124 = .ok (.goto (-34), 3) := by decide +kernel
theorem d_Mod_storeBlock_127 : decode b_Mod_storeBlock 127 = .ok (.iinc 5 1, 3) := by decide +kernel
theorem d_Mod_storeBlock_130 : decode b_Mod_storeBlock 130 = .ok (.goto (-72), 3) := by decide +kernel
theorem d_Mod_storeBlock_133 : decode b_Mod_storeBlock 133 = .ok (.iconst 0, 1) := by decide +kernel
theorem d_Mod_storeBlock_134 : decode b_Mod_storeBlock 134 = .ok (.istore 5, 2) := by decide +kernel
theorem d_Mod_storeBlock_136 : decode b_Mod_storeBlock 136 = .ok (.iload 5, 2) := by decide +kernel
theorem d_Mod_storeBlock_138 : decode b_Mod_storeBlock 138 = .ok (.iconst 4, 1) := by decide +kernel
theorem d_Mod_storeBlock_139 : decode b_Mod_storeBlock 139 = .ok (.if_icmp .ge 23, 3) := by decide +kernel
theorem d_Mod_storeBlock_142 : decode b_Mod_storeBlock 142 = .ok (.aload_n 0, 1) := by decide +kernel
theorem d_Mod_storeBlock_143 : decode b_Mod_storeBlock 143 = .ok (.iload 4, 2) := by decide +kernel
theorem d_Mod_storeBlock_145 : decode b_Mod_storeBlock 145 = .ok (.iconst (-1), 1) := by decide +kernel
theorem d_Mod_storeBlock_146 : decode b_Mod_storeBlock 146 = .ok (.ixor, 1) := by decide +kernel
theorem d_Mod_storeBlock_147 : decode b_Mod_storeBlock 147 = .ok (.bipush 8, 2) := by decide +kernel
theorem d_Mod_storeBlock_149 : decode b_Mod_storeBlock 149 = .ok (.iload 5, 2) := by decide +kernel
theorem d_Mod_storeBlock_151 : decode b_Mod_storeBlock 151 = .ok (.imul, 1) := by decide +kernel
theorem d_Mod_storeBlock_152 : decode b_Mod_storeBlock 152 = .ok (.ishr, 1) := by decide +kernel
theorem d_Mod_storeBlock_153 : decode b_Mod_storeBlock 153 = .ok (.invokevirtual 94, 3) := by decide +kernel
theorem d_Mod_storeBlock_156 : decode b_Mod_storeBlock 156 = .ok (.iinc 5 1, 3) := by decide +kernel
theorem d_Mod_storeBlock_159 : decode b_Mod_storeBlock 159 = .ok (.goto (-23), 3) := by decide +kernel
theorem d_Mod_storeBlock_162 : decode b_Mod_storeBlock 162 = .ok (.return_, 1) := by decide +kernel
theorem d_Mod_finish_0 : decode b_Mod_finish 0 = .ok (.aload_n 0, 1) := by decide +kernel
theorem d_Mod_finish_1 : decode b_Mod_finish 1 = .ok (.getfield 66, 3) := by decide +kernel
theorem d_Mod_finish_4 : decode b_Mod_finish 4 = .ok (.ifCond .eq 5, 3) := by decide +kernel
theorem d_Mod_finish_7 : decode b_Mod_finish 7 = .ok (.iconst (-1), 1) := by decide +kernel
theorem d_Mod_finish_8 : decode b_Mod_finish 8 = .ok (.ireturn, 1) := by decide +kernel
theorem d_Mod_finish_9 : decode b_Mod_finish 9 = .ok (.aload_n 0, 1) := by decide +kernel
theorem d_Mod_finish_10 : decode b_Mod_finish 10 = .ok (.iconst 1, 1) := by decide +kernel
theorem d_Mod_finish_11 : decode b_Mod_finish 11 = .ok (.putfield 66, 3) := by decide +kernel
theorem d_Mod_finish_14 : decode b_Mod_finish 14 = .ok (.iconst 0, 1) := by decide +kernel
theorem d_Mod_finish_15 : decode b_Mod_finish 15 = .ok (.istore_n 1, 1) := by decide +kernel
theorem d_Mod_finish_16 : decode b_Mod_finish 16 = .ok (.iload_n 1, 1) := by decide +kernel
theorem d_Mod_finish_17 : decode b_Mod_finish 17 = .ok (.aload_n 0, 1) := by decide +kernel
theorem d_Mod_finish_18 : decode b_Mod_finish 18 = .ok (.getfield 70, 3) := by decide +kernel
theorem d_Mod_finish_21 : decode b_Mod_finish 21 = .ok (.if_icmp .ge 14, 3) := by decide +kernel
theorem d_Mod_finish_24 : decode b_Mod_finish 24 = .ok (.aload_n 0, 1) := by decide +kernel
theorem d_Mod_finish_25 : decode b_Mod_finish 25 = .ok (.iload_n 1, 1) := by decide +kernel
theorem d_Mod_finish_26 : decode b_Mod_finish 26 = .ok (.invokevirtual 98, 3) := by decide +kernel
theorem d_Mod_finish_29 : decode b_Mod_finish 29 = .ok (.iinc 1 1, 3) := by decide +kernel
theorem d_Mod_finish_32 : decode b_Mod_finish 32 = .ok (.goto (-16), 3) := by decide +kernel
theorem d_Mod_finish_35 : decode b_Mod_finish 35 = .ok (.iconst 0, 1) := by decide +kernel
theorem d_Mod_finish_36 : decode b_Mod_finish 36 = .ok (.istore_n 1, 1) := by decide +kernel
theorem d_Mod_finish_37 : decode b_Mod_finish 37 = .ok (.iload_n 1, 1) := by decide +kernel
theorem d_Mod_finish_38 : decode b_Mod_finish 38 = .ok (.aload_n 0, 1) := by decide +kernel
theorem d_Mod_finish_39 : decode b_Mod_finish 39 = .ok (.getfield 80, 3) := by decide +kernel
theorem d_Mod_finish_42 : decode b_Mod_finish 42 = .ok (.if_icmp .ge 36, 3) := by decide +kernel
theorem d_Mod_finish_45 : decode b_Mod_finish 45 = .ok (.aload_n 0, 1) := by decide +kernel
theorem d_Mod_finish_46 : decode b_Mod_finish 46 = .ok (.iload_n 1, 1) := by decide +kernel
theorem d_Mod_finish_47 : decode b_Mod_finish 47 = .ok (.iload_n 1, 1) := by decide +kernel
theorem d_Mod_finish_48 : decode b_Mod_finish 48 = .ok (.bipush 40, 2) := by decide +kernel
theorem d_Mod_finish_50 : decode b_Mod_finish 50 = .ok (.iadd, 1) := by decide +kernel
theorem d_Mod_finish_51 : decode b_Mod_finish 51 = .ok (.aload_n 0, 1) := by decide +kernel
theorem d_Mod_finish_52 : decode b_Mod_finish 52 = .ok (.getfield 80, 3) := by decide +kernel
theorem d_Mod_finish_55 : decode b_Mod_finish 55 = .ok (.if_icmp .ge 10, 3) := by decide +kernel
theorem d_Mod_finish_58 : decode b_Mod_finish 58 = .ok (.iload_n 1, 1) := by decide +kernel
theorem d_Mod_finish_59 : decode b_Mod_finish 59 = .ok (.bipush 40, 2) := by decide +kernel
theorem d_Mod_finish_61 : decode b_Mod_finish 61 = .ok (.iadd, 1) := by decide +kernel
theorem d_Mod_finish_62 : decode b_Mod_finish 62 = .ok (.goto 7, 3) := by decide +kernel
theorem d_Mod_finish_65 : decode b_Mod_finish 65 = .ok (.aload_n 0, 1) := by decide +kernel
theorem d_Mod_finish_66 : decode b_Mod_finish 66 = .ok (.getfield 80, 3) := by decide +kernel
theorem d_Mod_finish_69 : decode b_Mod_finish 69 = .ok (.invokevirtual 101, 3) := by decide +kernel
theorem d_Mod_finish_72 : decode b_Mod_finish 72 = .ok (.iinc 1 40, 3) := by decide +kernel
theorem d_Mod_finish_75 : decode b_Mod_finish 75 = .ok (.goto (-38), 3) := by decide +kernel
theorem d_Mod_finish_78 : decode b_Mod_finish 78 = .ok (.aload_n 0, 1) := by decide +kernel
theorem d_Mod_finish_79 : decode b_Mod_finish 79 = .ok (.iconst 0, 1) := by decide +kernel
theorem d_Mod_finish_80 : decode b_Mod_finish 80 = .ok (.iconst 0, 1) := by decide +kernel
theorem d_Mod_finish_81 : decode b_Mod_finish 81 = .ok (.invokevirtual 101, 3) := by decide +kernel
theorem d_Mod_finish_84 : decode b_Mod_finish 84 = .ok (.aload_n 0, 1) := by decide +kernel
theorem d_Mod_finish_85 : decode b_Mod_finish 85 = .ok (.getfield 91, 3) := by decide +kernel
theorem d_Mod_finish_88 : decode b_Mod_finish 88 = .ok (.ireturn, 1) := by decide +kernel
theorem d_Mod_clear_0 : decode b_Mod_clear 0 = .ok (.aload_n 0, 1) := by decide +kernel
theorem d_Mod_clear_1 : decode b_Mod_clear 1 = .ok (.invokevirtual 77, 3) := by decide +kernel
theorem d_Mod_clear_4 : decode b_Mod_clear 4 = .ok (.aload_n 0, 1) := by decide +kernel
theorem d_Mod_clear_5 : decode b_Mod_clear 5 = .ok (.iconst 0, 1) := by decide +kernel
theorem d_Mod_clear_6 : decode b_Mod_clear 6 = .ok (.putfield 70, 3) := by decide +kernel
theorem d_Mod_clear_9 : decode b_Mod_clear 9 = .ok (.aload_n 0, 1) := by decide +kernel
theorem d_Mod_clear_10 : decode b_Mod_clear 10 = .ok (.iconst 0, 1) := by decide +kernel
theorem d_Mod_clear_11 : decode b_Mod_clear 11 = .ok (.putfield 66, 3) := by decide +kernel
theorem d_Mod_clear_14 : decode b_Mod_clear 14 = .ok (.aload_n 0, 1) := by decide +kernel
theorem d_Mod_clear_15 : decode b_Mod_clear 15 = .ok (.iconst 0, 1) := by decide +kernel
theorem d_Mod_clear_16 : decode b_Mod_clear 16 = .ok (.putfield 80, 3) := by decide +kernel
theorem d_Mod_clear_19 : decode b_Mod_clear 19 = .ok (.aload_n 0, 1) := by decide +kernel
theorem d_Mod_clear_20 : decode b_Mod_clear 20 = .ok (.iconst 0, 1) := by decide +kernel
theorem d_Mod_clear_21 : decode b_Mod_clear 21 = .ok (.putfield 91, 3) := by decide +kernel
theorem d_Mod_clear_24 : decode b_Mod_clear 24 = .ok (.aload_n 0, 1) := by decide +kernel
theorem d_Mod_clear_25 : decode b_Mod_clear 25 = .ok (.iconst (-1), 1) := by decide +kernel
theorem d_Mod_clear_26 : decode b_Mod_clear 26 = .ok (.putfield 49, 3) := by decide +kernel
theorem d_Mod_clear_29 : decode b_Mod_clear 29 = .ok (.aload_n 0, 1) := by decide +kernel
theorem d_Mod_clear_30 : decode b_Mod_clear 30 = .ok (.iconst 0, 1) := by decide +kernel
theorem d_Mod_clear_31 : decode b_Mod_clear 31 = .ok (.putfield 105, 3) := by decide +kernel
theorem d_Mod_clear_34 : decode b_Mod_clear 34 = .ok (.aload_n 0, 1) := by decide +kernel
theorem d_Mod_clear_35 : decode b_Mod_clear 35 = .ok (.iconst 0, 1) := by decide +kernel
theorem d_Mod_clear_36 : decode b_Mod_clear 36 = .ok (.putfield 108, 3) := by decide +kernel
theorem d_Mod_clear_39 : decode b_Mod_clear 39 = .ok (.return_, 1) := by decide +kernel
theorem d_Mod_turn_0 : decode b_Mod_turn 0 = .ok (.iload_n 1, 1) := by decide +kernel
theorem d_Mod_turn_1 : decode b_Mod_turn 1 = .ok (.iconst 0, 1) := by decide +kernel
theorem d_Mod_turn_2 : decode b_Mod_turn 2 = .ok (.aload_n 0, 1) := by decide +kernel
theorem d_Mod_turn_3 : decode b_Mod_turn 3 = .ok (.getfield 91, 3) := by decide +kernel
theorem d_Mod_turn_6 : decode b_Mod_turn 6 = .ok (.iconst 1, 1) := by decide +kernel
theorem d_Mod_turn_7 : decode b_Mod_turn 7 = .ok (.isub, 1) := by decide +kernel
theorem d_Mod_turn_8 : decode b_Mod_turn 8 = .ok (.invokestatic 56, 3) := by decide +kernel
theorem d_Mod_turn_11 : decode b_Mod_turn 11 = .ok (.ifCond .eq 33, 3) := by decide +kernel
theorem d_Mod_turn_14 : decode b_Mod_turn 14 = .ok (.iload_n 2, 1) := by decide +kernel
theorem d_Mod_turn_15 : decode b_Mod_turn 15 = .ok (.iconst 0, 1) := by decide +kernel
theorem d_Mod_turn_16 : decode b_Mod_turn 16 = .ok (.bipush 7, 2) := by decide +kernel
theorem d_Mod_turn_18 : decode b_Mod_turn 18 = .ok (.invokestatic 56, 3) := by decide +kernel
theorem d_Mod_turn_21 : decode b_Mod_turn 21 = .ok (.ifCond .eq 23, 3) := by decide +kernel
theorem d_Mod_turn_24 : decode b_Mod_turn 24 = .ok (.aload_n 0, 1) := by decide +kernel
theorem d_Mod_turn_25 : decode b_Mod_turn 25 = .ok (.getfield 49, 3) := by decide +kernel
theorem d_Mod_turn_28 : decode b_Mod_turn 28 = .ok (.ifCond .lt 18, 3) := by decide +kernel
theorem d_Mod_turn_31 : decode b_Mod_turn 31 = .ok (.aload_n 0, 1) := by decide +kernel
theorem d_Mod_turn_32 : decode b_Mod_turn 32 = .ok (.getfield 49, 3) := by decide +kernel
theorem d_Mod_turn_35 : decode b_Mod_turn 35 = .ok (.bipush 8, 2) := by decide +kernel
theorem d_Mod_turn_37 : decode b_Mod_turn 37 = .ok (.iload_n 1, 1) := by decide +kernel
theorem d_Mod_turn_38 : decode b_Mod_turn 38 = .ok (.imul, 1) := by decide +kernel
theorem d_Mod_turn_39 : decode b_Mod_turn 39 = .ok (.iload_n 2, 1) := by decide +kernel
theorem d_Mod_turn_40 : decode b_Mod_turn 40 = .ok (.iadd, 1) := by decide +kernel
theorem d_Mod_turn_41 : decode b_Mod_turn 41 = .ok (.if_icmp .eq 5, 3) := by decide +kernel
theorem d_Mod_turn_44 : decode b_Mod_turn 44 = .ok (.iconst 0, 1) := by decide +kernel
theorem d_Mod_turn_45 : decode b_Mod_turn 45 = .ok (.ireturn, 1) := by decide +kernel
theorem d_Mod_turn_46 : decode b_Mod_turn 46 = .ok (.aload_n 0, 1) := by decide +kernel
theorem d_Mod_turn_47 : decode b_Mod_turn 47 = .ok (.aload_n 0, 1) := by decide +kernel
theorem d_Mod_turn_48 : decode b_Mod_turn 48 = .ok (.getfield 49, 3) := by decide +kernel
theorem d_Mod_turn_51 : decode b_Mod_turn 51 = .ok (.ifCond .lt 7, 3) := by decide +kernel
theorem d_Mod_turn_54 : decode b_Mod_turn 54 = .ok (.iconst (-1), 1) := by decide +kernel
theorem d_Mod_turn_55 : decode b_Mod_turn 55 = .ok (.goto 9, 3) := by decide +kernel
theorem d_Mod_turn_58 : decode b_Mod_turn 58 = .ok (.bipush 8, 2) := by decide +kernel
theorem d_Mod_turn_60 : decode b_Mod_turn 60 = .ok (.iload_n 1, 1) := by decide +kernel
theorem d_Mod_turn_61 : decode b_Mod_turn 61 = .ok (.imul, 1) := by decide +kernel
theorem d_Mod_turn_62 : decode b_Mod_turn 62 = .ok (.iload_n 2, 1) := by decide +kernel
theorem d_Mod_turn_63 : decode b_Mod_turn 63 = .ok (.iadd, 1) := by decide +kernel
theorem d_Mod_turn_64 : decode b_Mod_turn 64 = .ok (.putfield 49, 3) := by decide +kernel
theorem d_Mod_turn_67 : decode b_Mod_turn 67 = .ok (.iconst 1, 1) := by decide +kernel
theorem d_Mod_turn_68 : decode b_Mod_turn 68 = .ok (.ireturn, 1) := by decide +kernel
theorem d_Mod_byteAt_0 : decode b_Mod_byteAt 0 = .ok (.iload_n 1, 1) := by decide +kernel
theorem d_Mod_byteAt_1 : decode b_Mod_byteAt 1 = .ok (.iconst 0, 1) := by decide +kernel
theorem d_Mod_byteAt_2 : decode b_Mod_byteAt 2 = .ok (.aload_n 0, 1) := by decide +kernel
theorem d_Mod_byteAt_3 : decode b_Mod_byteAt 3 = .ok (.getfield 91, 3) := by decide +kernel
theorem d_Mod_byteAt_6 : decode b_Mod_byteAt 6 = .ok (.iconst 1, 1) := by decide +kernel
theorem d_Mod_byteAt_7 : decode b_Mod_byteAt 7 = .ok (.isub, 1) := by decide +kernel
theorem d_Mod_byteAt_8 : decode b_Mod_byteAt 8 = .ok (.invokestatic 56, 3) := by decide +kernel
theorem d_Mod_byteAt_11 : decode b_Mod_byteAt 11 = .ok (.ifCond .ne 5, 3) := by decide +kernel
theorem d_Mod_byteAt_14 : decode b_Mod_byteAt 14 = .ok (.iconst (-1), 1) := by decide +kernel
theorem d_Mod_byteAt_15 : decode b_Mod_byteAt 15 = .ok (.ireturn, 1) := by decide +kernel
theorem d_Mod_byteAt_16 : decode b_Mod_byteAt 16 = .ok (.aload_n 0, 1) := by decide +kernel
theorem d_Mod_byteAt_17 : decode b_Mod_byteAt 17 = .ok (.getfield 49, 3) := by decide +kernel
theorem d_Mod_byteAt_20 : decode b_Mod_byteAt 20 = .ok (.ifCond .lt 33, 3) := by decide +kernel
theorem d_Mod_byteAt_23 : decode b_Mod_byteAt 23 = .ok (.aload_n 0, 1) := by decide +kernel
theorem d_Mod_byteAt_24 : decode b_Mod_byteAt 24 = .ok (.getfield 49, 3) := by decide +kernel
theorem d_Mod_byteAt_27 : decode b_Mod_byteAt 27 = .ok (.bipush 8, 2) := by decide +kernel
theorem d_Mod_byteAt_29 : decode b_Mod_byteAt 29 = .ok (.idiv, 1) := by decide +kernel
theorem d_Mod_byteAt_30 : decode b_Mod_byteAt 30 = .ok (.iload_n 1, 1) := by decide +kernel
theorem d_Mod_byteAt_31 : decode b_Mod_byteAt 31 = .ok (.if_icmp .ne 22, 3) := by decide +kernel
theorem d_Mod_byteAt_34 : decode b_Mod_byteAt 34 = .ok (.aload_n 0, 1) := by decide +kernel
theorem d_Mod_byteAt_35 : decode b_Mod_byteAt 35 = .ok (.getfield 46, 3) := by decide +kernel
theorem d_Mod_byteAt_38 : decode b_Mod_byteAt 38 = .ok (.iload_n 1, 1) := by decide +kernel
theorem d_Mod_byteAt_39 : decode b_Mod_byteAt 39 = .ok (.iaload, 1) := by decide +kernel
theorem d_Mod_byteAt_40 : decode b_Mod_byteAt 40 = .ok (.iconst 1, 1) := by decide +kernel
theorem d_Mod_byteAt_41 : decode b_Mod_byteAt 41 = .ok (.aload_n 0, 1) := by decide +kernel
theorem d_Mod_byteAt_42 : decode b_Mod_byteAt 42 = .ok (.getfield 49, 3) := by decide +kernel
theorem d_Mod_byteAt_45 : decode b_Mod_byteAt 45 = .ok (.bipush 8, 2) := by decide +kernel
theorem d_Mod_byteAt_47 : decode b_Mod_byteAt 47 = .ok (.irem, 1) := by decide +kernel
theorem d_Mod_byteAt_48 : decode b_Mod_byteAt 48 = .ok (.ishl, 1) := by decide +kernel
theorem d_Mod_byteAt_49 : decode b_Mod_byteAt 49 = .ok (.ixor, 1) := by decide +kernel
theorem d_Mod_byteAt_50 : decode b_Mod_byteAt 50 = .ok (.goto 9, 3) := by decide +kernel
theorem d_Mod_byteAt_53 : decode b_Mod_byteAt 53 = .ok (.aload_n 0, 1) := by decide +kernel
theorem d_Mod_byteAt_54 : decode b_Mod_byteAt 54 = .ok (.getfield 46, 3) := by decide +kernel
theorem d_Mod_byteAt_57 : decode b_Mod_byteAt 57 = .ok (.iload_n 1, 1) := by decide +kernel
theorem d_Mod_byteAt_58 : decode b_Mod_byteAt 58 = .ok (.iaload, 1) := by decide +kernel
theorem d_Mod_byteAt_59 : decode b_Mod_byteAt 59 = .ok (.ireturn, 1) := by decide +kernel
theorem d_Mod_check_0 : decode b_Mod_check 0 = .ok (.aload_n 0, 1) := by decide +kernel
theorem d_Mod_check_1 : decode b_Mod_check 1 = .ok (.getfield 66, 3) := by decide +kernel
theorem d_Mod_check_4 : decode b_Mod_check 4 = .ok (.ifCond .ne 7, 3) := by decide +kernel
theorem d_Mod_check_7 : decode b_Mod_check 7 = .ok (.iconst (-1), 1) := by decide +kernel
theorem d_Mod_check_8 : decode b_Mod_check 8 = .ok (.goto 19, 3) := by decide +kernel
theorem d_Mod_check_11 : decode b_Mod_check 11 = .ok (.aload_n 0, 1) := by decide +kernel
theorem d_Mod_check_12 : decode b_Mod_check 12 = .ok (.getfield 49, 3) := by decide +kernel
theorem d_Mod_check_15 : decode b_Mod_check 15 = .ok (.ifCond .lt 8, 3) := by decide +kernel
theorem d_Mod_check_18 : decode b_Mod_check 18 = .ok (.bipush (-2), 2) := by decide +kernel
theorem d_Mod_check_20 : decode b_Mod_check 20 = .ok (.goto 7, 3) := by decide +kernel
theorem d_Mod_check_23 : decode b_Mod_check 23 = .ok (.aload_n 0, 1) := by decide +kernel
theorem d_Mod_check_24 : decode b_Mod_check 24 = .ok (.getfield 70, 3) := by decide +kernel
theorem d_Mod_check_27 : decode b_Mod_check 27 = .ok (.ireturn, 1) := by decide +kernel
theorem d_Mod_touches_0 : decode b_Mod_touches 0 = .ok (.iload_n 0, 1) := by decide +kernel
theorem d_Mod_touches_1 : decode b_Mod_touches 1 = .ok (.ifCond .ne 9, 3) := by decide +kernel
theorem d_Mod_touches_4 : decode b_Mod_touches 4 = .ok (.sipush 4096, 3) := by decide +kernel
theorem d_Mod_touches_7 : decode b_Mod_touches 7 = .ok (.goto 17, 3) := by decide +kernel
theorem d_Mod_touches_10 : decode b_Mod_touches 10 = .ok (.iload_n 0, 1) := by decide +kernel
theorem d_Mod_touches_11 : decode b_Mod_touches 11 = .ok (.bipush 9, 2) := by decide +kernel
theorem d_Mod_touches_13 : decode b_Mod_touches 13 = .ok (.if_icmp .ge 9, 3) := by decide +kernel
theorem d_Mod_touches_16 : decode b_Mod_touches 16 = .ok (.sipush 512, 3) := by decide +kernel
theorem d_Mod_touches_19 : decode b_Mod_touches 19 = .ok (.goto 5, 3) := by decide +kernel
theorem d_Mod_touches_22 : decode b_Mod_touches 22 = .ok (.bipush 64, 2) := by decide +kernel
theorem d_Mod_touches_24 : decode b_Mod_touches 24 = .ok (.istore_n 3, 1) := by decide +kernel
theorem d_Mod_touches_25 : decode b_Mod_touches 25 = .ok (.iload_n 0, 1) := by decide +kernel
theorem d_Mod_touches_26 : decode b_Mod_touches 26 = .ok (.ifCond .ne 7, 3) := by decide +kernel
theorem d_Mod_touches_29 : decode b_Mod_touches 29 = .ok (.iconst 0, 1) := by decide +kernel
theorem d_Mod_touches_30 : decode b_Mod_touches 30 = .ok (.goto 26, 3) := by decide +kernel
theorem d_Mod_touches_33 : decode b_Mod_touches 33 = .ok (.iload_n 0, 1) := by decide +kernel
theorem d_Mod_touches_34 : decode b_Mod_touches 34 = .ok (.bipush 9, 2) := by decide +kernel
theorem d_Mod_touches_36 : decode b_Mod_touches 36 = .ok (.if_icmp .ge 13, 3) := by decide +kernel
theorem d_Mod_touches_39 : decode b_Mod_touches 39 = .ok (.sipush 512, 3) := by decide +kernel
theorem d_Mod_touches_42 : decode b_Mod_touches 42 = .ok (.iload_n 0, 1) := by decide +kernel
theorem d_Mod_touches_43 : decode b_Mod_touches 43 = .ok (.iconst 1, 1) := by decide +kernel
theorem d_Mod_touches_44 : decode b_Mod_touches 44 = .ok (.isub, 1) := by decide +kernel
theorem d_Mod_touches_45 : decode b_Mod_touches 45 = .ok (.imul, 1) := by decide +kernel
theorem d_Mod_touches_46 : decode b_Mod_touches 46 = .ok (.goto 10, 3) := by decide +kernel
theorem d_Mod_touches_49 : decode b_Mod_touches 49 = .ok (.bipush 64, 2) := by decide +kernel
theorem d_Mod_touches_51 : decode b_Mod_touches 51 = .ok (.iload_n 0, 1) := by decide +kernel
theorem d_Mod_touches_52 : decode b_Mod_touches 52 = .ok (.bipush 9, 2) := by decide +kernel
theorem d_Mod_touches_54 : decode b_Mod_touches 54 = .ok (.isub, 1) := by decide +kernel
theorem d_Mod_touches_55 : decode b_Mod_touches 55 = .ok (.imul, 1) := by decide +kernel
theorem d_Mod_touches_56 : decode b_Mod_touches 56 = .ok (.istore 4, 2) := by decide +kernel
theorem d_Mod_touches_58 : decode b_Mod_touches 58 = .ok (.iload 4, 2) := by decide +kernel
theorem d_Mod_touches_60 : decode b_Mod_touches 60 = .ok (.iload_n 2, 1) := by decide +kernel
theorem d_Mod_touches_61 : decode b_Mod_touches 61 = .ok (.if_icmp .ge 15, 3) := by decide +kernel
theorem d_Mod_touches_64 : decode b_Mod_touches 64 = .ok (.iload_n 1, 1) := by decide +kernel
theorem d_Mod_touches_65 : decode b_Mod_touches 65 = .ok (.iload 4, 2) := by decide +kernel
theorem d_Mod_touches_67 : decode b_Mod_touches 67 = .ok (.iload_n 3, 1) := by decide +kernel
theorem d_Mod_touches_68 : decode b_Mod_touches 68 = .ok (.iadd, 1) := by decide +kernel
theorem d_Mod_touches_69 : decode b_Mod_touches 69 = .ok (.if_icmp .ge 7, 3) := by decide +kernel
theorem d_Mod_touches_72 : decode b_Mod_touches 72 = .ok (.iconst 1, 1) := by decide +kernel
theorem d_Mod_touches_73 : decode b_Mod_touches 73 = .ok (.goto 4, 3) := by decide +kernel
theorem d_Mod_touches_76 : decode b_Mod_touches 76 = .ok (.iconst 0, 1) := by decide +kernel
theorem d_Mod_touches_77 : decode b_Mod_touches 77 = .ok (.ireturn, 1) := by decide +kernel
theorem d_Mod_hurt_0 : decode b_Mod_hurt 0 = .ok (.aload_n 0, 1) := by decide +kernel
theorem d_Mod_hurt_1 : decode b_Mod_hurt 1 = .ok (.getfield 49, 3) := by decide +kernel
theorem d_Mod_hurt_4 : decode b_Mod_hurt 4 = .ok (.ifCond .lt 20, 3) := by decide +kernel
theorem d_Mod_hurt_7 : decode b_Mod_hurt 7 = .ok (.aload_n 0, 1) := by decide +kernel
theorem d_Mod_hurt_8 : decode b_Mod_hurt 8 = .ok (.getfield 49, 3) := by decide +kernel
theorem d_Mod_hurt_11 : decode b_Mod_hurt 11 = .ok (.bipush 8, 2) := by decide +kernel
theorem d_Mod_hurt_13 : decode b_Mod_hurt 13 = .ok (.idiv, 1) := by decide +kernel
theorem d_Mod_hurt_14 : decode b_Mod_hurt 14 = .ok (.aload_n 0, 1) := by decide +kernel
theorem d_Mod_hurt_15 : decode b_Mod_hurt 15 = .ok (.getfield 91, 3) := by decide +kernel
theorem d_Mod_hurt_18 : decode b_Mod_hurt 18 = .ok (.bipush 11, 2) := by decide +kernel
theorem d_Mod_hurt_20 : decode b_Mod_hurt 20 = .ok (.isub, 1) := by decide +kernel
theorem d_Mod_hurt_21 : decode b_Mod_hurt 21 = .ok (.if_icmp .lt 5, 3) := by decide +kernel
theorem d_Mod_hurt_24 : decode b_Mod_hurt 24 = .ok (.iconst 0, 1) := by decide +kernel
theorem d_Mod_hurt_25 : decode b_Mod_hurt 25 = .ok (.ireturn, 1) := by decide +kernel
theorem d_Mod_hurt_26 : decode b_Mod_hurt 26 = .ok (.aload_n 0, 1) := by decide +kernel
theorem d_Mod_hurt_27 : decode b_Mod_hurt 27 = .ok (.getfield 49, 3) := by decide +kernel
theorem d_Mod_hurt_30 : decode b_Mod_hurt 30 = .ok (.bipush 8, 2) := by decide +kernel
theorem d_Mod_hurt_32 : decode b_Mod_hurt 32 = .ok (.idiv, 1) := by decide +kernel
theorem d_Mod_hurt_33 : decode b_Mod_hurt 33 = .ok (.bipush 51, 2) := by decide +kernel
theorem d_Mod_hurt_35 : decode b_Mod_hurt 35 = .ok (.idiv, 1) := by decide +kernel
theorem d_Mod_hurt_36 : decode b_Mod_hurt 36 = .ok (.istore_n 2, 1) := by decide +kernel
theorem d_Mod_hurt_37 : decode b_Mod_hurt 37 = .ok (.aload_n 0, 1) := by decide +kernel
theorem d_Mod_hurt_38 : decode b_Mod_hurt 38 = .ok (.getfield 40, 3) := by decide +kernel
theorem d_Mod_hurt_41 : decode b_Mod_hurt 41 = .ok (.iload_n 1, 1) := by decide +kernel
theorem d_Mod_hurt_42 : decode b_Mod_hurt 42 = .ok (.iaload, 1) := by decide +kernel
theorem d_Mod_hurt_43 : decode b_Mod_hurt 43 = .ok (.bipush 40, 2) := by decide +kernel
theorem d_Mod_hurt_45 : decode b_Mod_hurt 45 = .ok (.idiv, 1) := by decide +kernel
theorem d_Mod_hurt_46 : decode b_Mod_hurt 46 = .ok (.iload_n 2, 1) := by decide +kernel
theorem d_Mod_hurt_47 : decode b_Mod_hurt 47 = .ok (.if_icmp .gt 24, 3) := by decide +kernel
theorem d_Mod_hurt_50 : decode b_Mod_hurt 50 = .ok (.iload_n 2, 1) := by decide +kernel
theorem d_Mod_hurt_51 : decode b_Mod_hurt 51 = .ok (.aload_n 0, 1) := by decide +kernel
theorem d_Mod_hurt_52 : decode b_Mod_hurt 52 = .ok (.getfield 40, 3) := by decide +kernel
theorem d_Mod_hurt_55 : decode b_Mod_hurt 55 = .ok (.iload_n 1, 1) := by decide +kernel
theorem d_Mod_hurt_56 : decode b_Mod_hurt 56 = .ok (.iconst 1, 1) := by decide +kernel
theorem d_Mod_hurt_57 : decode b_Mod_hurt 57 = .ok (.iadd, 1) := by decide +kernel
theorem d_Mod_hurt_58 : decode b_Mod_hurt 58 = .ok (.iaload, 1) := by decide +kernel
theorem d_Mod_hurt_59 : decode b_Mod_hurt 59 = .ok (.iconst 1, 1) := by decide +kernel
theorem d_Mod_hurt_60 : decode b_Mod_hurt 60 = .ok (.isub, 1) := by decide +kernel
theorem d_Mod_hurt_61 : decode b_Mod_hurt 61 = .ok (.bipush 40, 2) := by decide +kernel
theorem d_Mod_hurt_63 : decode b_Mod_hurt 63 = .ok (.idiv, 1) := by decide +kernel
theorem d_Mod_hurt_64 : decode b_Mod_hurt 64 = .ok (.if_icmp .gt 7, 3) := by decide +kernel
theorem d_Mod_hurt_67 : decode b_Mod_hurt 67 = .ok (.iconst 1, 1) := by decide +kernel
theorem d_Mod_hurt_68 : decode b_Mod_hurt 68 = .ok (.goto 4, 3) := by decide +kernel
theorem d_Mod_hurt_71 : decode b_Mod_hurt 71 = .ok (.iconst 0, 1) := by decide +kernel
theorem d_Mod_hurt_72 : decode b_Mod_hurt 72 = .ok (.ireturn, 1) := by decide +kernel
theorem d_Mod_firstBehind_0 : decode b_Mod_firstBehind 0 = .ok (.iconst 0, 1) := by decide +kernel
theorem d_Mod_firstBehind_1 : decode b_Mod_firstBehind 1 = .ok (.istore_n 3, 1) := by decide +kernel
theorem d_Mod_firstBehind_2 : decode b_Mod_firstBehind 2 = .ok (.iload_n 3, 1) := by decide +kernel
theorem d_Mod_firstBehind_3 : decode b_Mod_firstBehind 3 = .ok (.aload_n 0, 1) := by decide +kernel
theorem d_Mod_firstBehind_4 : decode b_Mod_firstBehind 4 = .ok (.getfield 70, 3) := by decide +kernel
theorem d_Mod_firstBehind_7 : decode b_Mod_firstBehind 7 = .ok (.if_icmp .ge 29, 3) := by decide +kernel
theorem d_Mod_firstBehind_10 : decode b_Mod_firstBehind 10 = .ok (.aload_n 0, 1) := by decide +kernel
theorem d_Mod_firstBehind_11 : decode b_Mod_firstBehind 11 = .ok (.getfield 19, 3) := by decide +kernel
theorem d_Mod_firstBehind_14 : decode b_Mod_firstBehind 14 = .ok (.iload_n 3, 1) := by decide +kernel
theorem d_Mod_firstBehind_15 : decode b_Mod_firstBehind 15 = .ok (.iaload, 1) := by decide +kernel
theorem d_Mod_firstBehind_16 : decode b_Mod_firstBehind 16 = .ok (.iload_n 1, 1) := by decide +kernel
theorem d_Mod_firstBehind_17 : decode b_Mod_firstBehind 17 = .ok (.if_icmp .ne 13, 3) := by decide +kernel
theorem d_Mod_firstBehind_20 : decode b_Mod_firstBehind 20 = .ok (.aload_n 0, 1) := by decide +kernel
theorem d_Mod_firstBehind_21 : decode b_Mod_firstBehind 21 = .ok (.getfield 25, 3) := by decide +kernel
theorem d_Mod_firstBehind_24 : decode b_Mod_firstBehind 24 = .ok (.iload_n 3, 1) := by decide +kernel
theorem d_Mod_firstBehind_25 : decode b_Mod_firstBehind 25 = .ok (.iaload, 1) := by decide +kernel
theorem d_Mod_firstBehind_26 : decode b_Mod_firstBehind 26 = .ok (.iload_n 2, 1) := by decide +kernel
theorem d_Mod_firstBehind_27 : decode b_Mod_firstBehind 27 = .ok (.if_icmp .gt 9, 3) := by decide +kernel
theorem d_Mod_firstBehind_30 : decode b_Mod_firstBehind 30 = .ok (.iinc 3 1, 3) := by decide +kernel
theorem d_Mod_firstBehind_33 : decode b_Mod_firstBehind 33 = .ok (.goto (-31), 3) := by decide +kernel
theorem d_Mod_firstBehind_36 : decode b_Mod_firstBehind 36 = .ok (.iload_n 3, 1) := by decide +kernel
theorem d_Mod_firstBehind_37 : decode b_Mod_firstBehind 37 = .ok (.ireturn, 1) := by decide +kernel
theorem d_Mod_query_0 : decode b_Mod_query 0 = .ok (.aload_n 0, 1) := by decide +kernel
theorem d_Mod_query_1 : decode b_Mod_query 1 = .ok (.getfield 66, 3) := by decide +kernel
theorem d_Mod_query_4 : decode b_Mod_query 4 = .ok (.ifCond .eq 28, 3) := by decide +kernel
theorem d_Mod_query_7 : decode b_Mod_query 7 = .ok (.iload_n 1, 1) := by decide +kernel
theorem d_Mod_query_8 : decode b_Mod_query 8 = .ok (.iconst 0, 1) := by decide +kernel
theorem d_Mod_query_9 : decode b_Mod_query 9 = .ok (.iconst 1, 1) := by decide +kernel
theorem d_Mod_query_10 : decode b_Mod_query 10 = .ok (.invokestatic 56, 3) := by decide +kernel
theorem d_Mod_query_13 : decode b_Mod_query 13 = .ok (.ifCond .eq 19, 3) := by decide +kernel
theorem d_Mod_query_16 : decode b_Mod_query 16 = .ok (.iload_n 2, 1) := by decide +kernel
theorem d_Mod_query_17 : decode b_Mod_query 17 = .ok (.ifCond .lt 15, 3) := by decide +kernel
theorem d_Mod_query_20 : decode b_Mod_query 20 = .ok (.iload_n 3, 1) := by decide +kernel
theorem d_Mod_query_21 : decode b_Mod_query 21 = .ok (.sipush 4096, 3) := by decide +kernel
theorem d_Mod_query_24 : decode b_Mod_query 24 = .ok (.if_icmp .gt 8, 3) := by decide +kernel
theorem d_Mod_query_27 : decode b_Mod_query 27 = .ok (.iload_n 2, 1) := by decide +kernel
theorem d_Mod_query_28 : decode b_Mod_query 28 = .ok (.iload_n 3, 1) := by decide +kernel
theorem d_Mod_query_29 : decode b_Mod_query 29 = .ok (.if_icmp .lt 5, 3) := by decide +kernel
theorem d_Mod_query_32 : decode b_Mod_query 32 = .ok (.iconst (-1), 1) := by decide +kernel
theorem d_Mod_query_33 : decode b_Mod_query 33 = .ok (.ireturn, 1) := by decide +kernel
theorem d_Mod_query_34 : decode b_Mod_query 34 = .ok (.aload_n 0, 1) := by decide +kernel
theorem d_Mod_query_35 : decode b_Mod_query 35 = .ok (.iload_n 1, 1) := by decide +kernel
theorem d_Mod_query_36 : decode b_Mod_query 36 = .ok (.iload_n 2, 1) := by decide +kernel
theorem d_Mod_query_37 : decode b_Mod_query 37 = .ok (.bipush 64, 2) := by decide +kernel
theorem d_Mod_query_39 : decode b_Mod_query 39 = .ok (.idiv, 1) := by decide +kernel
theorem d_Mod_query_40 : decode b_Mod_query 40 = .ok (.bipush 64, 2) := by decide +kernel
theorem d_Mod_query_42 : decode b_Mod_query 42 = .ok (.imul, 1) := by decide +kernel
theorem d_Mod_query_43 : decode b_Mod_query 43 = .ok (.invokevirtual 111, 3) := by decide +kernel
theorem d_Mod_query_46 : decode b_Mod_query 46 = .ok (.istore 4, 2) := by decide +kernel
theorem d_Mod_query_48 : decode b_Mod_query 48 = .ok (.iconst 0, 1) := by decide +kernel
theorem d_Mod_query_49 : decode b_Mod_query 49 = .ok (.istore 5, 2) := by decide +kernel
theorem d_Mod_query_51 : decode b_Mod_query 51 = .ok (.iconst 0, 1) := by decide +kernel
theorem d_Mod_query_52 : decode b_Mod_query 52 = .ok (.istore 6, 2) := by decide +kernel
theorem d_Mod_query_54 : decode b_Mod_query 54 = .ok (.iload 4, 2) := by decide +kernel
theorem d_Mod_query_56 : decode b_Mod_query 56 = .ok (.istore 7, 2) := by decide +kernel
theorem d_Mod_query_58 : decode b_Mod_query 58 = .ok (.iload 7, 2) := by decide +kernel
theorem d_Mod_query_60 : decode b_Mod_query 60 = .ok (.aload_n 0, 1) := by decide +kernel
theorem d_Mod_query_61 : decode b_Mod_query 61 = .ok (.getfield 70, 3) := by decide +kernel
theorem d_Mod_query_64 : decode b_Mod_query 64 = .ok (.if_icmp .ge 58, 3) := by decide +kernel
theorem d_Mod_query_67 : decode b_Mod_query 67 = .ok (.aload_n 0, 1) := by decide +kernel
theorem d_Mod_query_68 : decode b_Mod_query 68 = .ok (.getfield 19, 3) := by decide +kernel
theorem d_Mod_query_71 : decode b_Mod_query 71 = .ok (.iload 7, 2) := by decide +kernel
theorem d_Mod_query_73 : decode b_Mod_query 73 = .ok (.iaload, 1) := by decide +kernel
theorem d_Mod_query_74 : decode b_Mod_query 74 = .ok (.iload_n 1, 1) := by decide +kernel
theorem d_Mod_query_75 : decode b_Mod_query 75 = .ok (.if_icmp .ne 41, 3) := by decide +kernel
theorem d_Mod_query_78 : decode b_Mod_query 78 = .ok (.aload_n 0, 1) := by decide +kernel
theorem d_Mod_query_79 : decode b_Mod_query 79 = .ok (.iload 7, 2) := by decide +kernel
theorem d_Mod_query_81 : decode b_Mod_query 81 = .ok (.invokevirtual 87, 3) := by decide +kernel
theorem d_Mod_query_84 : decode b_Mod_query 84 = .ok (.iload_n 2, 1) := by decide +kernel
theorem d_Mod_query_85 : decode b_Mod_query 85 = .ok (.iload_n 3, 1) := by decide +kernel
theorem d_Mod_query_86 : decode b_Mod_query 86 = .ok (.invokestatic 115, 3) := by decide +kernel
theorem d_Mod_query_89 : decode b_Mod_query 89 = .ok (.ifCond .eq 27, 3) := by decide +kernel
theorem d_Mod_query_92 : decode b_Mod_query 92 = .ok (.iinc 5 1, 3) := by decide +kernel
theorem d_Mod_query_95 : decode b_Mod_query 95 = .ok (.iload 6, 2) := by decide +kernel
theorem d_Mod_query_97 : decode b_Mod_query 97 = .ok (.ifCond .ne 12, 3) := by decide +kernel
theorem d_Mod_query_100 : decode b_Mod_query 100 = .ok (.aload_n 0, 1) := by decide +kernel
theorem d_Mod_query_101 : decode b_Mod_query 101 = .ok (.iload 7, 2) := by decide +kernel
theorem d_Mod_query_103 : decode b_Mod_query 103 = .ok (.invokevirtual 118, 3) := by decide +kernel
theorem d_Mod_query_106 : decode b_Mod_query 106 = .ok (.ifCond .eq 7, 3) := by decide +kernel
theorem d_Mod_query_109 : decode b_Mod_query 109 = .ok (.iconst 1, 1) := by decide +kernel
theorem d_Mod_query_110 : decode b_Mod_query 110 = .ok (.goto 4, 3) := by decide +kernel
theorem d_Mod_query_113 : decode b_Mod_query 113 = .ok (.iconst 0, 1) := by decide +kernel
theorem d_Mod_query_114 : decode b_Mod_query 114 = .ok (.istore 6, 2) := by decide +kernel
theorem d_Mod_query_116 : decode b_Mod_query 116 = .ok (.iinc 7 1, 3) := by decide +kernel
theorem d_Mod_query_119 : decode b_Mod_query 119 = .ok (.goto (-61), 3) := by decide +kernel
theorem d_Mod_query_122 : decode b_Mod_query 122 = .ok (.iload 6, 2) := by decide +kernel
theorem d_Mod_query_124 : decode b_Mod_query 124 = .ok (.ifCond .eq 6, 3) := by decide +kernel
theorem d_Mod_query_127 : decode b_Mod_query 127 = .ok (.bipush (-2), 2) := by decide +kernel
theorem d_Mod_query_129 : decode b_Mod_query 129 = .ok (.ireturn, 1) := by decide +kernel
theorem d_Mod_query_130 : decode b_Mod_query 130 = .ok (.aload_n 0, 1) := by decide +kernel
theorem d_Mod_query_131 : decode b_Mod_query 131 = .ok (.iload 5, 2) := by decide +kernel
theorem d_Mod_query_133 : decode b_Mod_query 133 = .ok (.putfield 108, 3) := by decide +kernel
theorem d_Mod_query_136 : decode b_Mod_query 136 = .ok (.aload_n 0, 1) := by decide +kernel
theorem d_Mod_query_137 : decode b_Mod_query 137 = .ok (.iconst 0, 1) := by decide +kernel
theorem d_Mod_query_138 : decode b_Mod_query 138 = .ok (.putfield 105, 3) := by decide +kernel
theorem d_Mod_query_141 : decode b_Mod_query 141 = .ok (.iload 4, 2) := by decide +kernel
theorem d_Mod_query_143 : decode b_Mod_query 143 = .ok (.istore 7, 2) := by decide +kernel
theorem d_Mod_query_145 : decode b_Mod_query 145 = .ok (.iload 7, 2) := by decide +kernel
theorem d_Mod_query_147 : decode b_Mod_query 147 = .ok (.aload_n 0, 1) := by decide +kernel
theorem d_Mod_query_148 : decode b_Mod_query 148 = .ok (.getfield 70, 3) := by decide +kernel
theorem d_Mod_query_151 : decode b_Mod_query 151 = .ok (.if_icmp .ge 63, 3) := by decide +kernel
theorem d_Mod_query_154 : decode b_Mod_query 154 = .ok (.aload_n 0, 1) := by decide +kernel
theorem d_Mod_query_155 : decode b_Mod_query 155 = .ok (.getfield 19, 3) := by decide +kernel
theorem d_Mod_query_158 : decode b_Mod_query 158 = .ok (.iload 7, 2) := by decide +kernel
theorem d_Mod_query_160 : decode b_Mod_query 160 = .ok (.iaload, 1) := by decide +kernel
theorem d_Mod_query_161 : decode b_Mod_query 161 = .ok (.iload_n 1, 1) := by decide +kernel
theorem d_Mod_query_162 : decode b_Mod_query 162 = .ok (.if_icmp .ne 46, 3) := by decide +kernel
theorem d_Mod_query_165 : decode b_Mod_query 165 = .ok (.aload_n 0, 1) := by decide +kernel
theorem d_Mod_query_166 : decode b_Mod_query 166 = .ok (.getfield 22, 3) := by decide +kernel
theorem d_Mod_query_169 : decode b_Mod_query 169 = .ok (.iload 7, 2) := by decide +kernel
theorem d_Mod_query_171 : decode b_Mod_query 171 = .ok (.iaload, 1) := by decide +kernel
theorem d_Mod_query_172 : decode b_Mod_query 172 = .ok (.iload_n 3, 1) := by decide +kernel
theorem d_Mod_query_173 : decode b_Mod_query 173 = .ok (.if_icmp .ge 35, 3) := by decide +kernel
theorem d_Mod_query_176 : decode b_Mod_query 176 = .ok (.aload_n 0, 1) := by decide +kernel
theorem d_Mod_query_177 : decode b_Mod_query 177 = .ok (.getfield 25, 3) := by decide +kernel
theorem d_Mod_query_180 : decode b_Mod_query 180 = .ok (.iload 7, 2) := by decide +kernel
theorem d_Mod_query_182 : decode b_Mod_query 182 = .ok (.iaload, 1) := by decide +kernel
theorem d_Mod_query_183 : decode b_Mod_query 183 = .ok (.iload_n 2, 1) := by decide +kernel
theorem d_Mod_query_184 : decode b_Mod_query 184 = .ok (.if_icmp .le 24, 3) := by decide +kernel
theorem d_Mod_query_187 : decode b_Mod_query 187 = .ok (.aload_n 0, 1) := by decide +kernel
theorem d_Mod_query_188 : decode b_Mod_query 188 = .ok (.getfield 53, 3) := by decide +kernel
theorem d_Mod_query_191 : decode b_Mod_query 191 = .ok (.aload_n 0, 1) := by decide +kernel
theorem d_Mod_query_192 : decode b_Mod_query 192 = .ok (.getfield 105, 3) := by decide +kernel
theorem d_Mod_query_195 : decode b_Mod_query 195 = .ok (.iload 7, 2) := by decide +kernel
theorem d_Mod_query_197 : decode b_Mod_query 197 = .ok (.iastore, 1) := by decide +kernel
theorem d_Mod_query_198 : decode b_Mod_query 198 = .ok (.aload_n 0, 1) := by decide +kernel
theorem d_Mod_query_199 : decode b_Mod_query 199 = .ok (.dup, 1) := by decide +kernel
theorem d_Mod_query_200 : decode b_Mod_query 200 = .ok (.getfield 105, 3) := by decide +kernel
theorem d_Mod_query_203 : decode b_Mod_query 203 = .ok (.iconst 1, 1) := by decide +kernel
theorem d_Mod_query_204 : decode b_Mod_query 204 = .ok (.iadd, 1) := by decide +kernel
theorem d_Mod_query_205 : decode b_Mod_query 205 = .ok (.putfield 105, 3) := by decide +kernel
theorem d_Mod_query_208 : decode b_Mod_query 208 = .ok (.iinc 7 1, 3) := by decide +kernel
theorem d_Mod_query_211 : decode b_Mod_query 211 = .ok (.goto (-66), 3) := by decide +kernel
theorem d_Mod_query_214 : decode b_Mod_query 214 = .ok (.aload_n 0, 1) := by decide +kernel
theorem d_Mod_query_215 : decode b_Mod_query 215 = .ok (.getfield 105, 3) := by decide +kernel
theorem d_Mod_query_218 : decode b_Mod_query 218 = .ok (.ireturn, 1) := by decide +kernel
theorem d_Mod_looked_0 : decode b_Mod_looked 0 = .ok (.aload_n 0, 1) := by decide +kernel
theorem d_Mod_looked_1 : decode b_Mod_looked 1 = .ok (.getfield 108, 3) := by decide +kernel
theorem d_Mod_looked_4 : decode b_Mod_looked 4 = .ok (.ireturn, 1) := by decide +kernel
theorem d_Mod_found_0 : decode b_Mod_found 0 = .ok (.iload_n 1, 1) := by decide +kernel
theorem d_Mod_found_1 : decode b_Mod_found 1 = .ok (.iconst 0, 1) := by decide +kernel
theorem d_Mod_found_2 : decode b_Mod_found 2 = .ok (.aload_n 0, 1) := by decide +kernel
theorem d_Mod_found_3 : decode b_Mod_found 3 = .ok (.getfield 105, 3) := by decide +kernel
theorem d_Mod_found_6 : decode b_Mod_found 6 = .ok (.iconst 1, 1) := by decide +kernel
theorem d_Mod_found_7 : decode b_Mod_found 7 = .ok (.isub, 1) := by decide +kernel
theorem d_Mod_found_8 : decode b_Mod_found 8 = .ok (.invokestatic 56, 3) := by decide +kernel
theorem d_Mod_found_11 : decode b_Mod_found 11 = .ok (.ifCond .ne 5, 3) := by decide +kernel
theorem d_Mod_found_14 : decode b_Mod_found 14 = .ok (.iconst (-1), 1) := by decide +kernel
theorem d_Mod_found_15 : decode b_Mod_found 15 = .ok (.ireturn, 1) := by decide +kernel
theorem d_Mod_found_16 : decode b_Mod_found 16 = .ok (.aload_n 0, 1) := by decide +kernel
theorem d_Mod_found_17 : decode b_Mod_found 17 = .ok (.getfield 53, 3) := by decide +kernel
theorem d_Mod_found_20 : decode b_Mod_found 20 = .ok (.iload_n 1, 1) := by decide +kernel
theorem d_Mod_found_21 : decode b_Mod_found 21 = .ok (.iaload, 1) := by decide +kernel
theorem d_Mod_found_22 : decode b_Mod_found 22 = .ok (.istore_n 3, 1) := by decide +kernel
theorem d_Mod_found_23 : decode b_Mod_found 23 = .ok (.iload_n 2, 1) := by decide +kernel
theorem d_Mod_found_24 : decode b_Mod_found 24 = .ok (.tableswitch 98 0 5 #[40, 64, 71, 77, 84, 91], 40) := by decide +kernel
theorem d_Mod_found_64 : decode b_Mod_found 64 = .ok (.sipush 3264, 3) := by decide +kernel
theorem d_Mod_found_67 : decode b_Mod_found 67 = .ok (.aload_n 0, 1) := by decide +kernel
theorem d_Mod_found_68 : decode b_Mod_found 68 = .ok (.getfield 40, 3) := by decide +kernel
theorem d_Mod_found_71 : decode b_Mod_found 71 = .ok (.iload_n 3, 1) := by decide +kernel
theorem d_Mod_found_72 : decode b_Mod_found 72 = .ok (.iaload, 1) := by decide +kernel
theorem d_Mod_found_73 : decode b_Mod_found 73 = .ok (.bipush 40, 2) := by decide +kernel
theorem d_Mod_found_75 : decode b_Mod_found 75 = .ok (.idiv, 1) := by decide +kernel
theorem d_Mod_found_76 : decode b_Mod_found 76 = .ok (.imul, 1) := by decide +kernel
theorem d_Mod_found_77 : decode b_Mod_found 77 = .ok (.aload_n 0, 1) := by decide +kernel
theorem d_Mod_found_78 : decode b_Mod_found 78 = .ok (.getfield 40, 3) := by decide +kernel
theorem d_Mod_found_81 : decode b_Mod_found 81 = .ok (.iload_n 3, 1) := by decide +kernel
theorem d_Mod_found_82 : decode b_Mod_found 82 = .ok (.iaload, 1) := by decide +kernel
theorem d_Mod_found_83 : decode b_Mod_found 83 = .ok (.bipush 40, 2) := by decide +kernel
theorem d_Mod_found_85 : decode b_Mod_found 85 = .ok (.irem, 1) := by decide +kernel
theorem d_Mod_found_86 : decode b_Mod_found 86 = .ok (.iadd, 1) := by decide +kernel
theorem d_Mod_found_87 : decode b_Mod_found 87 = .ok (.ireturn, 1) := by decide +kernel
theorem d_Mod_found_88 : decode b_Mod_found 88 = .ok (.aload_n 0, 1) := by decide +kernel
theorem d_Mod_found_89 : decode b_Mod_found 89 = .ok (.getfield 22, 3) := by decide +kernel
theorem d_Mod_found_92 : decode b_Mod_found 92 = .ok (.iload_n 3, 1) := by decide +kernel
theorem d_Mod_found_93 : decode b_Mod_found 93 = .ok (.iaload, 1) := by decide +kernel
theorem d_Mod_found_94 : decode b_Mod_found 94 = .ok (.ireturn, 1) := by decide +kernel
theorem d_Mod_found_95 : decode b_Mod_found 95 = .ok (.aload_n 0, 1) := by decide +kernel
theorem d_Mod_found_96 : decode b_Mod_found 96 = .ok (.iload_n 3, 1) := by decide +kernel
theorem d_Mod_found_97 : decode b_Mod_found 97 = .ok (.invokevirtual 87, 3) := by decide +kernel
theorem d_Mod_found_100 : decode b_Mod_found 100 = .ok (.ireturn, 1) := by decide +kernel
theorem d_Mod_found_101 : decode b_Mod_found 101 = .ok (.aload_n 0, 1) := by decide +kernel
theorem d_Mod_found_102 : decode b_Mod_found 102 = .ok (.getfield 25, 3) := by decide +kernel
theorem d_Mod_found_105 : decode b_Mod_found 105 = .ok (.iload_n 3, 1) := by decide +kernel
theorem d_Mod_found_106 : decode b_Mod_found 106 = .ok (.iaload, 1) := by decide +kernel
theorem d_Mod_found_107 : decode b_Mod_found 107 = .ok (.ireturn, 1) := by decide +kernel
theorem d_Mod_found_108 : decode b_Mod_found 108 = .ok (.aload_n 0, 1) := by decide +kernel
theorem d_Mod_found_109 : decode b_Mod_found 109 = .ok (.getfield 28, 3) := by decide +kernel
theorem d_Mod_found_112 : decode b_Mod_found 112 = .ok (.iload_n 3, 1) := by decide +kernel
theorem d_Mod_found_113 : decode b_Mod_found 113 = .ok (.iaload, 1) := by decide +kernel
theorem d_Mod_found_114 : decode b_Mod_found 114 = .ok (.ireturn, 1) := by decide +kernel
theorem d_Mod_found_115 : decode b_Mod_found 115 = .ok (.aload_n 0, 1) := by decide +kernel
theorem d_Mod_found_116 : decode b_Mod_found 116 = .ok (.getfield 34, 3) := by decide +kernel
theorem d_Mod_found_119 : decode b_Mod_found 119 = .ok (.iload_n 3, 1) := by decide +kernel
theorem d_Mod_found_120 : decode b_Mod_found 120 = .ok (.iaload, 1) := by decide +kernel
theorem d_Mod_found_121 : decode b_Mod_found 121 = .ok (.ireturn, 1) := by decide +kernel
theorem d_Mod_found_122 : decode b_Mod_found 122 = .ok (.iconst (-1), 1) := by decide +kernel
theorem d_Mod_found_123 : decode b_Mod_found 123 = .ok (.ireturn, 1) := by decide +kernel
theorem d_Mod_foundOp_0 : decode b_Mod_foundOp 0 = .ok (.iload_n 1, 1) := by decide +kernel
theorem d_Mod_foundOp_1 : decode b_Mod_foundOp 1 = .ok (.iconst 0, 1) := by decide +kernel
theorem d_Mod_foundOp_2 : decode b_Mod_foundOp 2 = .ok (.aload_n 0, 1) := by decide +kernel
theorem d_Mod_foundOp_3 : decode b_Mod_foundOp 3 = .ok (.getfield 105, 3) := by decide +kernel
theorem d_Mod_foundOp_6 : decode b_Mod_foundOp 6 = .ok (.iconst 1, 1) := by decide +kernel
theorem d_Mod_foundOp_7 : decode b_Mod_foundOp 7 = .ok (.isub, 1) := by decide +kernel
theorem d_Mod_foundOp_8 : decode b_Mod_foundOp 8 = .ok (.invokestatic 56, 3) := by decide +kernel
theorem d_Mod_foundOp_11 : decode b_Mod_foundOp 11 = .ok (.ifCond .eq 24, 3) := by decide +kernel
theorem d_Mod_foundOp_14 : decode b_Mod_foundOp 14 = .ok (.iload_n 2, 1) := by decide +kernel
theorem d_Mod_foundOp_15 : decode b_Mod_foundOp 15 = .ok (.iconst 0, 1) := by decide +kernel
theorem d_Mod_foundOp_16 : decode b_Mod_foundOp 16 = .ok (.aload_n 0, 1) := by decide +kernel
theorem d_Mod_foundOp_17 : decode b_Mod_foundOp 17 = .ok (.getfield 28, 3) := by decide +kernel
theorem d_Mod_foundOp_20 : decode b_Mod_foundOp 20 = .ok (.aload_n 0, 1) := by decide +kernel
theorem d_Mod_foundOp_21 : decode b_Mod_foundOp 21 = .ok (.getfield 53, 3) := by decide +kernel
theorem d_Mod_foundOp_24 : decode b_Mod_foundOp 24 = .ok (.iload_n 1, 1) := by decide +kernel
theorem d_Mod_foundOp_25 : decode b_Mod_foundOp 25 = .ok (.iaload, 1) := by decide +kernel
theorem d_Mod_foundOp_26 : decode b_Mod_foundOp 26 = .ok (.iaload, 1) := by decide +kernel
theorem d_Mod_foundOp_27 : decode b_Mod_foundOp 27 = .ok (.iconst 1, 1) := by decide +kernel
theorem d_Mod_foundOp_28 : decode b_Mod_foundOp 28 = .ok (.isub, 1) := by decide +kernel
theorem d_Mod_foundOp_29 : decode b_Mod_foundOp 29 = .ok (.invokestatic 56, 3) := by decide +kernel
theorem d_Mod_foundOp_32 : decode b_Mod_foundOp 32 = .ok (.ifCond .ne 5, 3) := by decide +kernel
theorem d_Mod_foundOp_35 : decode b_Mod_foundOp 35 = .ok (.iconst (-1), 1) := by decide +kernel
theorem d_Mod_foundOp_36 : decode b_Mod_foundOp 36 = .ok (.ireturn, 1) := by decide +kernel
theorem d_Mod_foundOp_37 : decode b_Mod_foundOp 37 = .ok (.aload_n 0, 1) := by decide +kernel
theorem d_Mod_foundOp_38 : decode b_Mod_foundOp 38 = .ok (.getfield 31, 3) := by decide +kernel
theorem d_Mod_foundOp_41 : decode b_Mod_foundOp 41 = .ok (.iconst 3, 1) := by decide +kernel
theorem d_Mod_foundOp_42 : decode b_Mod_foundOp 42 = .ok (.aload_n 0, 1) := by decide +kernel
theorem d_Mod_foundOp_43 : decode b_Mod_foundOp 43 = .ok (.getfield 53, 3) := by decide +kernel
theorem d_Mod_foundOp_46 : decode b_Mod_foundOp 46 = .ok (.iload_n 1, 1) := by decide +kernel
theorem d_Mod_foundOp_47 : decode b_Mod_foundOp 47 = .ok (.iaload, 1) := by decide +kernel
theorem d_Mod_foundOp_48 : decode b_Mod_foundOp 48 = .ok (.imul, 1) := by decide +kernel
theorem d_Mod_foundOp_49 : decode b_Mod_foundOp 49 = .ok (.iload_n 2, 1) := by decide +kernel
theorem d_Mod_foundOp_50 : decode b_Mod_foundOp 50 = .ok (.iadd, 1) := by decide +kernel
theorem d_Mod_foundOp_51 : decode b_Mod_foundOp 51 = .ok (.iaload, 1) := by decide +kernel
theorem d_Mod_foundOp_52 : decode b_Mod_foundOp 52 = .ok (.ireturn, 1) := by decide +kernel
theorem d_Mod_foundBase_0 : decode b_Mod_foundBase 0 = .ok (.iload_n 1, 1) := by decide +kernel
theorem d_Mod_foundBase_1 : decode b_Mod_foundBase 1 = .ok (.iconst 0, 1) := by decide +kernel
theorem d_Mod_foundBase_2 : decode b_Mod_foundBase 2 = .ok (.aload_n 0, 1) := by decide +kernel
theorem d_Mod_foundBase_3 : decode b_Mod_foundBase 3 = .ok (.getfield 105, 3) := by decide +kernel
theorem d_Mod_foundBase_6 : decode b_Mod_foundBase 6 = .ok (.iconst 1, 1) := by decide +kernel
theorem d_Mod_foundBase_7 : decode b_Mod_foundBase 7 = .ok (.isub, 1) := by decide +kernel
theorem d_Mod_foundBase_8 : decode b_Mod_foundBase 8 = .ok (.invokestatic 56, 3) := by decide +kernel
theorem d_Mod_foundBase_11 : decode b_Mod_foundBase 11 = .ok (.ifCond .eq 24, 3) := by decide +kernel
theorem d_Mod_foundBase_14 : decode b_Mod_foundBase 14 = .ok (.iload_n 2, 1) := by decide +kernel
theorem d_Mod_foundBase_15 : decode b_Mod_foundBase 15 = .ok (.iconst 0, 1) := by decide +kernel
theorem d_Mod_foundBase_16 : decode b_Mod_foundBase 16 = .ok (.aload_n 0, 1) := by decide +kernel
theorem d_Mod_foundBase_17 : decode b_Mod_foundBase 17 = .ok (.getfield 34, 3) := by decide +kernel
theorem d_Mod_foundBase_20 : decode b_Mod_foundBase 20 = .ok (.aload_n 0, 1) := by decide +kernel
theorem d_Mod_foundBase_21 : decode b_Mod_foundBase 21 = .ok (.getfield 53, 3) := by decide +kernel
theorem d_Mod_foundBase_24 : decode b_Mod_foundBase 24 = .ok (.iload_n 1, 1) := by decide +kernel
theorem d_Mod_foundBase_25 : decode b_Mod_foundBase 25 = .ok (.iaload, 1) := by decide +kernel
theorem d_Mod_foundBase_26 : decode b_Mod_foundBase 26 = .ok (.iaload, 1) := by decide +kernel
theorem d_Mod_foundBase_27 : decode b_Mod_foundBase 27 = .ok (.iconst 1, 1) := by decide +kernel
theorem d_Mod_foundBase_28 : decode b_Mod_foundBase 28 = .ok (.isub, 1) := by decide +kernel
theorem d_Mod_foundBase_29 : decode b_Mod_foundBase 29 = .ok (.invokestatic 56, 3) := by decide +kernel
theorem d_Mod_foundBase_32 : decode b_Mod_foundBase 32 = .ok (.ifCond .ne 5, 3) := by decide +kernel
theorem d_Mod_foundBase_35 : decode b_Mod_foundBase 35 = .ok (.iconst (-1), 1) := by decide +kernel
theorem d_Mod_foundBase_36 : decode b_Mod_foundBase 36 = .ok (.ireturn, 1) := by decide +kernel
theorem d_Mod_foundBase_37 : decode b_Mod_foundBase 37 = .ok (.aload_n 0, 1) := by decide +kernel
theorem d_Mod_foundBase_38 : decode b_Mod_foundBase 38 = .ok (.getfield 37, 3) := by decide +kernel
theorem d_Mod_foundBase_41 : decode b_Mod_foundBase 41 = .ok (.bipush 24, 2) := by decide +kernel
theorem d_Mod_foundBase_43 : decode b_Mod_foundBase 43 = .ok (.aload_n 0, 1) := by decide +kernel
theorem d_Mod_foundBase_44 : decode b_Mod_foundBase 44 = .ok (.getfield 53, 3) := by decide +kernel
theorem d_Mod_foundBase_47 : decode b_Mod_foundBase 47 = .ok (.iload_n 1, 1) := by decide +kernel
theorem d_Mod_foundBase_48 : decode b_Mod_foundBase 48 = .ok (.iaload, 1) := by decide +kernel
theorem d_Mod_foundBase_49 : decode b_Mod_foundBase 49 = .ok (.imul, 1) := by decide +kernel
theorem d_Mod_foundBase_50 : decode b_Mod_foundBase 50 = .ok (.iload_n 2, 1) := by decide +kernel
theorem d_Mod_foundBase_51 : decode b_Mod_foundBase 51 = .ok (.iadd, 1) := by decide +kernel
theorem d_Mod_foundBase_52 : decode b_Mod_foundBase 52 = .ok (.iaload, 1) := by decide +kernel
theorem d_Mod_foundBase_53 : decode b_Mod_foundBase 53 = .ok (.ireturn, 1) := by decide +kernel
