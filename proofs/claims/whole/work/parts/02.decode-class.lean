theorem d_Disk_init_0 : decode b_Disk_init 0 = .ok (.aload_n 0, 1) := by decide +kernel
theorem d_Disk_init_1 : decode b_Disk_init 1 = .ok (.invokespecial 3, 3) := by decide +kernel
theorem d_Disk_init_4 : decode b_Disk_init 4 = .ok (.aload_n 0, 1) := by decide +kernel
theorem d_Disk_init_5 : decode b_Disk_init 5 = .ok (.sipush 693, 3) := by decide +kernel
theorem d_Disk_init_8 : decode b_Disk_init 8 = .ok (.newarray .int, 2) := by decide +kernel
theorem d_Disk_init_10 : decode b_Disk_init 10 = .ok (.putfield 9, 3) := by decide +kernel
theorem d_Disk_init_13 : decode b_Disk_init 13 = .ok (.aload_n 0, 1) := by decide +kernel
theorem d_Disk_init_14 : decode b_Disk_init 14 = .ok (.bipush 15, 2) := by decide +kernel
theorem d_Disk_init_16 : decode b_Disk_init 16 = .ok (.newarray .int, 2) := by decide +kernel
theorem d_Disk_init_18 : decode b_Disk_init 18 = .ok (.putfield 15, 3) := by decide +kernel
theorem d_Disk_init_21 : decode b_Disk_init 21 = .ok (.aload_n 0, 1) := by decide +kernel
theorem d_Disk_init_22 : decode b_Disk_init 22 = .ok (.iconst (-1), 1) := by decide +kernel
theorem d_Disk_init_23 : decode b_Disk_init 23 = .ok (.putfield 18, 3) := by decide +kernel
theorem d_Disk_init_26 : decode b_Disk_init 26 = .ok (.return_, 1) := by decide +kernel
theorem d_Disk_empty_0 : decode b_Disk_empty 0 = .ok (.aload_n 0, 1) := by decide +kernel
theorem d_Disk_empty_1 : decode b_Disk_empty 1 = .ok (.iconst 0, 1) := by decide +kernel
theorem d_Disk_empty_2 : decode b_Disk_empty 2 = .ok (.putfield 22, 3) := by decide +kernel
theorem d_Disk_empty_5 : decode b_Disk_empty 5 = .ok (.aload_n 0, 1) := by decide +kernel
theorem d_Disk_empty_6 : decode b_Disk_empty 6 = .ok (.iconst 0, 1) := by decide +kernel
theorem d_Disk_empty_7 : decode b_Disk_empty 7 = .ok (.putfield 25, 3) := by decide +kernel
theorem d_Disk_empty_10 : decode b_Disk_empty 10 = .ok (.aload_n 0, 1) := by decide +kernel
theorem d_Disk_empty_11 : decode b_Disk_empty 11 = .ok (.iconst (-1), 1) := by decide +kernel
theorem d_Disk_empty_12 : decode b_Disk_empty 12 = .ok (.putfield 18, 3) := by decide +kernel
theorem d_Disk_empty_15 : decode b_Disk_empty 15 = .ok (.return_, 1) := by decide +kernel
theorem d_Disk_isWritten_0 : decode b_Disk_isWritten 0 = .ok (.aload_n 0, 1) := by decide +kernel
theorem d_Disk_isWritten_1 : decode b_Disk_isWritten 1 = .ok (.getfield 22, 3) := by decide +kernel
theorem d_Disk_isWritten_4 : decode b_Disk_isWritten 4 = .ok (.ifCond .le 7, 3) := by decide +kernel
theorem d_Disk_isWritten_7 : decode b_Disk_isWritten 7 = .ok (.iconst 1, 1) := by decide +kernel
theorem d_Disk_isWritten_8 : decode b_Disk_isWritten 8 = .ok (.goto 4, 3) := by decide +kernel
theorem d_Disk_isWritten_11 : decode b_Disk_isWritten 11 = .ok (.iconst 0, 1) := by decide +kernel
theorem d_Disk_isWritten_12 : decode b_Disk_isWritten 12 = .ok (.ireturn, 1) := by decide +kernel
theorem d_Disk_write_0 : decode b_Disk_write 0 = .ok (.iconst 0, 1) := by decide +kernel
theorem d_Disk_write_1 : decode b_Disk_write 1 = .ok (.istore_n 2, 1) := by decide +kernel
theorem d_Disk_write_2 : decode b_Disk_write 2 = .ok (.iload_n 2, 1) := by decide +kernel
theorem d_Disk_write_3 : decode b_Disk_write 3 = .ok (.aload_n 1, 1) := by decide +kernel
theorem d_Disk_write_4 : decode b_Disk_write 4 = .ok (.getfield 28, 3) := by decide +kernel
theorem d_Disk_write_7 : decode b_Disk_write 7 = .ok (.if_icmp .ge 26, 3) := by decide +kernel
theorem d_Disk_write_10 : decode b_Disk_write 10 = .ok (.aload_n 0, 1) := by decide +kernel
theorem d_Disk_write_11 : decode b_Disk_write 11 = .ok (.aload_n 1, 1) := by decide +kernel
theorem d_Disk_write_12 : decode b_Disk_write 12 = .ok (.iload_n 2, 1) := by decide +kernel
theorem d_Disk_write_13 : decode b_Disk_write 13 = .ok (.bipush 40, 2) := by decide +kernel
theorem d_Disk_write_15 : decode b_Disk_write 15 = .ok (.aload_n 1, 1) := by decide +kernel
theorem d_Disk_write_16 : decode b_Disk_write 16 = .ok (.getfield 28, 3) := by decide +kernel
theorem d_Disk_write_19 : decode b_Disk_write 19 = .ok (.iload_n 2, 1) := by decide +kernel
theorem d_Disk_write_20 : decode b_Disk_write 20 = .ok (.isub, 1) := by decide +kernel
theorem d_Disk_write_21 : decode b_Disk_write 21 = .ok (.invokestatic 33, 3) := by decide +kernel
theorem d_Disk_write_24 : decode b_Disk_write 24 = .ok (.invokevirtual 39, 3) := by decide +kernel
theorem d_Disk_write_27 : decode b_Disk_write 27 = .ok (.iinc 2 40, 3) := by decide +kernel
theorem d_Disk_write_30 : decode b_Disk_write 30 = .ok (.goto (-28), 3) := by decide +kernel
theorem d_Disk_write_33 : decode b_Disk_write 33 = .ok (.aload_n 0, 1) := by decide +kernel
theorem d_Disk_write_34 : decode b_Disk_write 34 = .ok (.aload_n 1, 1) := by decide +kernel
theorem d_Disk_write_35 : decode b_Disk_write 35 = .ok (.aload_n 1, 1) := by decide +kernel
theorem d_Disk_write_36 : decode b_Disk_write 36 = .ok (.getfield 28, 3) := by decide +kernel
theorem d_Disk_write_39 : decode b_Disk_write 39 = .ok (.iconst 0, 1) := by decide +kernel
theorem d_Disk_write_40 : decode b_Disk_write 40 = .ok (.invokevirtual 39, 3) := by decide +kernel
theorem d_Disk_write_43 : decode b_Disk_write 43 = .ok (.return_, 1) := by decide +kernel
theorem d_Disk_at_0 : decode b_Disk_at 0 = .ok (.iload_n 1, 1) := by decide +kernel
theorem d_Disk_at_1 : decode b_Disk_at 1 = .ok (.ifCond .lt 11, 3) := by decide +kernel
theorem d_Disk_at_4 : decode b_Disk_at 4 = .ok (.iload_n 1, 1) := by decide +kernel
theorem d_Disk_at_5 : decode b_Disk_at 5 = .ok (.aload_n 0, 1) := by decide +kernel
theorem d_Disk_at_6 : decode b_Disk_at 6 = .ok (.getfield 22, 3) := by decide +kernel
theorem d_Disk_at_9 : decode b_Disk_at 9 = .ok (.if_icmp .lt 7, 3) := by decide +kernel
theorem d_Disk_at_12 : decode b_Disk_at 12 = .ok (.iconst (-1), 1) := by decide +kernel
theorem d_Disk_at_13 : decode b_Disk_at 13 = .ok (.goto 9, 3) := by decide +kernel
theorem d_Disk_at_16 : decode b_Disk_at 16 = .ok (.aload_n 0, 1) := by decide +kernel
theorem d_Disk_at_17 : decode b_Disk_at 17 = .ok (.getfield 9, 3) := by decide +kernel
theorem d_Disk_at_20 : decode b_Disk_at 20 = .ok (.iload_n 1, 1) := by decide +kernel
theorem d_Disk_at_21 : decode b_Disk_at 21 = .ok (.iaload, 1) := by decide +kernel
theorem d_Disk_at_22 : decode b_Disk_at 22 = .ok (.ireturn, 1) := by decide +kernel
theorem d_Disk_turnBit_0 : decode b_Disk_turnBit 0 = .ok (.iload_n 1, 1) := by decide +kernel
theorem d_Disk_turnBit_1 : decode b_Disk_turnBit 1 = .ok (.ifCond .lt 21, 3) := by decide +kernel
theorem d_Disk_turnBit_4 : decode b_Disk_turnBit 4 = .ok (.iload_n 1, 1) := by decide +kernel
theorem d_Disk_turnBit_5 : decode b_Disk_turnBit 5 = .ok (.aload_n 0, 1) := by decide +kernel
theorem d_Disk_turnBit_6 : decode b_Disk_turnBit 6 = .ok (.getfield 22, 3) := by decide +kernel
theorem d_Disk_turnBit_9 : decode b_Disk_turnBit 9 = .ok (.if_icmp .ge 13, 3) := by decide +kernel
theorem d_Disk_turnBit_12 : decode b_Disk_turnBit 12 = .ok (.iload_n 2, 1) := by decide +kernel
theorem d_Disk_turnBit_13 : decode b_Disk_turnBit 13 = .ok (.ifCond .lt 9, 3) := by decide +kernel
theorem d_Disk_turnBit_16 : decode b_Disk_turnBit 16 = .ok (.iload_n 2, 1) := by decide +kernel
theorem d_Disk_turnBit_17 : decode b_Disk_turnBit 17 = .ok (.bipush 7, 2) := by decide +kernel
theorem d_Disk_turnBit_19 : decode b_Disk_turnBit 19 = .ok (.if_icmp .le 5, 3) := by decide +kernel
theorem d_Disk_turnBit_22 : decode b_Disk_turnBit 22 = .ok (.iconst 0, 1) := by decide +kernel
theorem d_Disk_turnBit_23 : decode b_Disk_turnBit 23 = .ok (.ireturn, 1) := by decide +kernel
theorem d_Disk_turnBit_24 : decode b_Disk_turnBit 24 = .ok (.bipush 8, 2) := by decide +kernel
theorem d_Disk_turnBit_26 : decode b_Disk_turnBit 26 = .ok (.iload_n 1, 1) := by decide +kernel
theorem d_Disk_turnBit_27 : decode b_Disk_turnBit 27 = .ok (.imul, 1) := by decide +kernel
theorem d_Disk_turnBit_28 : decode b_Disk_turnBit 28 = .ok (.iload_n 2, 1) := by decide +kernel
theorem d_Disk_turnBit_29 : decode b_Disk_turnBit 29 = .ok (.iadd, 1) := by decide +kernel
theorem d_Disk_turnBit_30 : decode b_Disk_turnBit 30 = .ok (.istore_n 3, 1) := by decide +kernel
theorem d_Disk_turnBit_31 : decode b_Disk_turnBit 31 = .ok (.aload_n 0, 1) := by decide +kernel
theorem d_Disk_turnBit_32 : decode b_Disk_turnBit 32 = .ok (.getfield 18, 3) := by decide +kernel
theorem d_Disk_turnBit_35 : decode b_Disk_turnBit 35 = .ok (.iconst (-1), 1) := by decide +kernel
theorem d_Disk_turnBit_36 : decode b_Disk_turnBit 36 = .ok (.if_icmp .eq 13, 3) := by decide +kernel
theorem d_Disk_turnBit_39 : decode b_Disk_turnBit 39 = .ok (.aload_n 0, 1) := by decide +kernel
theorem d_Disk_turnBit_40 : decode b_Disk_turnBit 40 = .ok (.getfield 18, 3) := by decide +kernel
theorem d_Disk_turnBit_43 : decode b_Disk_turnBit 43 = .ok (.iload_n 3, 1) := by decide +kernel
theorem d_Disk_turnBit_44 : decode b_Disk_turnBit 44 = .ok (.if_icmp .eq 5, 3) := by decide +kernel
theorem d_Disk_turnBit_47 : decode b_Disk_turnBit 47 = .ok (.iconst 0, 1) := by decide +kernel
theorem d_Disk_turnBit_48 : decode b_Disk_turnBit 48 = .ok (.ireturn, 1) := by decide +kernel
theorem d_Disk_turnBit_49 : decode b_Disk_turnBit 49 = .ok (.aload_n 0, 1) := by decide +kernel
theorem d_Disk_turnBit_50 : decode b_Disk_turnBit 50 = .ok (.getfield 9, 3) := by decide +kernel
theorem d_Disk_turnBit_53 : decode b_Disk_turnBit 53 = .ok (.iload_n 1, 1) := by decide +kernel
theorem d_Disk_turnBit_54 : decode b_Disk_turnBit 54 = .ok (.dup2, 1) := by decide +kernel
theorem d_Disk_turnBit_55 : decode b_Disk_turnBit 55 = .ok (.iaload, 1) := by decide +kernel
theorem d_Disk_turnBit_56 : decode b_Disk_turnBit 56 = .ok (.iconst 1, 1) := by decide +kernel
theorem d_Disk_turnBit_57 : decode b_Disk_turnBit 57 = .ok (.iload_n 2, 1) := by decide +kernel
theorem d_Disk_turnBit_58 : decode b_Disk_turnBit 58 = .ok (.ishl, 1) := by decide +kernel
theorem d_Disk_turnBit_59 : decode b_Disk_turnBit 59 = .ok (.ixor, 1) := by decide +kernel
theorem d_Disk_turnBit_60 : decode b_Disk_turnBit 60 = .ok (.iastore, 1) := by decide +kernel
theorem d_Disk_turnBit_61 : decode b_Disk_turnBit 61 = .ok (.aload_n 0, 1) := by decide +kernel
theorem d_Disk_turnBit_62 : decode b_Disk_turnBit 62 = .ok (.aload_n 0, 1) := by decide +kernel
theorem d_Disk_turnBit_63 : decode b_Disk_turnBit 63 = .ok (.getfield 18, 3) := by decide +kernel
theorem d_Disk_turnBit_66 : decode b_Disk_turnBit 66 = .ok (.iconst (-1), 1) := by decide +kernel
theorem d_Disk_turnBit_67 : decode b_Disk_turnBit 67 = .ok (.if_icmp .ne 7, 3) := by decide +kernel
theorem d_Disk_turnBit_70 : decode b_Disk_turnBit 70 = .ok (.iload_n 3, 1) := by decide +kernel
theorem d_Disk_turnBit_71 : decode b_Disk_turnBit 71 = .ok (.goto 4, 3) := by decide +kernel
theorem d_Disk_turnBit_74 : decode b_Disk_turnBit 74 = .ok (.iconst (-1), 1) := by decide +kernel
theorem d_Disk_turnBit_75 : decode b_Disk_turnBit 75 = .ok (.putfield 18, 3) := by decide +kernel
theorem d_Disk_turnBit_78 : decode b_Disk_turnBit 78 = .ok (.iconst 1, 1) := by decide +kernel
theorem d_Disk_turnBit_79 : decode b_Disk_turnBit 79 = .ok (.ireturn, 1) := by decide +kernel
theorem d_Disk_areSound_0 : decode b_Disk_areSound 0 = .ok (.iload_n 1, 1) := by decide +kernel
theorem d_Disk_areSound_1 : decode b_Disk_areSound 1 = .ok (.istore_n 3, 1) := by decide +kernel
theorem d_Disk_areSound_2 : decode b_Disk_areSound 2 = .ok (.iload_n 3, 1) := by decide +kernel
theorem d_Disk_areSound_3 : decode b_Disk_areSound 3 = .ok (.iload_n 2, 1) := by decide +kernel
theorem d_Disk_areSound_4 : decode b_Disk_areSound 4 = .ok (.if_icmp .gt 19, 3) := by decide +kernel
theorem d_Disk_areSound_7 : decode b_Disk_areSound 7 = .ok (.aload_n 0, 1) := by decide +kernel
theorem d_Disk_areSound_8 : decode b_Disk_areSound 8 = .ok (.iload_n 3, 1) := by decide +kernel
theorem d_Disk_areSound_9 : decode b_Disk_areSound 9 = .ok (.invokevirtual 43, 3) := by decide +kernel
theorem d_Disk_areSound_12 : decode b_Disk_areSound 12 = .ok (.ifCond .ne 5, 3) := by decide +kernel
theorem d_Disk_areSound_15 : decode b_Disk_areSound 15 = .ok (.iconst 0, 1) := by decide +kernel
theorem d_Disk_areSound_16 : decode b_Disk_areSound 16 = .ok (.ireturn, 1) := by decide +kernel
theorem d_Disk_areSound_17 : decode b_Disk_areSound 17 = .ok (.iinc 3 1, 3) := by decide +kernel
theorem d_Disk_areSound_20 : decode b_Disk_areSound 20 = .ok (.goto (-18), 3) := by decide +kernel
theorem d_Disk_areSound_23 : decode b_Disk_areSound 23 = .ok (.iconst 1, 1) := by decide +kernel
theorem d_Disk_areSound_24 : decode b_Disk_areSound 24 = .ok (.ireturn, 1) := by decide +kernel
theorem d_Disk_streamByte_0 : decode b_Disk_streamByte 0 = .ok (.iload_n 1, 1) := by decide +kernel
theorem d_Disk_streamByte_1 : decode b_Disk_streamByte 1 = .ok (.bipush 40, 2) := by decide +kernel
theorem d_Disk_streamByte_3 : decode b_Disk_streamByte 3 = .ok (.idiv, 1) := by decide +kernel
theorem d_Disk_streamByte_4 : decode b_Disk_streamByte 4 = .ok (.istore_n 2, 1) := by decide +kernel
theorem d_Disk_streamByte_5 : decode b_Disk_streamByte 5 = .ok (.iload_n 1, 1) := by decide +kernel
theorem d_Disk_streamByte_6 : decode b_Disk_streamByte 6 = .ok (.ifCond .lt 11, 3) := by decide +kernel
theorem d_Disk_streamByte_9 : decode b_Disk_streamByte 9 = .ok (.iload_n 2, 1) := by decide +kernel
theorem d_Disk_streamByte_10 : decode b_Disk_streamByte 10 = .ok (.aload_n 0, 1) := by decide +kernel
theorem d_Disk_streamByte_11 : decode b_Disk_streamByte 11 = .ok (.getfield 25, 3) := by decide +kernel
theorem d_Disk_streamByte_14 : decode b_Disk_streamByte 14 = .ok (.if_icmp .lt 5, 3) := by decide +kernel
theorem d_Disk_streamByte_17 : decode b_Disk_streamByte 17 = .ok (.iconst 0, 1) := by decide +kernel
theorem d_Disk_streamByte_18 : decode b_Disk_streamByte 18 = .ok (.ireturn, 1) := by decide +kernel
theorem d_Disk_streamByte_19 : decode b_Disk_streamByte 19 = .ok (.iconst 0, 1) := by decide +kernel
theorem d_Disk_streamByte_20 : decode b_Disk_streamByte 20 = .ok (.aload_n 0, 1) := by decide +kernel
theorem d_Disk_streamByte_21 : decode b_Disk_streamByte 21 = .ok (.aload_n 0, 1) := by decide +kernel
theorem d_Disk_streamByte_22 : decode b_Disk_streamByte 22 = .ok (.getfield 15, 3) := by decide +kernel
theorem d_Disk_streamByte_25 : decode b_Disk_streamByte 25 = .ok (.iload_n 2, 1) := by decide +kernel
theorem d_Disk_streamByte_26 : decode b_Disk_streamByte 26 = .ok (.iaload, 1) := by decide +kernel
theorem d_Disk_streamByte_27 : decode b_Disk_streamByte 27 = .ok (.bipush 7, 2) := by decide +kernel
theorem d_Disk_streamByte_29 : decode b_Disk_streamByte 29 = .ok (.iadd, 1) := by decide +kernel
theorem d_Disk_streamByte_30 : decode b_Disk_streamByte 30 = .ok (.iload_n 1, 1) := by decide +kernel
theorem d_Disk_streamByte_31 : decode b_Disk_streamByte 31 = .ok (.bipush 40, 2) := by decide +kernel
theorem d_Disk_streamByte_33 : decode b_Disk_streamByte 33 = .ok (.irem, 1) := by decide +kernel
theorem d_Disk_streamByte_34 : decode b_Disk_streamByte 34 = .ok (.iadd, 1) := by decide +kernel
theorem d_Disk_streamByte_35 : decode b_Disk_streamByte 35 = .ok (.invokevirtual 47, 3) := by decide +kernel
theorem d_Disk_streamByte_38 : decode b_Disk_streamByte 38 = .ok (.invokestatic 51, 3) := by decide +kernel
theorem d_Disk_streamByte_41 : decode b_Disk_streamByte 41 = .ok (.ireturn, 1) := by decide +kernel
theorem d_Disk_offsetOf_0 : decode b_Disk_offsetOf 0 = .ok (.iload_n 1, 1) := by decide +kernel
theorem d_Disk_offsetOf_1 : decode b_Disk_offsetOf 1 = .ok (.bipush 40, 2) := by decide +kernel
theorem d_Disk_offsetOf_3 : decode b_Disk_offsetOf 3 = .ok (.idiv, 1) := by decide +kernel
theorem d_Disk_offsetOf_4 : decode b_Disk_offsetOf 4 = .ok (.istore_n 2, 1) := by decide +kernel
theorem d_Disk_offsetOf_5 : decode b_Disk_offsetOf 5 = .ok (.iload_n 1, 1) := by decide +kernel
theorem d_Disk_offsetOf_6 : decode b_Disk_offsetOf 6 = .ok (.ifCond .lt 11, 3) := by decide +kernel
theorem d_Disk_offsetOf_9 : decode b_Disk_offsetOf 9 = .ok (.iload_n 2, 1) := by decide +kernel
theorem d_Disk_offsetOf_10 : decode b_Disk_offsetOf 10 = .ok (.aload_n 0, 1) := by decide +kernel
theorem d_Disk_offsetOf_11 : decode b_Disk_offsetOf 11 = .ok (.getfield 25, 3) := by decide +kernel
theorem d_Disk_offsetOf_14 : decode b_Disk_offsetOf 14 = .ok (.if_icmp .lt 5, 3) := by decide +kernel
theorem d_Disk_offsetOf_17 : decode b_Disk_offsetOf 17 = .ok (.iconst (-1), 1) := by decide +kernel
theorem d_Disk_offsetOf_18 : decode b_Disk_offsetOf 18 = .ok (.ireturn, 1) := by decide +kernel
theorem d_Disk_offsetOf_19 : decode b_Disk_offsetOf 19 = .ok (.bipush 64, 2) := by decide +kernel
theorem d_Disk_offsetOf_21 : decode b_Disk_offsetOf 21 = .ok (.aload_n 0, 1) := by decide +kernel
theorem d_Disk_offsetOf_22 : decode b_Disk_offsetOf 22 = .ok (.getfield 15, 3) := by decide +kernel
theorem d_Disk_offsetOf_25 : decode b_Disk_offsetOf 25 = .ok (.iload_n 2, 1) := by decide +kernel
theorem d_Disk_offsetOf_26 : decode b_Disk_offsetOf 26 = .ok (.iaload, 1) := by decide +kernel
theorem d_Disk_offsetOf_27 : decode b_Disk_offsetOf 27 = .ok (.imul, 1) := by decide +kernel
theorem d_Disk_offsetOf_28 : decode b_Disk_offsetOf 28 = .ok (.iload_n 1, 1) := by decide +kernel
theorem d_Disk_offsetOf_29 : decode b_Disk_offsetOf 29 = .ok (.bipush 40, 2) := by decide +kernel
theorem d_Disk_offsetOf_31 : decode b_Disk_offsetOf 31 = .ok (.irem, 1) := by decide +kernel
theorem d_Disk_offsetOf_32 : decode b_Disk_offsetOf 32 = .ok (.iadd, 1) := by decide +kernel
theorem d_Disk_offsetOf_33 : decode b_Disk_offsetOf 33 = .ok (.ireturn, 1) := by decide +kernel
theorem d_Disk_appendBlock_0 : decode b_Disk_appendBlock 0 = .ok (.aload_n 0, 1) := by decide +kernel
theorem d_Disk_appendBlock_1 : decode b_Disk_appendBlock 1 = .ok (.getfield 25, 3) := by decide +kernel
theorem d_Disk_appendBlock_4 : decode b_Disk_appendBlock 4 = .ok (.aload_n 0, 1) := by decide +kernel
theorem d_Disk_appendBlock_5 : decode b_Disk_appendBlock 5 = .ok (.getfield 15, 3) := by decide +kernel
theorem d_Disk_appendBlock_8 : decode b_Disk_appendBlock 8 = .ok (.arraylength, 1) := by decide +kernel
theorem d_Disk_appendBlock_9 : decode b_Disk_appendBlock 9 = .ok (.if_icmp .ge 23, 3) := by decide +kernel
theorem d_Disk_appendBlock_12 : decode b_Disk_appendBlock 12 = .ok (.aload_n 0, 1) := by decide +kernel
theorem d_Disk_appendBlock_13 : decode b_Disk_appendBlock 13 = .ok (.getfield 15, 3) := by decide +kernel
theorem d_Disk_appendBlock_16 : decode b_Disk_appendBlock 16 = .ok (.aload_n 0, 1) := by decide +kernel
theorem d_Disk_appendBlock_17 : decode b_Disk_appendBlock 17 = .ok (.dup, 1) := by decide +kernel
theorem d_Disk_appendBlock_18 : decode b_Disk_appendBlock 18 = .ok (.getfield 25, 3) := by decide +kernel
theorem d_Disk_appendBlock_21 : decode b_Disk_appendBlock 21 = .ok (.dup_x1, 1) := by decide +kernel
theorem d_Disk_appendBlock_22 : decode b_Disk_appendBlock 22 = .ok (.iconst 1, 1) := by decide +kernel
theorem d_Disk_appendBlock_23 : decode b_Disk_appendBlock 23 = .ok (.iadd, 1) := by decide +kernel
theorem d_Disk_appendBlock_24 : decode b_Disk_appendBlock 24 = .ok (.putfield 25, 3) := by decide +kernel
theorem d_Disk_appendBlock_27 : decode b_Disk_appendBlock 27 = .ok (.aload_n 0, 1) := by decide +kernel
theorem d_Disk_appendBlock_28 : decode b_Disk_appendBlock 28 = .ok (.getfield 22, 3) := by decide +kernel
theorem d_Disk_appendBlock_31 : decode b_Disk_appendBlock 31 = .ok (.iastore, 1) := by decide +kernel
theorem d_Disk_appendBlock_32 : decode b_Disk_appendBlock 32 = .ok (.aload_n 0, 1) := by decide +kernel
theorem d_Disk_appendBlock_33 : decode b_Disk_appendBlock 33 = .ok (.bipush 31, 2) := by decide +kernel
theorem d_Disk_appendBlock_35 : decode b_Disk_appendBlock 35 = .ok (.invokevirtual 54, 3) := by decide +kernel
theorem d_Disk_appendBlock_38 : decode b_Disk_appendBlock 38 = .ok (.aload_n 0, 1) := by decide +kernel
theorem d_Disk_appendBlock_39 : decode b_Disk_appendBlock 39 = .ok (.sipush 139, 3) := by decide +kernel
theorem d_Disk_appendBlock_42 : decode b_Disk_appendBlock 42 = .ok (.invokevirtual 54, 3) := by decide +kernel
theorem d_Disk_appendBlock_45 : decode b_Disk_appendBlock 45 = .ok (.aload_n 0, 1) := by decide +kernel
theorem d_Disk_appendBlock_46 : decode b_Disk_appendBlock 46 = .ok (.iconst 1, 1) := by decide +kernel
theorem d_Disk_appendBlock_47 : decode b_Disk_appendBlock 47 = .ok (.invokevirtual 54, 3) := by decide +kernel
theorem d_Disk_appendBlock_50 : decode b_Disk_appendBlock 50 = .ok (.aload_n 0, 1) := by decide +kernel
theorem d_Disk_appendBlock_51 : decode b_Disk_appendBlock 51 = .ok (.iload_n 3, 1) := by decide +kernel
theorem d_Disk_appendBlock_52 : decode b_Disk_appendBlock 52 = .ok (.iconst 2, 1) := by decide +kernel
theorem d_Disk_appendBlock_53 : decode b_Disk_appendBlock 53 = .ok (.invokevirtual 58, 3) := by decide +kernel
theorem d_Disk_appendBlock_56 : decode b_Disk_appendBlock 56 = .ok (.aload_n 0, 1) := by decide +kernel
theorem d_Disk_appendBlock_57 : decode b_Disk_appendBlock 57 = .ok (.iload_n 3, 1) := by decide +kernel
theorem d_Disk_appendBlock_58 : decode b_Disk_appendBlock 58 = .ok (.iconst (-1), 1) := by decide +kernel
theorem d_Disk_appendBlock_59 : decode b_Disk_appendBlock 59 = .ok (.ixor, 1) := by decide +kernel
theorem d_Disk_appendBlock_60 : decode b_Disk_appendBlock 60 = .ok (.iconst 2, 1) := by decide +kernel
theorem d_Disk_appendBlock_61 : decode b_Disk_appendBlock 61 = .ok (.invokevirtual 58, 3) := by decide +kernel
theorem d_Disk_appendBlock_64 : decode b_Disk_appendBlock 64 = .ok (.aload_n 0, 1) := by decide +kernel
theorem d_Disk_appendBlock_65 : decode b_Disk_appendBlock 65 = .ok (.getfield 22, 3) := by decide +kernel
theorem d_Disk_appendBlock_68 : decode b_Disk_appendBlock 68 = .ok (.istore 4, 2) := by decide +kernel
theorem d_Disk_appendBlock_70 : decode b_Disk_appendBlock 70 = .ok (.iload_n 2, 1) := by decide +kernel
theorem d_Disk_appendBlock_71 : decode b_Disk_appendBlock 71 = .ok (.istore 5, 2) := by decide +kernel
theorem d_Disk_appendBlock_73 : decode b_Disk_appendBlock 73 = .ok (.iload 5, 2) := by decide +kernel
theorem d_Disk_appendBlock_75 : decode b_Disk_appendBlock 75 = .ok (.iload_n 2, 1) := by decide +kernel
theorem d_Disk_appendBlock_76 : decode b_Disk_appendBlock 76 = .ok (.iload_n 3, 1) := by decide +kernel
theorem d_Disk_appendBlock_77 : decode b_Disk_appendBlock 77 = .ok (.iadd, 1) := by decide +kernel
theorem d_Disk_appendBlock_78 : decode b_Disk_appendBlock 78 = .ok (.if_icmp .ge 29, 3) := by decide +kernel
theorem d_Disk_appendBlock_81 : decode b_Disk_appendBlock 81 = .ok (.iload 5, 2) := by decide +kernel
theorem d_Disk_appendBlock_83 : decode b_Disk_appendBlock 83 = .ok (.aload_n 1, 1) := by decide +kernel
theorem d_Disk_appendBlock_84 : decode b_Disk_appendBlock 84 = .ok (.getfield 28, 3) := by decide +kernel
theorem d_Disk_appendBlock_87 : decode b_Disk_appendBlock 87 = .ok (.if_icmp .ge 20, 3) := by decide +kernel
theorem d_Disk_appendBlock_90 : decode b_Disk_appendBlock 90 = .ok (.aload_n 0, 1) := by decide +kernel
theorem d_Disk_appendBlock_91 : decode b_Disk_appendBlock 91 = .ok (.aload_n 1, 1) := by decide +kernel
theorem d_Disk_appendBlock_92 : decode b_Disk_appendBlock 92 = .ok (.getfield 62, 3) := by decide +kernel
theorem d_Disk_appendBlock_95 : decode b_Disk_appendBlock 95 = .ok (.iload 5, 2) := by decide +kernel
theorem d_Disk_appendBlock_97 : decode b_Disk_appendBlock 97 = .ok (.iaload, 1) := by decide +kernel
theorem d_Disk_appendBlock_98 : decode b_Disk_appendBlock 98 = .ok (.invokevirtual 54, 3) := by decide +kernel
theorem d_Disk_appendBlock_101 : decode b_Disk_appendBlock 101 = .ok (.iinc 5 1, 3) := by decide +kernel
theorem d_Disk_appendBlock_104 : decode b_Disk_appendBlock 104 = .ok (.goto (-31), 3) := by decide +kernel
theorem d_Disk_appendBlock_107 : decode b_Disk_appendBlock 107 = .ok (.aload_n 0, 1) := by decide +kernel
theorem d_Disk_appendBlock_108 : decode b_Disk_appendBlock 108 = .ok (.aload_n 0, 1) := by decide +kernel
theorem d_Disk_appendBlock_109 : decode b_Disk_appendBlock 109 = .ok (.iload 4, 2) := by decide +kernel
theorem d_Disk_appendBlock_111 : decode b_Disk_appendBlock 111 = .ok (.iload_n 3, 1) := by decide +kernel
theorem d_Disk_appendBlock_112 : decode b_Disk_appendBlock 112 = .ok (.invokevirtual 63, 3) := by decide +kernel
theorem d_Disk_appendBlock_115 : decode b_Disk_appendBlock 115 = .ok (.iconst 4, 1) := by decide +kernel
theorem d_Disk_appendBlock_116 : decode b_Disk_appendBlock 116 = .ok (.invokevirtual 58, 3) := by decide +kernel
theorem d_Disk_appendBlock_119 : decode b_Disk_appendBlock 119 = .ok (.return_, 1) := by decide +kernel
theorem d_Disk_appendNumber_0 : decode b_Disk_appendNumber 0 = .ok (.iconst 0, 1) := by decide +kernel
theorem d_Disk_appendNumber_1 : decode b_Disk_appendNumber 1 = .ok (.istore_n 3, 1) := by decide +kernel
theorem d_Disk_appendNumber_2 : decode b_Disk_appendNumber 2 = .ok (.iload_n 3, 1) := by decide +kernel
theorem d_Disk_appendNumber_3 : decode b_Disk_appendNumber 3 = .ok (.iload_n 2, 1) := by decide +kernel
theorem d_Disk_appendNumber_4 : decode b_Disk_appendNumber 4 = .ok (.if_icmp .ge 23, 3) := by decide +kernel
theorem d_Disk_appendNumber_7 : decode b_Disk_appendNumber 7 = .ok (.aload_n 0, 1) := by decide +kernel
theorem d_Disk_appendNumber_8 : decode b_Disk_appendNumber 8 = .ok (.iload_n 1, 1) := by decide +kernel
theorem d_Disk_appendNumber_9 : decode b_Disk_appendNumber 9 = .ok (.bipush 8, 2) := by decide +kernel
theorem d_Disk_appendNumber_11 : decode b_Disk_appendNumber 11 = .ok (.iload_n 3, 1) := by decide +kernel
theorem d_Disk_appendNumber_12 : decode b_Disk_appendNumber 12 = .ok (.imul, 1) := by decide +kernel
theorem d_Disk_appendNumber_13 : decode b_Disk_appendNumber 13 = .ok (.iushr, 1) := by decide +kernel
theorem d_Disk_appendNumber_14 : decode b_Disk_appendNumber 14 = .ok (.sipush 255, 3) := by decide +kernel
theorem d_Disk_appendNumber_17 : decode b_Disk_appendNumber 17 = .ok (.iand, 1) := by decide +kernel
theorem d_Disk_appendNumber_18 : decode b_Disk_appendNumber 18 = .ok (.invokevirtual 54, 3) := by decide +kernel
theorem d_Disk_appendNumber_21 : decode b_Disk_appendNumber 21 = .ok (.iinc 3 1, 3) := by decide +kernel
theorem d_Disk_appendNumber_24 : decode b_Disk_appendNumber 24 = .ok (.goto (-22), 3) := by decide +kernel
theorem d_Disk_appendNumber_27 : decode b_Disk_appendNumber 27 = .ok (.return_, 1) := by decide +kernel
theorem d_Disk_appendByte_0 : decode b_Disk_appendByte 0 = .ok (.aload_n 0, 1) := by decide +kernel
theorem d_Disk_appendByte_1 : decode b_Disk_appendByte 1 = .ok (.getfield 22, 3) := by decide +kernel
theorem d_Disk_appendByte_4 : decode b_Disk_appendByte 4 = .ok (.aload_n 0, 1) := by decide +kernel
theorem d_Disk_appendByte_5 : decode b_Disk_appendByte 5 = .ok (.getfield 9, 3) := by decide +kernel
theorem d_Disk_appendByte_8 : decode b_Disk_appendByte 8 = .ok (.arraylength, 1) := by decide +kernel
theorem d_Disk_appendByte_9 : decode b_Disk_appendByte 9 = .ok (.if_icmp .ge 20, 3) := by decide +kernel
theorem d_Disk_appendByte_12 : decode b_Disk_appendByte 12 = .ok (.aload_n 0, 1) := by decide +kernel
theorem d_Disk_appendByte_13 : decode b_Disk_appendByte 13 = .ok (.getfield 9, 3) := by decide +kernel
theorem d_Disk_appendByte_16 : decode b_Disk_appendByte 16 = .ok (.aload_n 0, 1) := by decide +kernel
theorem d_Disk_appendByte_17 : decode b_Disk_appendByte 17 = .ok (.dup, 1) := by decide +kernel
theorem d_Disk_appendByte_18 : decode b_Disk_appendByte 18 = .ok (.getfield 22, 3) := by decide +kernel
theorem d_Disk_appendByte_21 : decode b_Disk_appendByte 21 = .ok (.dup_x1, 1) := by decide +kernel
theorem d_Disk_appendByte_22 : decode b_Disk_appendByte 22 = .ok (.iconst 1, 1) := by decide +kernel
theorem d_Disk_appendByte_23 : decode b_Disk_appendByte 23 = .ok (.iadd, 1) := by decide +kernel
theorem d_Disk_appendByte_24 : decode b_Disk_appendByte 24 = .ok (.putfield 22, 3) := by decide +kernel
theorem d_Disk_appendByte_27 : decode b_Disk_appendByte 27 = .ok (.iload_n 1, 1) := by decide +kernel
theorem d_Disk_appendByte_28 : decode b_Disk_appendByte 28 = .ok (.iastore, 1) := by decide +kernel
theorem d_Disk_appendByte_29 : decode b_Disk_appendByte 29 = .ok (.return_, 1) := by decide +kernel
theorem d_Disk_isSound_0 : decode b_Disk_isSound 0 = .ok (.iload_n 1, 1) := by decide +kernel
theorem d_Disk_isSound_1 : decode b_Disk_isSound 1 = .ok (.ifCond .lt 11, 3) := by decide +kernel
theorem d_Disk_isSound_4 : decode b_Disk_isSound 4 = .ok (.iload_n 1, 1) := by decide +kernel
theorem d_Disk_isSound_5 : decode b_Disk_isSound 5 = .ok (.aload_n 0, 1) := by decide +kernel
theorem d_Disk_isSound_6 : decode b_Disk_isSound 6 = .ok (.getfield 25, 3) := by decide +kernel
theorem d_Disk_isSound_9 : decode b_Disk_isSound 9 = .ok (.if_icmp .lt 5, 3) := by decide +kernel
theorem d_Disk_isSound_12 : decode b_Disk_isSound 12 = .ok (.iconst 0, 1) := by decide +kernel
theorem d_Disk_isSound_13 : decode b_Disk_isSound 13 = .ok (.ireturn, 1) := by decide +kernel
theorem d_Disk_isSound_14 : decode b_Disk_isSound 14 = .ok (.aload_n 0, 1) := by decide +kernel
theorem d_Disk_isSound_15 : decode b_Disk_isSound 15 = .ok (.getfield 15, 3) := by decide +kernel
theorem d_Disk_isSound_18 : decode b_Disk_isSound 18 = .ok (.iload_n 1, 1) := by decide +kernel
theorem d_Disk_isSound_19 : decode b_Disk_isSound 19 = .ok (.iaload, 1) := by decide +kernel
theorem d_Disk_isSound_20 : decode b_Disk_isSound 20 = .ok (.istore_n 2, 1) := by decide +kernel
theorem d_Disk_isSound_21 : decode b_Disk_isSound 21 = .ok (.aload_n 0, 1) := by decide +kernel
theorem d_Disk_isSound_22 : decode b_Disk_isSound 22 = .ok (.iload_n 2, 1) := by decide +kernel
theorem d_Disk_isSound_23 : decode b_Disk_isSound 23 = .ok (.invokevirtual 47, 3) := by decide +kernel
theorem d_Disk_isSound_26 : decode b_Disk_isSound 26 = .ok (.bipush 31, 2) := by decide +kernel
theorem d_Disk_isSound_28 : decode b_Disk_isSound 28 = .ok (.if_icmp .ne 27, 3) := by decide +kernel
theorem d_Disk_isSound_31 : decode b_Disk_isSound 31 = .ok (.aload_n 0, 1) := by decide +kernel
theorem d_Disk_isSound_32 : decode b_Disk_isSound 32 = .ok (.iload_n 2, 1) := by decide +kernel
theorem d_Disk_isSound_33 : decode b_Disk_isSound 33 = .ok (.iconst 1, 1) := by decide +kernel
theorem d_Disk_isSound_34 : decode b_Disk_isSound 34 = .ok (.iadd, 1) := by decide +kernel
theorem d_Disk_isSound_35 : decode b_Disk_isSound 35 = .ok (.invokevirtual 47, 3) := by decide +kernel
theorem d_Disk_isSound_38 : decode b_Disk_isSound 38 = .ok (.sipush 139, 3) := by decide +kernel
theorem d_Disk_isSound_41 : decode b_Disk_isSound 41 = .ok (.if_icmp .ne 14, 3) := by decide +kernel
theorem d_Disk_isSound_44 : decode b_Disk_isSound 44 = .ok (.aload_n 0, 1) := by decide +kernel
theorem d_Disk_isSound_45 : decode b_Disk_isSound 45 = .ok (.iload_n 2, 1) := by decide +kernel
theorem d_Disk_isSound_46 : decode b_Disk_isSound 46 = .ok (.iconst 2, 1) := by decide +kernel
theorem d_Disk_isSound_47 : decode b_Disk_isSound 47 = .ok (.iadd, 1) := by decide +kernel
theorem d_Disk_isSound_48 : decode b_Disk_isSound 48 = .ok (.invokevirtual 47, 3) := by decide +kernel
theorem d_Disk_isSound_51 : decode b_Disk_isSound 51 = .ok (.iconst 1, 1) := by decide +kernel
theorem d_Disk_isSound_52 : decode b_Disk_isSound 52 = .ok (.if_icmp .eq 5, 3) := by decide +kernel
theorem d_Disk_isSound_55 : decode b_Disk_isSound 55 = .ok (.iconst 0, 1) := by decide +kernel
theorem d_Disk_isSound_56 : decode b_Disk_isSound 56 = .ok (.ireturn, 1) := by decide +kernel
theorem d_Disk_isSound_57 : decode b_Disk_isSound 57 = .ok (.aload_n 0, 1) := by decide +kernel
theorem d_Disk_isSound_58 : decode b_Disk_isSound 58 = .ok (.iload_n 2, 1) := by decide +kernel
theorem d_Disk_isSound_59 : decode b_Disk_isSound 59 = .ok (.iconst 3, 1) := by decide +kernel
theorem d_Disk_isSound_60 : decode b_Disk_isSound 60 = .ok (.iadd, 1) := by decide +kernel
theorem d_Disk_isSound_61 : decode b_Disk_isSound 61 = .ok (.iconst 2, 1) := by decide +kernel
theorem d_Disk_isSound_62 : decode b_Disk_isSound 62 = .ok (.invokevirtual 66, 3) := by decide +kernel
theorem d_Disk_isSound_65 : decode b_Disk_isSound 65 = .ok (.istore_n 3, 1) := by decide +kernel
theorem d_Disk_isSound_66 : decode b_Disk_isSound 66 = .ok (.aload_n 0, 1) := by decide +kernel
theorem d_Disk_isSound_67 : decode b_Disk_isSound 67 = .ok (.iload_n 2, 1) := by decide +kernel
theorem d_Disk_isSound_68 : decode b_Disk_isSound 68 = .ok (.iconst 5, 1) := by decide +kernel
theorem d_Disk_isSound_69 : decode b_Disk_isSound 69 = .ok (.iadd, 1) := by decide +kernel
theorem d_Disk_isSound_70 : decode b_Disk_isSound 70 = .ok (.iconst 2, 1) := by decide +kernel
theorem d_Disk_isSound_71 : decode b_Disk_isSound 71 = .ok (.invokevirtual 66, 3) := by decide +kernel
theorem d_Disk_isSound_74 : decode b_Disk_isSound 74 = .ok (.iload_n 3, 1) := by decide +kernel
theorem d_Disk_isSound_75 : decode b_Disk_isSound 75 = .ok (.iconst (-1), 1) := by decide +kernel
theorem d_Disk_isSound_76 : decode b_Disk_isSound 76 = .ok (.ixor, 1) := by decide +kernel
theorem d_Disk_isSound_77 : decode b_Disk_isSound 77 = .ok (.ldc 69, 2) := by decide +kernel
theorem d_Disk_isSound_79 : decode b_Disk_isSound 79 = .ok (.iand, 1) := by decide +kernel
theorem d_Disk_isSound_80 : decode b_Disk_isSound 80 = .ok (.if_icmp .eq 5, 3) := by decide +kernel
theorem d_Disk_isSound_83 : decode b_Disk_isSound 83 = .ok (.iconst 0, 1) := by decide +kernel
theorem d_Disk_isSound_84 : decode b_Disk_isSound 84 = .ok (.ireturn, 1) := by decide +kernel
theorem d_Disk_isSound_85 : decode b_Disk_isSound 85 = .ok (.iload_n 2, 1) := by decide +kernel
theorem d_Disk_isSound_86 : decode b_Disk_isSound 86 = .ok (.bipush 7, 2) := by decide +kernel
theorem d_Disk_isSound_88 : decode b_Disk_isSound 88 = .ok (.iadd, 1) := by decide +kernel
theorem d_Disk_isSound_89 : decode b_Disk_isSound 89 = .ok (.istore 4, 2) := by decide +kernel
theorem d_Disk_isSound_91 : decode b_Disk_isSound 91 = .ok (.iload 4, 2) := by decide +kernel
theorem d_Disk_isSound_93 : decode b_Disk_isSound 93 = .ok (.iload_n 3, 1) := by decide +kernel
theorem d_Disk_isSound_94 : decode b_Disk_isSound 94 = .ok (.iadd, 1) := by decide +kernel
theorem d_Disk_isSound_95 : decode b_Disk_isSound 95 = .ok (.iconst 4, 1) := by decide +kernel
theorem d_Disk_isSound_96 : decode b_Disk_isSound 96 = .ok (.iadd, 1) := by decide +kernel
theorem d_Disk_isSound_97 : decode b_Disk_isSound 97 = .ok (.aload_n 0, 1) := by decide +kernel
theorem d_Disk_isSound_98 : decode b_Disk_isSound 98 = .ok (.getfield 22, 3) := by decide +kernel
theorem d_Disk_isSound_101 : decode b_Disk_isSound 101 = .ok (.if_icmp .gt 26, 3) := by decide +kernel
theorem d_Disk_isSound_104 : decode b_Disk_isSound 104 = .ok (.aload_n 0, 1) := by decide +kernel
theorem d_Disk_isSound_105 : decode b_Disk_isSound 105 = .ok (.iload 4, 2) := by decide +kernel
theorem d_Disk_isSound_107 : decode b_Disk_isSound 107 = .ok (.iload_n 3, 1) := by decide +kernel
theorem d_Disk_isSound_108 : decode b_Disk_isSound 108 = .ok (.iadd, 1) := by decide +kernel
theorem d_Disk_isSound_109 : decode b_Disk_isSound 109 = .ok (.iconst 4, 1) := by decide +kernel
theorem d_Disk_isSound_110 : decode b_Disk_isSound 110 = .ok (.invokevirtual 66, 3) := by decide +kernel
theorem d_Disk_isSound_113 : decode b_Disk_isSound 113 = .ok (.aload_n 0, 1) := by decide +kernel
theorem d_Disk_isSound_114 : decode b_Disk_isSound 114 = .ok (.iload 4, 2) := by decide +kernel
theorem d_Disk_isSound_116 : decode b_Disk_isSound 116 = .ok (.iload_n 3, 1) := by decide +kernel
theorem d_Disk_isSound_117 : decode b_Disk_isSound 117 = .ok (.invokevirtual 63, 3) := by decide +kernel
theorem d_Disk_isSound_120 : decode b_Disk_isSound 120 = .ok (.if_icmp .ne 7, 3) := by decide +kernel
theorem d_Disk_isSound_123 : decode b_Disk_isSound 123 = .ok (.iconst 1, 1) := by decide +kernel
theorem d_Disk_isSound_124 : decode b_Disk_isSound 124 = .ok (.goto 4, 3) := by decide +kernel
theorem d_Disk_isSound_127 : decode b_Disk_isSound 127 = .ok (.iconst 0, 1) := by decide +kernel
theorem d_Disk_isSound_128 : decode b_Disk_isSound 128 = .ok (.ireturn, 1) := by decide +kernel
theorem d_Disk_numberAt_0 : decode b_Disk_numberAt 0 = .ok (.iconst 0, 1) := by decide +kernel
theorem d_Disk_numberAt_1 : decode b_Disk_numberAt 1 = .ok (.istore_n 3, 1) := by decide +kernel
theorem d_Disk_numberAt_2 : decode b_Disk_numberAt 2 = .ok (.iconst 0, 1) := by decide +kernel
theorem d_Disk_numberAt_3 : decode b_Disk_numberAt 3 = .ok (.istore 4, 2) := by decide +kernel
theorem d_Disk_numberAt_5 : decode b_Disk_numberAt 5 = .ok (.iload 4, 2) := by decide +kernel
theorem d_Disk_numberAt_7 : decode b_Disk_numberAt 7 = .ok (.iload_n 2, 1) := by decide +kernel
theorem d_Disk_numberAt_8 : decode b_Disk_numberAt 8 = .ok (.if_icmp .ge 30, 3) := by decide +kernel
theorem d_Disk_numberAt_11 : decode b_Disk_numberAt 11 = .ok (.iload_n 3, 1) := by decide +kernel
theorem d_Disk_numberAt_12 : decode b_Disk_numberAt 12 = .ok (.aload_n 0, 1) := by decide +kernel
theorem d_Disk_numberAt_13 : decode b_Disk_numberAt 13 = .ok (.iload_n 1, 1) := by decide +kernel
theorem d_Disk_numberAt_14 : decode b_Disk_numberAt 14 = .ok (.iload 4, 2) := by decide +kernel
theorem d_Disk_numberAt_16 : decode b_Disk_numberAt 16 = .ok (.iadd, 1) := by decide +kernel
theorem d_Disk_numberAt_17 : decode b_Disk_numberAt 17 = .ok (.invokevirtual 47, 3) := by decide +kernel
theorem d_Disk_numberAt_20 : decode b_Disk_numberAt 20 = .ok (.sipush 255, 3) := by decide +kernel
theorem d_Disk_numberAt_23 : decode b_Disk_numberAt 23 = .ok (.iand, 1) := by decide +kernel
theorem d_Disk_numberAt_24 : decode b_Disk_numberAt 24 = .ok (.bipush 8, 2) := by decide +kernel
theorem d_Disk_numberAt_26 : decode b_Disk_numberAt 26 = .ok (.iload 4, 2) := by decide +kernel
theorem d_Disk_numberAt_28 : decode b_Disk_numberAt 28 = .ok (.imul, 1) := by decide +kernel
theorem d_Disk_numberAt_29 : decode b_Disk_numberAt 29 = .ok (.ishl, 1) := by decide +kernel
theorem d_Disk_numberAt_30 : decode b_Disk_numberAt 30 = .ok (.ior, 1) := by decide +kernel
theorem d_Disk_numberAt_31 : decode b_Disk_numberAt 31 = .ok (.istore_n 3, 1) := by decide +kernel
theorem d_Disk_numberAt_32 : decode b_Disk_numberAt 32 = .ok (.iinc 4 1, 3) := by decide +kernel
theorem d_Disk_numberAt_35 : decode b_Disk_numberAt 35 = .ok (.goto (-30), 3) := by decide +kernel
theorem d_Disk_numberAt_38 : decode b_Disk_numberAt 38 = .ok (.iload_n 3, 1) := by decide +kernel
theorem d_Disk_numberAt_39 : decode b_Disk_numberAt 39 = .ok (.ireturn, 1) := by decide +kernel
theorem d_Disk_sumOf_0 : decode b_Disk_sumOf 0 = .ok (.iconst (-1), 1) := by decide +kernel
theorem d_Disk_sumOf_1 : decode b_Disk_sumOf 1 = .ok (.istore_n 3, 1) := by decide +kernel
theorem d_Disk_sumOf_2 : decode b_Disk_sumOf 2 = .ok (.iload_n 1, 1) := by decide +kernel
theorem d_Disk_sumOf_3 : decode b_Disk_sumOf 3 = .ok (.istore 4, 2) := by decide +kernel
theorem d_Disk_sumOf_5 : decode b_Disk_sumOf 5 = .ok (.iload 4, 2) := by decide +kernel
theorem d_Disk_sumOf_7 : decode b_Disk_sumOf 7 = .ok (.iload_n 1, 1) := by decide +kernel
theorem d_Disk_sumOf_8 : decode b_Disk_sumOf 8 = .ok (.iload_n 2, 1) := by decide +kernel
theorem d_Disk_sumOf_9 : decode b_Disk_sumOf 9 = .ok (.iadd, 1) := by decide +kernel
theorem d_Disk_sumOf_10 : decode b_Disk_sumOf 10 = .ok (.if_icmp .ge 58, 3) := by decide +kernel
theorem d_Disk_sumOf_13 : decode b_Disk_sumOf 13 = .ok (.iload_n 3, 1) := by decide +kernel
theorem d_Disk_sumOf_14 : decode b_Disk_sumOf 14 = .ok (.aload_n 0, 1) := by decide +kernel
theorem d_Disk_sumOf_15 : decode b_Disk_sumOf 15 = .ok (.iload 4, 2) := by decide +kernel
theorem d_Disk_sumOf_17 : decode b_Disk_sumOf 17 = .ok (.invokevirtual 47, 3) := by decide +kernel
theorem d_Disk_sumOf_20 : decode b_Disk_sumOf 20 = .ok (.sipush 255, 3) := by decide +kernel
theorem d_Disk_sumOf_23 : decode b_Disk_sumOf 23 = .ok (.iand, 1) := by decide +kernel
theorem d_Disk_sumOf_24 : decode b_Disk_sumOf 24 = .ok (.ixor, 1) := by decide +kernel
theorem d_Disk_sumOf_25 : decode b_Disk_sumOf 25 = .ok (.istore_n 3, 1) := by decide +kernel
theorem d_Disk_sumOf_26 : decode b_Disk_sumOf 26 = .ok (.iconst 0, 1) := by decide +kernel
theorem d_Disk_sumOf_27 : decode b_Disk_sumOf 27 = .ok (.istore 5, 2) := by decide +kernel
theorem d_Disk_sumOf_29 : decode b_Disk_sumOf 29 = .ok (.iload 5, 2) := by decide +kernel
theorem d_Disk_sumOf_31 : decode b_Disk_sumOf 31 = .ok (.bipush 8, 2) := by decide +kernel
theorem d_Disk_sumOf_33 : decode b_Disk_sumOf 33 = .ok (.if_icmp .ge 29, 3) := by decide +kernel
theorem d_Disk_sumOf_36 : decode b_Disk_sumOf 36 = .ok (.iload_n 3, 1) := by decide +kernel
theorem d_Disk_sumOf_37 : decode b_Disk_sumOf 37 = .ok (.iconst 1, 1) := by decide +kernel
theorem d_Disk_sumOf_38 : decode b_Disk_sumOf 38 = .ok (.iand, 1) := by decide +kernel
theorem d_Disk_sumOf_39 : decode b_Disk_sumOf 39 = .ok (.iconst 1, 1) := by decide +kernel
theorem d_Disk_sumOf_40 : decode b_Disk_sumOf 40 = .ok (.if_icmp .ne 12, 3) := by decide +kernel
theorem d_Disk_sumOf_43 : decode b_Disk_sumOf 43 = .ok (.iload_n 3, 1) := by decide +kernel
theorem d_Disk_sumOf_44 : decode b_Disk_sumOf 44 = .ok (.iconst 1, 1) := by decide +kernel
theorem d_Disk_sumOf_45 : decode b_Disk_sumOf 45 = .ok (.iushr, 1) := by decide +kernel
theorem d_Disk_sumOf_46 : decode b_Disk_sumOf 46 = .ok (.ldc 70, 2) := by decide +kernel
theorem d_Disk_sumOf_48 : decode b_Disk_sumOf 48 = .ok (.ixor, 1) := by decide +kernel
theorem d_Disk_sumOf_49 : decode b_Disk_sumOf 49 = .ok (.goto 6, 3) := by decide +kernel
theorem d_Disk_sumOf_52 : decode b_Disk_sumOf 52 = .ok (.iload_n 3, 1) := by decide +kernel
theorem d_Disk_sumOf_53 : decode b_Disk_sumOf 53 = .ok (.iconst 1, 1) := by decide +kernel
theorem d_Disk_sumOf_54 : decode b_Disk_sumOf 54 = .ok (.iushr, 1) := by decide +kernel
theorem d_Disk_sumOf_55 : decode b_Disk_sumOf 55 = .ok (.istore_n 3, 1) := by decide +kernel
theorem d_Disk_sumOf_56 : decode b_Disk_sumOf 56 = .ok (.iinc 5 1, 3) := by decide +kernel
theorem d_Disk_sumOf_59 : decode b_Disk_sumOf 59 = .ok (.goto (-30), 3) := by decide +kernel
theorem d_Disk_sumOf_62 : decode b_Disk_sumOf 62 = .ok (.iinc 4 1, 3) := by decide +kernel
theorem d_Disk_sumOf_65 : decode b_Disk_sumOf 65 = .ok (.goto (-60), 3) := by decide +kernel
theorem d_Disk_sumOf_68 : decode b_Disk_sumOf 68 = .ok (.iload_n 3, 1) := by decide +kernel
theorem d_Disk_sumOf_69 : decode b_Disk_sumOf 69 = .ok (.iconst (-1), 1) := by decide +kernel
theorem d_Disk_sumOf_70 : decode b_Disk_sumOf 70 = .ok (.ixor, 1) := by decide +kernel
theorem d_Disk_sumOf_71 : decode b_Disk_sumOf 71 = .ok (.ireturn, 1) := by decide +kernel
theorem d_Draft_init_0 : decode b_Draft_init 0 = .ok (.aload_n 0, 1) := by decide +kernel
theorem d_Draft_init_1 : decode b_Draft_init 1 = .ok (.invokespecial 3, 3) := by decide +kernel
theorem d_Draft_init_4 : decode b_Draft_init 4 = .ok (.aload_n 0, 1) := by decide +kernel
theorem d_Draft_init_5 : decode b_Draft_init 5 = .ok (.iconst 3, 1) := by decide +kernel
theorem d_Draft_init_6 : decode b_Draft_init 6 = .ok (.newarray .int, 2) := by decide +kernel
theorem d_Draft_init_8 : decode b_Draft_init 8 = .ok (.putfield 9, 3) := by decide +kernel
theorem d_Draft_init_11 : decode b_Draft_init 11 = .ok (.aload_n 0, 1) := by decide +kernel
theorem d_Draft_init_12 : decode b_Draft_init 12 = .ok (.bipush 24, 2) := by decide +kernel
theorem d_Draft_init_14 : decode b_Draft_init 14 = .ok (.newarray .int, 2) := by decide +kernel
theorem d_Draft_init_16 : decode b_Draft_init 16 = .ok (.putfield 15, 3) := by decide +kernel
theorem d_Draft_init_19 : decode b_Draft_init 19 = .ok (.return_, 1) := by decide +kernel
theorem d_Draft_appendOp_0 : decode b_Draft_appendOp 0 = .ok (.iload_n 1, 1) := by decide +kernel
theorem d_Draft_appendOp_1 : decode b_Draft_appendOp 1 = .ok (.ifCond .lt 27, 3) := by decide +kernel
theorem d_Draft_appendOp_4 : decode b_Draft_appendOp 4 = .ok (.iload_n 1, 1) := by decide +kernel
theorem d_Draft_appendOp_5 : decode b_Draft_appendOp 5 = .ok (.iconst 4, 1) := by decide +kernel
theorem d_Draft_appendOp_6 : decode b_Draft_appendOp 6 = .ok (.if_icmp .ge 22, 3) := by decide +kernel
theorem d_Draft_appendOp_9 : decode b_Draft_appendOp 9 = .ok (.iload_n 2, 1) := by decide +kernel
theorem d_Draft_appendOp_10 : decode b_Draft_appendOp 10 = .ok (.iconst 1, 1) := by decide +kernel
theorem d_Draft_appendOp_11 : decode b_Draft_appendOp 11 = .ok (.if_icmp .lt 17, 3) := by decide +kernel
theorem d_Draft_appendOp_14 : decode b_Draft_appendOp 14 = .ok (.iload_n 2, 1) := by decide +kernel
theorem d_Draft_appendOp_15 : decode b_Draft_appendOp 15 = .ok (.bipush 63, 2) := by decide +kernel
theorem d_Draft_appendOp_17 : decode b_Draft_appendOp 17 = .ok (.if_icmp .gt 11, 3) := by decide +kernel
theorem d_Draft_appendOp_20 : decode b_Draft_appendOp 20 = .ok (.aload_n 0, 1) := by decide +kernel
theorem d_Draft_appendOp_21 : decode b_Draft_appendOp 21 = .ok (.getfield 18, 3) := by decide +kernel
theorem d_Draft_appendOp_24 : decode b_Draft_appendOp 24 = .ok (.iconst 3, 1) := by decide +kernel
theorem d_Draft_appendOp_25 : decode b_Draft_appendOp 25 = .ok (.if_icmp .lt 5, 3) := by decide +kernel
theorem d_Draft_appendOp_28 : decode b_Draft_appendOp 28 = .ok (.iconst 0, 1) := by decide +kernel
theorem d_Draft_appendOp_29 : decode b_Draft_appendOp 29 = .ok (.ireturn, 1) := by decide +kernel
theorem d_Draft_appendOp_30 : decode b_Draft_appendOp 30 = .ok (.aload_n 0, 1) := by decide +kernel
theorem d_Draft_appendOp_31 : decode b_Draft_appendOp 31 = .ok (.getfield 9, 3) := by decide +kernel
theorem d_Draft_appendOp_34 : decode b_Draft_appendOp 34 = .ok (.aload_n 0, 1) := by decide +kernel
theorem d_Draft_appendOp_35 : decode b_Draft_appendOp 35 = .ok (.dup, 1) := by decide +kernel
theorem d_Draft_appendOp_36 : decode b_Draft_appendOp 36 = .ok (.getfield 18, 3) := by decide +kernel
theorem d_Draft_appendOp_39 : decode b_Draft_appendOp 39 = .ok (.dup_x1, 1) := by decide +kernel
theorem d_Draft_appendOp_40 : decode b_Draft_appendOp 40 = .ok (.iconst 1, 1) := by decide +kernel
theorem d_Draft_appendOp_41 : decode b_Draft_appendOp 41 = .ok (.iadd, 1) := by decide +kernel
theorem d_Draft_appendOp_42 : decode b_Draft_appendOp 42 = .ok (.putfield 18, 3) := by decide +kernel
theorem d_Draft_appendOp_45 : decode b_Draft_appendOp 45 = .ok (.iconst 4, 1) := by decide +kernel
theorem d_Draft_appendOp_46 : decode b_Draft_appendOp 46 = .ok (.iload_n 2, 1) := by decide +kernel
theorem d_Draft_appendOp_47 : decode b_Draft_appendOp 47 = .ok (.imul, 1) := by decide +kernel
theorem d_Draft_appendOp_48 : decode b_Draft_appendOp 48 = .ok (.iload_n 1, 1) := by decide +kernel
theorem d_Draft_appendOp_49 : decode b_Draft_appendOp 49 = .ok (.iadd, 1) := by decide +kernel
theorem d_Draft_appendOp_50 : decode b_Draft_appendOp 50 = .ok (.iastore, 1) := by decide +kernel
theorem d_Draft_appendOp_51 : decode b_Draft_appendOp 51 = .ok (.iconst 1, 1) := by decide +kernel
theorem d_Draft_appendOp_52 : decode b_Draft_appendOp 52 = .ok (.ireturn, 1) := by decide +kernel
theorem d_Draft_appendBase_0 : decode b_Draft_appendBase 0 = .ok (.iload_n 1, 1) := by decide +kernel
theorem d_Draft_appendBase_1 : decode b_Draft_appendBase 1 = .ok (.ifCond .lt 18, 3) := by decide +kernel
theorem d_Draft_appendBase_4 : decode b_Draft_appendBase 4 = .ok (.iload_n 1, 1) := by decide +kernel
theorem d_Draft_appendBase_5 : decode b_Draft_appendBase 5 = .ok (.bipush 15, 2) := by decide +kernel
theorem d_Draft_appendBase_7 : decode b_Draft_appendBase 7 = .ok (.if_icmp .gt 12, 3) := by decide +kernel
theorem d_Draft_appendBase_10 : decode b_Draft_appendBase 10 = .ok (.aload_n 0, 1) := by decide +kernel
theorem d_Draft_appendBase_11 : decode b_Draft_appendBase 11 = .ok (.getfield 22, 3) := by decide +kernel
theorem d_Draft_appendBase_14 : decode b_Draft_appendBase 14 = .ok (.bipush 24, 2) := by decide +kernel
theorem d_Draft_appendBase_16 : decode b_Draft_appendBase 16 = .ok (.if_icmp .lt 5, 3) := by decide +kernel
theorem d_Draft_appendBase_19 : decode b_Draft_appendBase 19 = .ok (.iconst 0, 1) := by decide +kernel
theorem d_Draft_appendBase_20 : decode b_Draft_appendBase 20 = .ok (.ireturn, 1) := by decide +kernel
theorem d_Draft_appendBase_21 : decode b_Draft_appendBase 21 = .ok (.aload_n 0, 1) := by decide +kernel
theorem d_Draft_appendBase_22 : decode b_Draft_appendBase 22 = .ok (.getfield 15, 3) := by decide +kernel
theorem d_Draft_appendBase_25 : decode b_Draft_appendBase 25 = .ok (.aload_n 0, 1) := by decide +kernel
theorem d_Draft_appendBase_26 : decode b_Draft_appendBase 26 = .ok (.dup, 1) := by decide +kernel
theorem d_Draft_appendBase_27 : decode b_Draft_appendBase 27 = .ok (.getfield 22, 3) := by decide +kernel
theorem d_Draft_appendBase_30 : decode b_Draft_appendBase 30 = .ok (.dup_x1, 1) := by decide +kernel
theorem d_Draft_appendBase_31 : decode b_Draft_appendBase 31 = .ok (.iconst 1, 1) := by decide +kernel
theorem d_Draft_appendBase_32 : decode b_Draft_appendBase 32 = .ok (.iadd, 1) := by decide +kernel
theorem d_Draft_appendBase_33 : decode b_Draft_appendBase 33 = .ok (.putfield 22, 3) := by decide +kernel
theorem d_Draft_appendBase_36 : decode b_Draft_appendBase 36 = .ok (.iload_n 1, 1) := by decide +kernel
theorem d_Draft_appendBase_37 : decode b_Draft_appendBase 37 = .ok (.iastore, 1) := by decide +kernel
theorem d_Draft_appendBase_38 : decode b_Draft_appendBase 38 = .ok (.iconst 1, 1) := by decide +kernel
theorem d_Draft_appendBase_39 : decode b_Draft_appendBase 39 = .ok (.ireturn, 1) := by decide +kernel
theorem d_Draft_empty_0 : decode b_Draft_empty 0 = .ok (.aload_n 0, 1) := by decide +kernel
theorem d_Draft_empty_1 : decode b_Draft_empty 1 = .ok (.iconst 0, 1) := by decide +kernel
theorem d_Draft_empty_2 : decode b_Draft_empty 2 = .ok (.putfield 18, 3) := by decide +kernel
theorem d_Draft_empty_5 : decode b_Draft_empty 5 = .ok (.aload_n 0, 1) := by decide +kernel
theorem d_Draft_empty_6 : decode b_Draft_empty 6 = .ok (.iconst 0, 1) := by decide +kernel
theorem d_Draft_empty_7 : decode b_Draft_empty 7 = .ok (.putfield 22, 3) := by decide +kernel
theorem d_Draft_empty_10 : decode b_Draft_empty 10 = .ok (.return_, 1) := by decide +kernel
theorem d_Draft_span_0 : decode b_Draft_span 0 = .ok (.aload_n 0, 1) := by decide +kernel
theorem d_Draft_span_1 : decode b_Draft_span 1 = .ok (.getfield 9, 3) := by decide +kernel
theorem d_Draft_span_4 : decode b_Draft_span 4 = .ok (.iconst 0, 1) := by decide +kernel
theorem d_Draft_span_5 : decode b_Draft_span 5 = .ok (.aload_n 0, 1) := by decide +kernel
theorem d_Draft_span_6 : decode b_Draft_span 6 = .ok (.getfield 18, 3) := by decide +kernel
theorem d_Draft_span_9 : decode b_Draft_span 9 = .ok (.invokestatic 25, 3) := by decide +kernel
theorem d_Draft_span_12 : decode b_Draft_span 12 = .ok (.ireturn, 1) := by decide +kernel
theorem d_Draft_width_0 : decode b_Draft_width 0 = .ok (.iconst 0, 1) := by decide +kernel
theorem d_Draft_width_1 : decode b_Draft_width 1 = .ok (.istore_n 1, 1) := by decide +kernel
theorem d_Draft_width_2 : decode b_Draft_width 2 = .ok (.iconst 0, 1) := by decide +kernel
theorem d_Draft_width_3 : decode b_Draft_width 3 = .ok (.istore_n 2, 1) := by decide +kernel
theorem d_Draft_width_4 : decode b_Draft_width 4 = .ok (.iload_n 2, 1) := by decide +kernel
theorem d_Draft_width_5 : decode b_Draft_width 5 = .ok (.aload_n 0, 1) := by decide +kernel
theorem d_Draft_width_6 : decode b_Draft_width 6 = .ok (.getfield 18, 3) := by decide +kernel
theorem d_Draft_width_9 : decode b_Draft_width 9 = .ok (.if_icmp .ge 46, 3) := by decide +kernel
theorem d_Draft_width_12 : decode b_Draft_width 12 = .ok (.aload_n 0, 1) := by decide +kernel
theorem d_Draft_width_13 : decode b_Draft_width 13 = .ok (.getfield 9, 3) := by decide +kernel
theorem d_Draft_width_16 : decode b_Draft_width 16 = .ok (.iload_n 2, 1) := by decide +kernel
theorem d_Draft_width_17 : decode b_Draft_width 17 = .ok (.iaload, 1) := by decide +kernel
theorem d_Draft_width_18 : decode b_Draft_width 18 = .ok (.invokestatic 29, 3) := by decide +kernel
theorem d_Draft_width_21 : decode b_Draft_width 21 = .ok (.ifCond .eq 16, 3) := by decide +kernel
theorem d_Draft_width_24 : decode b_Draft_width 24 = .ok (.aload_n 0, 1) := by decide +kernel
theorem d_Draft_width_25 : decode b_Draft_width 25 = .ok (.getfield 9, 3) := by decide +kernel
theorem d_Draft_width_28 : decode b_Draft_width 28 = .ok (.iload_n 2, 1) := by decide +kernel
theorem d_Draft_width_29 : decode b_Draft_width 29 = .ok (.iaload, 1) := by decide +kernel
theorem d_Draft_width_30 : decode b_Draft_width 30 = .ok (.invokestatic 29, 3) := by decide +kernel
theorem d_Draft_width_33 : decode b_Draft_width 33 = .ok (.iconst 1, 1) := by decide +kernel
theorem d_Draft_width_34 : decode b_Draft_width 34 = .ok (.if_icmp .ne 15, 3) := by decide +kernel
theorem d_Draft_width_37 : decode b_Draft_width 37 = .ok (.iload_n 1, 1) := by decide +kernel
theorem d_Draft_width_38 : decode b_Draft_width 38 = .ok (.aload_n 0, 1) := by decide +kernel
theorem d_Draft_width_39 : decode b_Draft_width 39 = .ok (.getfield 9, 3) := by decide +kernel
theorem d_Draft_width_42 : decode b_Draft_width 42 = .ok (.iload_n 2, 1) := by decide +kernel
theorem d_Draft_width_43 : decode b_Draft_width 43 = .ok (.iaload, 1) := by decide +kernel
theorem d_Draft_width_44 : decode b_Draft_width 44 = .ok (.invokestatic 33, 3) := by decide +kernel
theorem d_Draft_width_47 : decode b_Draft_width 47 = .ok (.iadd, 1) := by decide +kernel
theorem d_Draft_width_48 : decode b_Draft_width 48 = .ok (.istore_n 1, 1) := by decide +kernel
theorem d_Draft_width_49 : decode b_Draft_width 49 = .ok (.iinc 2 1, 3) := by decide +kernel
theorem d_Draft_width_52 : decode b_Draft_width 52 = .ok (.goto (-48), 3) := by decide +kernel
theorem d_Draft_width_55 : decode b_Draft_width 55 = .ok (.iload_n 1, 1) := by decide +kernel
theorem d_Draft_width_56 : decode b_Draft_width 56 = .ok (.ireturn, 1) := by decide +kernel
theorem d_Draft_isRead_0 : decode b_Draft_isRead 0 = .ok (.aload_n 0, 1) := by decide +kernel
theorem d_Draft_isRead_1 : decode b_Draft_isRead 1 = .ok (.getfield 18, 3) := by decide +kernel
theorem d_Draft_isRead_4 : decode b_Draft_isRead 4 = .ok (.ifCond .le 25, 3) := by decide +kernel
theorem d_Draft_isRead_7 : decode b_Draft_isRead 7 = .ok (.aload_n 0, 1) := by decide +kernel
theorem d_Draft_isRead_8 : decode b_Draft_isRead 8 = .ok (.invokevirtual 36, 3) := by decide +kernel
theorem d_Draft_isRead_11 : decode b_Draft_isRead 11 = .ok (.ifCond .le 18, 3) := by decide +kernel
theorem d_Draft_isRead_14 : decode b_Draft_isRead 14 = .ok (.aload_n 0, 1) := by decide +kernel
theorem d_Draft_isRead_15 : decode b_Draft_isRead 15 = .ok (.invokevirtual 40, 3) := by decide +kernel
theorem d_Draft_isRead_18 : decode b_Draft_isRead 18 = .ok (.aload_n 0, 1) := by decide +kernel
theorem d_Draft_isRead_19 : decode b_Draft_isRead 19 = .ok (.getfield 22, 3) := by decide +kernel
theorem d_Draft_isRead_22 : decode b_Draft_isRead 22 = .ok (.if_icmp .ne 7, 3) := by decide +kernel
theorem d_Draft_isRead_25 : decode b_Draft_isRead 25 = .ok (.iconst 1, 1) := by decide +kernel
theorem d_Draft_isRead_26 : decode b_Draft_isRead 26 = .ok (.goto 4, 3) := by decide +kernel
theorem d_Draft_isRead_29 : decode b_Draft_isRead 29 = .ok (.iconst 0, 1) := by decide +kernel
theorem d_Draft_isRead_30 : decode b_Draft_isRead 30 = .ok (.ireturn, 1) := by decide +kernel
theorem d_Draft_basePair_0 : decode b_Draft_basePair 0 = .ok (.iload_n 1, 1) := by decide +kernel
theorem d_Draft_basePair_1 : decode b_Draft_basePair 1 = .ok (.iconst 1, 1) := by decide +kernel
theorem d_Draft_basePair_2 : decode b_Draft_basePair 2 = .ok (.iadd, 1) := by decide +kernel
theorem d_Draft_basePair_3 : decode b_Draft_basePair 3 = .ok (.aload_n 0, 1) := by decide +kernel
theorem d_Draft_basePair_4 : decode b_Draft_basePair 4 = .ok (.getfield 22, 3) := by decide +kernel
theorem d_Draft_basePair_7 : decode b_Draft_basePair 7 = .ok (.if_icmp .ge 14, 3) := by decide +kernel
theorem d_Draft_basePair_10 : decode b_Draft_basePair 10 = .ok (.aload_n 0, 1) := by decide +kernel
theorem d_Draft_basePair_11 : decode b_Draft_basePair 11 = .ok (.getfield 15, 3) := by decide +kernel
theorem d_Draft_basePair_14 : decode b_Draft_basePair 14 = .ok (.iload_n 1, 1) := by decide +kernel
theorem d_Draft_basePair_15 : decode b_Draft_basePair 15 = .ok (.iconst 1, 1) := by decide +kernel
theorem d_Draft_basePair_16 : decode b_Draft_basePair 16 = .ok (.iadd, 1) := by decide +kernel
theorem d_Draft_basePair_17 : decode b_Draft_basePair 17 = .ok (.iaload, 1) := by decide +kernel
theorem d_Draft_basePair_18 : decode b_Draft_basePair 18 = .ok (.goto 4, 3) := by decide +kernel
theorem d_Draft_basePair_21 : decode b_Draft_basePair 21 = .ok (.iconst 0, 1) := by decide +kernel
theorem d_Draft_basePair_22 : decode b_Draft_basePair 22 = .ok (.istore_n 2, 1) := by decide +kernel
theorem d_Draft_basePair_23 : decode b_Draft_basePair 23 = .ok (.bipush 16, 2) := by decide +kernel
theorem d_Draft_basePair_25 : decode b_Draft_basePair 25 = .ok (.aload_n 0, 1) := by decide +kernel
theorem d_Draft_basePair_26 : decode b_Draft_basePair 26 = .ok (.getfield 15, 3) := by decide +kernel
theorem d_Draft_basePair_29 : decode b_Draft_basePair 29 = .ok (.iload_n 1, 1) := by decide +kernel
theorem d_Draft_basePair_30 : decode b_Draft_basePair 30 = .ok (.iaload, 1) := by decide +kernel
theorem d_Draft_basePair_31 : decode b_Draft_basePair 31 = .ok (.imul, 1) := by decide +kernel
theorem d_Draft_basePair_32 : decode b_Draft_basePair 32 = .ok (.iload_n 2, 1) := by decide +kernel
theorem d_Draft_basePair_33 : decode b_Draft_basePair 33 = .ok (.iadd, 1) := by decide +kernel
theorem d_Draft_basePair_34 : decode b_Draft_basePair 34 = .ok (.ireturn, 1) := by decide +kernel
theorem d_Find_init_0 : decode b_Find_init 0 = .ok (.aload_n 0, 1) := by decide +kernel
theorem d_Find_init_1 : decode b_Find_init 1 = .ok (.invokespecial 3, 3) := by decide +kernel
theorem d_Find_init_4 : decode b_Find_init 4 = .ok (.aload_n 0, 1) := by decide +kernel
theorem d_Find_init_5 : decode b_Find_init 5 = .ok (.bipush 24, 2) := by decide +kernel
theorem d_Find_init_7 : decode b_Find_init 7 = .ok (.bipush 22, 2) := by decide +kernel
theorem d_Find_init_9 : decode b_Find_init 9 = .ok (.multianewarray 9 2, 4) := by decide +kernel
theorem d_Find_init_13 : decode b_Find_init 13 = .ok (.putfield 11, 3) := by decide +kernel
theorem d_Find_init_16 : decode b_Find_init 16 = .ok (.aload_n 0, 1) := by decide +kernel
theorem d_Find_init_17 : decode b_Find_init 17 = .ok (.bipush 24, 2) := by decide +kernel
theorem d_Find_init_19 : decode b_Find_init 19 = .ok (.newarray .int, 2) := by decide +kernel
theorem d_Find_init_21 : decode b_Find_init 21 = .ok (.putfield 16, 3) := by decide +kernel
theorem d_Find_init_24 : decode b_Find_init 24 = .ok (.return_, 1) := by decide +kernel
theorem d_Find_empty_0 : decode b_Find_empty 0 = .ok (.aload_n 0, 1) := by decide +kernel
theorem d_Find_empty_1 : decode b_Find_empty 1 = .ok (.iconst 0, 1) := by decide +kernel
theorem d_Find_empty_2 : decode b_Find_empty 2 = .ok (.putfield 20, 3) := by decide +kernel
theorem d_Find_empty_5 : decode b_Find_empty 5 = .ok (.aload_n 0, 1) := by decide +kernel
theorem d_Find_empty_6 : decode b_Find_empty 6 = .ok (.iconst 0, 1) := by decide +kernel
theorem d_Find_empty_7 : decode b_Find_empty 7 = .ok (.putfield 24, 3) := by decide +kernel
theorem d_Find_empty_10 : decode b_Find_empty 10 = .ok (.return_, 1) := by decide +kernel
theorem d_Find_has_0 : decode b_Find_has 0 = .ok (.iload_n 1, 1) := by decide +kernel
theorem d_Find_has_1 : decode b_Find_has 1 = .ok (.ifCond .lt 15, 3) := by decide +kernel
theorem d_Find_has_4 : decode b_Find_has 4 = .ok (.iload_n 1, 1) := by decide +kernel
theorem d_Find_has_5 : decode b_Find_has 5 = .ok (.aload_n 0, 1) := by decide +kernel
theorem d_Find_has_6 : decode b_Find_has 6 = .ok (.getfield 20, 3) := by decide +kernel
theorem d_Find_has_9 : decode b_Find_has 9 = .ok (.if_icmp .ge 7, 3) := by decide +kernel
theorem d_Find_has_12 : decode b_Find_has 12 = .ok (.iconst 1, 1) := by decide +kernel
theorem d_Find_has_13 : decode b_Find_has 13 = .ok (.goto 4, 3) := by decide +kernel
theorem d_Find_has_16 : decode b_Find_has 16 = .ok (.iconst 0, 1) := by decide +kernel
theorem d_Find_has_17 : decode b_Find_has 17 = .ok (.ireturn, 1) := by decide +kernel
theorem d_Find_append_0 : decode b_Find_append 0 = .ok (.aload_n 0, 1) := by decide +kernel
theorem d_Find_append_1 : decode b_Find_append 1 = .ok (.getfield 20, 3) := by decide +kernel
theorem d_Find_append_4 : decode b_Find_append 4 = .ok (.bipush 24, 2) := by decide +kernel
theorem d_Find_append_6 : decode b_Find_append 6 = .ok (.if_icmp .lt 4, 3) := by decide +kernel
theorem d_Find_append_9 : decode b_Find_append 9 = .ok (.return_, 1) := by decide +kernel
theorem d_Find_append_10 : decode b_Find_append 10 = .ok (.aload_n 0, 1) := by decide +kernel
theorem d_Find_append_11 : decode b_Find_append 11 = .ok (.getfield 11, 3) := by decide +kernel
theorem d_Find_append_14 : decode b_Find_append 14 = .ok (.aload_n 0, 1) := by decide +kernel
theorem d_Find_append_15 : decode b_Find_append 15 = .ok (.getfield 20, 3) := by decide +kernel
theorem d_Find_append_18 : decode b_Find_append 18 = .ok (.aaload, 1) := by decide +kernel
theorem d_Find_append_19 : decode b_Find_append 19 = .ok (.astore_n 3, 1) := by decide +kernel
theorem d_Find_append_20 : decode b_Find_append 20 = .ok (.bipush 22, 2) := by decide +kernel
theorem d_Find_append_22 : decode b_Find_append 22 = .ok (.aload_n 1, 1) := by decide +kernel
theorem d_Find_append_23 : decode b_Find_append 23 = .ok (.iload_n 2, 1) := by decide +kernel
theorem d_Find_append_24 : decode b_Find_append 24 = .ok (.invokevirtual 27, 3) := by decide +kernel
theorem d_Find_append_27 : decode b_Find_append 27 = .ok (.iconst 1, 1) := by decide +kernel
theorem d_Find_append_28 : decode b_Find_append 28 = .ok (.iadd, 1) := by decide +kernel
theorem d_Find_append_29 : decode b_Find_append 29 = .ok (.invokestatic 33, 3) := by decide +kernel
theorem d_Find_append_32 : decode b_Find_append 32 = .ok (.istore 4, 2) := by decide +kernel
theorem d_Find_append_34 : decode b_Find_append 34 = .ok (.iconst 0, 1) := by decide +kernel
theorem d_Find_append_35 : decode b_Find_append 35 = .ok (.istore 5, 2) := by decide +kernel
theorem d_Find_append_37 : decode b_Find_append 37 = .ok (.iload 5, 2) := by decide +kernel
theorem d_Find_append_39 : decode b_Find_append 39 = .ok (.iload 4, 2) := by decide +kernel
theorem d_Find_append_41 : decode b_Find_append 41 = .ok (.if_icmp .ge 21, 3) := by decide +kernel
theorem d_Find_append_44 : decode b_Find_append 44 = .ok (.aload_n 3, 1) := by decide +kernel
theorem d_Find_append_45 : decode b_Find_append 45 = .ok (.iload 5, 2) := by decide +kernel
theorem d_Find_append_47 : decode b_Find_append 47 = .ok (.aload_n 1, 1) := by decide +kernel
theorem d_Find_append_48 : decode b_Find_append 48 = .ok (.iload_n 2, 1) := by decide +kernel
theorem d_Find_append_49 : decode b_Find_append 49 = .ok (.iload 5, 2) := by decide +kernel
theorem d_Find_append_51 : decode b_Find_append 51 = .ok (.iadd, 1) := by decide +kernel
theorem d_Find_append_52 : decode b_Find_append 52 = .ok (.invokevirtual 27, 3) := by decide +kernel
theorem d_Find_append_55 : decode b_Find_append 55 = .ok (.iastore, 1) := by decide +kernel
theorem d_Find_append_56 : decode b_Find_append 56 = .ok (.iinc 5 1, 3) := by decide +kernel
theorem d_Find_append_59 : decode b_Find_append 59 = .ok (.goto (-22), 3) := by decide +kernel
theorem d_Find_append_62 : decode b_Find_append 62 = .ok (.aload_n 0, 1) := by decide +kernel
theorem d_Find_append_63 : decode b_Find_append 63 = .ok (.getfield 16, 3) := by decide +kernel
theorem d_Find_append_66 : decode b_Find_append 66 = .ok (.aload_n 0, 1) := by decide +kernel
theorem d_Find_append_67 : decode b_Find_append 67 = .ok (.getfield 20, 3) := by decide +kernel
theorem d_Find_append_70 : decode b_Find_append 70 = .ok (.aload_n 1, 1) := by decide +kernel
theorem d_Find_append_71 : decode b_Find_append 71 = .ok (.iload_n 2, 1) := by decide +kernel
theorem d_Find_append_72 : decode b_Find_append 72 = .ok (.invokevirtual 39, 3) := by decide +kernel
theorem d_Find_append_75 : decode b_Find_append 75 = .ok (.iastore, 1) := by decide +kernel
theorem d_Find_append_76 : decode b_Find_append 76 = .ok (.aload_n 0, 1) := by decide +kernel
theorem d_Find_append_77 : decode b_Find_append 77 = .ok (.dup, 1) := by decide +kernel
theorem d_Find_append_78 : decode b_Find_append 78 = .ok (.getfield 20, 3) := by decide +kernel
theorem d_Find_append_81 : decode b_Find_append 81 = .ok (.iconst 1, 1) := by decide +kernel
theorem d_Find_append_82 : decode b_Find_append 82 = .ok (.iadd, 1) := by decide +kernel
theorem d_Find_append_83 : decode b_Find_append 83 = .ok (.putfield 20, 3) := by decide +kernel
theorem d_Find_append_86 : decode b_Find_append 86 = .ok (.return_, 1) := by decide +kernel
theorem d_Find_position_0 : decode b_Find_position 0 = .ok (.aload_n 0, 1) := by decide +kernel
theorem d_Find_position_1 : decode b_Find_position 1 = .ok (.getfield 11, 3) := by decide +kernel
theorem d_Find_position_4 : decode b_Find_position 4 = .ok (.iload_n 1, 1) := by decide +kernel
theorem d_Find_position_5 : decode b_Find_position 5 = .ok (.aaload, 1) := by decide +kernel
theorem d_Find_position_6 : decode b_Find_position 6 = .ok (.iconst 2, 1) := by decide +kernel
theorem d_Find_position_7 : decode b_Find_position 7 = .ok (.iaload, 1) := by decide +kernel
theorem d_Find_position_8 : decode b_Find_position 8 = .ok (.sipush 256, 3) := by decide +kernel
theorem d_Find_position_11 : decode b_Find_position 11 = .ok (.aload_n 0, 1) := by decide +kernel
theorem d_Find_position_12 : decode b_Find_position 12 = .ok (.getfield 11, 3) := by decide +kernel
theorem d_Find_position_15 : decode b_Find_position 15 = .ok (.iload_n 1, 1) := by decide +kernel
theorem d_Find_position_16 : decode b_Find_position 16 = .ok (.aaload, 1) := by decide +kernel
theorem d_Find_position_17 : decode b_Find_position 17 = .ok (.iconst 3, 1) := by decide +kernel
theorem d_Find_position_18 : decode b_Find_position 18 = .ok (.iaload, 1) := by decide +kernel
theorem d_Find_position_19 : decode b_Find_position 19 = .ok (.imul, 1) := by decide +kernel
theorem d_Find_position_20 : decode b_Find_position 20 = .ok (.iadd, 1) := by decide +kernel
theorem d_Find_position_21 : decode b_Find_position 21 = .ok (.ireturn, 1) := by decide +kernel
theorem d_Find_end_0 : decode b_Find_end 0 = .ok (.aload_n 0, 1) := by decide +kernel
theorem d_Find_end_1 : decode b_Find_end 1 = .ok (.iload_n 1, 1) := by decide +kernel
theorem d_Find_end_2 : decode b_Find_end 2 = .ok (.invokevirtual 42, 3) := by decide +kernel
theorem d_Find_end_5 : decode b_Find_end 5 = .ok (.aload_n 0, 1) := by decide +kernel
theorem d_Find_end_6 : decode b_Find_end 6 = .ok (.getfield 11, 3) := by decide +kernel
theorem d_Find_end_9 : decode b_Find_end 9 = .ok (.iload_n 1, 1) := by decide +kernel
theorem d_Find_end_10 : decode b_Find_end 10 = .ok (.aaload, 1) := by decide +kernel
theorem d_Find_end_11 : decode b_Find_end 11 = .ok (.bipush 7, 2) := by decide +kernel
theorem d_Find_end_13 : decode b_Find_end 13 = .ok (.aload_n 0, 1) := by decide +kernel
theorem d_Find_end_14 : decode b_Find_end 14 = .ok (.iload_n 1, 1) := by decide +kernel
theorem d_Find_end_15 : decode b_Find_end 15 = .ok (.invokevirtual 45, 3) := by decide +kernel
theorem d_Find_end_18 : decode b_Find_end 18 = .ok (.invokestatic 48, 3) := by decide +kernel
theorem d_Find_end_21 : decode b_Find_end 21 = .ok (.iadd, 1) := by decide +kernel
theorem d_Find_end_22 : decode b_Find_end 22 = .ok (.ireturn, 1) := by decide +kernel
theorem d_Find_opCount_0 : decode b_Find_opCount 0 = .ok (.aload_n 0, 1) := by decide +kernel
theorem d_Find_opCount_1 : decode b_Find_opCount 1 = .ok (.getfield 11, 3) := by decide +kernel
theorem d_Find_opCount_4 : decode b_Find_opCount 4 = .ok (.iload_n 1, 1) := by decide +kernel
theorem d_Find_opCount_5 : decode b_Find_opCount 5 = .ok (.aaload, 1) := by decide +kernel
theorem d_Find_opCount_6 : decode b_Find_opCount 6 = .ok (.iconst 5, 1) := by decide +kernel
theorem d_Find_opCount_7 : decode b_Find_opCount 7 = .ok (.iaload, 1) := by decide +kernel
theorem d_Find_opCount_8 : decode b_Find_opCount 8 = .ok (.ireturn, 1) := by decide +kernel
theorem d_Find_baseCount_0 : decode b_Find_baseCount 0 = .ok (.aload_n 0, 1) := by decide +kernel
theorem d_Find_baseCount_1 : decode b_Find_baseCount 1 = .ok (.getfield 11, 3) := by decide +kernel
theorem d_Find_baseCount_4 : decode b_Find_baseCount 4 = .ok (.iload_n 1, 1) := by decide +kernel
theorem d_Find_baseCount_5 : decode b_Find_baseCount 5 = .ok (.aaload, 1) := by decide +kernel
theorem d_Find_baseCount_6 : decode b_Find_baseCount 6 = .ok (.bipush 6, 2) := by decide +kernel
theorem d_Find_baseCount_8 : decode b_Find_baseCount 8 = .ok (.iaload, 1) := by decide +kernel
theorem d_Find_baseCount_9 : decode b_Find_baseCount 9 = .ok (.ireturn, 1) := by decide +kernel
theorem d_Indx_init_0 : decode b_Indx_init 0 = .ok (.aload_n 0, 1) := by decide +kernel
theorem d_Indx_init_1 : decode b_Indx_init 1 = .ok (.invokespecial 3, 3) := by decide +kernel
theorem d_Indx_init_4 : decode b_Indx_init 4 = .ok (.aload_n 0, 1) := by decide +kernel
theorem d_Indx_init_5 : decode b_Indx_init 5 = .ok (.bipush 24, 2) := by decide +kernel
theorem d_Indx_init_7 : decode b_Indx_init 7 = .ok (.newarray .int, 2) := by decide +kernel
theorem d_Indx_init_9 : decode b_Indx_init 9 = .ok (.putfield 9, 3) := by decide +kernel
theorem d_Indx_init_12 : decode b_Indx_init 12 = .ok (.aload_n 0, 1) := by decide +kernel
theorem d_Indx_init_13 : decode b_Indx_init 13 = .ok (.bipush 24, 2) := by decide +kernel
theorem d_Indx_init_15 : decode b_Indx_init 15 = .ok (.newarray .int, 2) := by decide +kernel
theorem d_Indx_init_17 : decode b_Indx_init 17 = .ok (.putfield 15, 3) := by decide +kernel
theorem d_Indx_init_20 : decode b_Indx_init 20 = .ok (.aload_n 0, 1) := by decide +kernel
theorem d_Indx_init_21 : decode b_Indx_init 21 = .ok (.bipush 24, 2) := by decide +kernel
theorem d_Indx_init_23 : decode b_Indx_init 23 = .ok (.newarray .int, 2) := by decide +kernel
theorem d_Indx_init_25 : decode b_Indx_init 25 = .ok (.putfield 18, 3) := by decide +kernel
theorem d_Indx_init_28 : decode b_Indx_init 28 = .ok (.aload_n 0, 1) := by decide +kernel
theorem d_Indx_init_29 : decode b_Indx_init 29 = .ok (.bipush 24, 2) := by decide +kernel
theorem d_Indx_init_31 : decode b_Indx_init 31 = .ok (.newarray .int, 2) := by decide +kernel
theorem d_Indx_init_33 : decode b_Indx_init 33 = .ok (.putfield 21, 3) := by decide +kernel
theorem d_Indx_init_36 : decode b_Indx_init 36 = .ok (.aload_n 0, 1) := by decide +kernel
theorem d_Indx_init_37 : decode b_Indx_init 37 = .ok (.bipush 24, 2) := by decide +kernel
theorem d_Indx_init_39 : decode b_Indx_init 39 = .ok (.newarray .int, 2) := by decide +kernel
theorem d_Indx_init_41 : decode b_Indx_init 41 = .ok (.putfield 24, 3) := by decide +kernel
theorem d_Indx_init_44 : decode b_Indx_init 44 = .ok (.aload_n 0, 1) := by decide +kernel
theorem d_Indx_init_45 : decode b_Indx_init 45 = .ok (.bipush 24, 2) := by decide +kernel
theorem d_Indx_init_47 : decode b_Indx_init 47 = .ok (.newarray .int, 2) := by decide +kernel
theorem d_Indx_init_49 : decode b_Indx_init 49 = .ok (.putfield 27, 3) := by decide +kernel
theorem d_Indx_init_52 : decode b_Indx_init 52 = .ok (.return_, 1) := by decide +kernel
theorem d_Indx_empty_0 : decode b_Indx_empty 0 = .ok (.aload_n 0, 1) := by decide +kernel
theorem d_Indx_empty_1 : decode b_Indx_empty 1 = .ok (.iconst 0, 1) := by decide +kernel
theorem d_Indx_empty_2 : decode b_Indx_empty 2 = .ok (.putfield 30, 3) := by decide +kernel
theorem d_Indx_empty_5 : decode b_Indx_empty 5 = .ok (.aload_n 0, 1) := by decide +kernel
theorem d_Indx_empty_6 : decode b_Indx_empty 6 = .ok (.iconst 0, 1) := by decide +kernel
theorem d_Indx_empty_7 : decode b_Indx_empty 7 = .ok (.putfield 34, 3) := by decide +kernel
theorem d_Indx_empty_10 : decode b_Indx_empty 10 = .ok (.return_, 1) := by decide +kernel
theorem d_Indx_isFull_0 : decode b_Indx_isFull 0 = .ok (.aload_n 0, 1) := by decide +kernel
theorem d_Indx_isFull_1 : decode b_Indx_isFull 1 = .ok (.getfield 30, 3) := by decide +kernel
theorem d_Indx_isFull_4 : decode b_Indx_isFull 4 = .ok (.bipush 24, 2) := by decide +kernel
theorem d_Indx_isFull_6 : decode b_Indx_isFull 6 = .ok (.if_icmp .lt 7, 3) := by decide +kernel
theorem d_Indx_isFull_9 : decode b_Indx_isFull 9 = .ok (.iconst 1, 1) := by decide +kernel
theorem d_Indx_isFull_10 : decode b_Indx_isFull 10 = .ok (.goto 4, 3) := by decide +kernel
theorem d_Indx_isFull_13 : decode b_Indx_isFull 13 = .ok (.iconst 0, 1) := by decide +kernel
theorem d_Indx_isFull_14 : decode b_Indx_isFull 14 = .ok (.ireturn, 1) := by decide +kernel
theorem d_Indx_endsBehind_0 : decode b_Indx_endsBehind 0 = .ok (.aload_n 0, 1) := by decide +kernel
theorem d_Indx_endsBehind_1 : decode b_Indx_endsBehind 1 = .ok (.getfield 30, 3) := by decide +kernel
theorem d_Indx_endsBehind_4 : decode b_Indx_endsBehind 4 = .ok (.ifCond .ne 5, 3) := by decide +kernel
theorem d_Indx_endsBehind_7 : decode b_Indx_endsBehind 7 = .ok (.iconst 0, 1) := by decide +kernel
theorem d_Indx_endsBehind_8 : decode b_Indx_endsBehind 8 = .ok (.ireturn, 1) := by decide +kernel
theorem d_Indx_endsBehind_9 : decode b_Indx_endsBehind 9 = .ok (.aload_n 0, 1) := by decide +kernel
theorem d_Indx_endsBehind_10 : decode b_Indx_endsBehind 10 = .ok (.getfield 30, 3) := by decide +kernel
theorem d_Indx_endsBehind_13 : decode b_Indx_endsBehind 13 = .ok (.iconst 1, 1) := by decide +kernel
theorem d_Indx_endsBehind_14 : decode b_Indx_endsBehind 14 = .ok (.isub, 1) := by decide +kernel
theorem d_Indx_endsBehind_15 : decode b_Indx_endsBehind 15 = .ok (.istore_n 3, 1) := by decide +kernel
theorem d_Indx_endsBehind_16 : decode b_Indx_endsBehind 16 = .ok (.iload_n 1, 1) := by decide +kernel
theorem d_Indx_endsBehind_17 : decode b_Indx_endsBehind 17 = .ok (.aload_n 0, 1) := by decide +kernel
theorem d_Indx_endsBehind_18 : decode b_Indx_endsBehind 18 = .ok (.getfield 9, 3) := by decide +kernel
theorem d_Indx_endsBehind_21 : decode b_Indx_endsBehind 21 = .ok (.iload_n 3, 1) := by decide +kernel
theorem d_Indx_endsBehind_22 : decode b_Indx_endsBehind 22 = .ok (.iaload, 1) := by decide +kernel
theorem d_Indx_endsBehind_23 : decode b_Indx_endsBehind 23 = .ok (.if_icmp .lt 23, 3) := by decide +kernel
theorem d_Indx_endsBehind_26 : decode b_Indx_endsBehind 26 = .ok (.iload_n 1, 1) := by decide +kernel
theorem d_Indx_endsBehind_27 : decode b_Indx_endsBehind 27 = .ok (.aload_n 0, 1) := by decide +kernel
theorem d_Indx_endsBehind_28 : decode b_Indx_endsBehind 28 = .ok (.getfield 9, 3) := by decide +kernel
theorem d_Indx_endsBehind_31 : decode b_Indx_endsBehind 31 = .ok (.iload_n 3, 1) := by decide +kernel
theorem d_Indx_endsBehind_32 : decode b_Indx_endsBehind 32 = .ok (.iaload, 1) := by decide +kernel
theorem d_Indx_endsBehind_33 : decode b_Indx_endsBehind 33 = .ok (.if_icmp .ne 17, 3) := by decide +kernel
theorem d_Indx_endsBehind_36 : decode b_Indx_endsBehind 36 = .ok (.iload_n 2, 1) := by decide +kernel
theorem d_Indx_endsBehind_37 : decode b_Indx_endsBehind 37 = .ok (.aload_n 0, 1) := by decide +kernel
theorem d_Indx_endsBehind_38 : decode b_Indx_endsBehind 38 = .ok (.getfield 15, 3) := by decide +kernel
theorem d_Indx_endsBehind_41 : decode b_Indx_endsBehind 41 = .ok (.iload_n 3, 1) := by decide +kernel
theorem d_Indx_endsBehind_42 : decode b_Indx_endsBehind 42 = .ok (.iaload, 1) := by decide +kernel
theorem d_Indx_endsBehind_43 : decode b_Indx_endsBehind 43 = .ok (.if_icmp .ge 7, 3) := by decide +kernel
theorem d_Indx_endsBehind_46 : decode b_Indx_endsBehind 46 = .ok (.iconst 1, 1) := by decide +kernel
theorem d_Indx_endsBehind_47 : decode b_Indx_endsBehind 47 = .ok (.goto 4, 3) := by decide +kernel
theorem d_Indx_endsBehind_50 : decode b_Indx_endsBehind 50 = .ok (.iconst 0, 1) := by decide +kernel
theorem d_Indx_endsBehind_51 : decode b_Indx_endsBehind 51 = .ok (.ireturn, 1) := by decide +kernel
theorem d_Indx_append_0 : decode b_Indx_append 0 = .ok (.aload_n 0, 1) := by decide +kernel
theorem d_Indx_append_1 : decode b_Indx_append 1 = .ok (.invokevirtual 37, 3) := by decide +kernel
theorem d_Indx_append_4 : decode b_Indx_append 4 = .ok (.ifCond .eq 5, 3) := by decide +kernel
theorem d_Indx_append_7 : decode b_Indx_append 7 = .ok (.iconst (-1), 1) := by decide +kernel
theorem d_Indx_append_8 : decode b_Indx_append 8 = .ok (.ireturn, 1) := by decide +kernel
theorem d_Indx_append_9 : decode b_Indx_append 9 = .ok (.aload_n 0, 1) := by decide +kernel
theorem d_Indx_append_10 : decode b_Indx_append 10 = .ok (.getfield 9, 3) := by decide +kernel
theorem d_Indx_append_13 : decode b_Indx_append 13 = .ok (.aload_n 0, 1) := by decide +kernel
theorem d_Indx_append_14 : decode b_Indx_append 14 = .ok (.getfield 30, 3) := by decide +kernel
theorem d_Indx_append_17 : decode b_Indx_append 17 = .ok (.iload_n 1, 1) := by decide +kernel
theorem d_Indx_append_18 : decode b_Indx_append 18 = .ok (.iastore, 1) := by decide +kernel
theorem d_Indx_append_19 : decode b_Indx_append 19 = .ok (.aload_n 0, 1) := by decide +kernel
theorem d_Indx_append_20 : decode b_Indx_append 20 = .ok (.getfield 15, 3) := by decide +kernel
theorem d_Indx_append_23 : decode b_Indx_append 23 = .ok (.aload_n 0, 1) := by decide +kernel
theorem d_Indx_append_24 : decode b_Indx_append 24 = .ok (.getfield 30, 3) := by decide +kernel
theorem d_Indx_append_27 : decode b_Indx_append 27 = .ok (.iload_n 2, 1) := by decide +kernel
theorem d_Indx_append_28 : decode b_Indx_append 28 = .ok (.iastore, 1) := by decide +kernel
theorem d_Indx_append_29 : decode b_Indx_append 29 = .ok (.aload_n 0, 1) := by decide +kernel
theorem d_Indx_append_30 : decode b_Indx_append 30 = .ok (.getfield 18, 3) := by decide +kernel
theorem d_Indx_append_33 : decode b_Indx_append 33 = .ok (.aload_n 0, 1) := by decide +kernel
theorem d_Indx_append_34 : decode b_Indx_append 34 = .ok (.getfield 30, 3) := by decide +kernel
theorem d_Indx_append_37 : decode b_Indx_append 37 = .ok (.iload_n 3, 1) := by decide +kernel
theorem d_Indx_append_38 : decode b_Indx_append 38 = .ok (.iastore, 1) := by decide +kernel
theorem d_Indx_append_39 : decode b_Indx_append 39 = .ok (.aload_n 0, 1) := by decide +kernel
theorem d_Indx_append_40 : decode b_Indx_append 40 = .ok (.getfield 21, 3) := by decide +kernel
theorem d_Indx_append_43 : decode b_Indx_append 43 = .ok (.aload_n 0, 1) := by decide +kernel
theorem d_Indx_append_44 : decode b_Indx_append 44 = .ok (.getfield 30, 3) := by decide +kernel
theorem d_Indx_append_47 : decode b_Indx_append 47 = .ok (.iload 4, 2) := by decide +kernel
theorem d_Indx_append_49 : decode b_Indx_append 49 = .ok (.iastore, 1) := by decide +kernel
theorem d_Indx_append_50 : decode b_Indx_append 50 = .ok (.aload_n 0, 1) := by decide +kernel
theorem d_Indx_append_51 : decode b_Indx_append 51 = .ok (.getfield 24, 3) := by decide +kernel
theorem d_Indx_append_54 : decode b_Indx_append 54 = .ok (.aload_n 0, 1) := by decide +kernel
theorem d_Indx_append_55 : decode b_Indx_append 55 = .ok (.getfield 30, 3) := by decide +kernel
theorem d_Indx_append_58 : decode b_Indx_append 58 = .ok (.iload 5, 2) := by decide +kernel
theorem d_Indx_append_60 : decode b_Indx_append 60 = .ok (.iastore, 1) := by decide +kernel
theorem d_Indx_append_61 : decode b_Indx_append 61 = .ok (.aload_n 0, 1) := by decide +kernel
theorem d_Indx_append_62 : decode b_Indx_append 62 = .ok (.dup, 1) := by decide +kernel
theorem d_Indx_append_63 : decode b_Indx_append 63 = .ok (.getfield 30, 3) := by decide +kernel
theorem d_Indx_append_66 : decode b_Indx_append 66 = .ok (.dup_x1, 1) := by decide +kernel
theorem d_Indx_append_67 : decode b_Indx_append 67 = .ok (.iconst 1, 1) := by decide +kernel
theorem d_Indx_append_68 : decode b_Indx_append 68 = .ok (.iadd, 1) := by decide +kernel
theorem d_Indx_append_69 : decode b_Indx_append 69 = .ok (.putfield 30, 3) := by decide +kernel
theorem d_Indx_append_72 : decode b_Indx_append 72 = .ok (.ireturn, 1) := by decide +kernel
theorem d_Indx_choose_0 : decode b_Indx_choose 0 = .ok (.aload_n 0, 1) := by decide +kernel
theorem d_Indx_choose_1 : decode b_Indx_choose 1 = .ok (.iconst 0, 1) := by decide +kernel
theorem d_Indx_choose_2 : decode b_Indx_choose 2 = .ok (.putfield 34, 3) := by decide +kernel
theorem d_Indx_choose_5 : decode b_Indx_choose 5 = .ok (.aload_n 0, 1) := by decide +kernel
theorem d_Indx_choose_6 : decode b_Indx_choose 6 = .ok (.iload_n 1, 1) := by decide +kernel
theorem d_Indx_choose_7 : decode b_Indx_choose 7 = .ok (.bipush 64, 2) := by decide +kernel
theorem d_Indx_choose_9 : decode b_Indx_choose 9 = .ok (.iload_n 2, 1) := by decide +kernel
theorem d_Indx_choose_10 : decode b_Indx_choose 10 = .ok (.bipush 64, 2) := by decide +kernel
theorem d_Indx_choose_12 : decode b_Indx_choose 12 = .ok (.idiv, 1) := by decide +kernel
theorem d_Indx_choose_13 : decode b_Indx_choose 13 = .ok (.imul, 1) := by decide +kernel
theorem d_Indx_choose_14 : decode b_Indx_choose 14 = .ok (.invokevirtual 41, 3) := by decide +kernel
theorem d_Indx_choose_17 : decode b_Indx_choose 17 = .ok (.istore 4, 2) := by decide +kernel
theorem d_Indx_choose_19 : decode b_Indx_choose 19 = .ok (.iload 4, 2) := by decide +kernel
theorem d_Indx_choose_21 : decode b_Indx_choose 21 = .ok (.istore 5, 2) := by decide +kernel
theorem d_Indx_choose_23 : decode b_Indx_choose 23 = .ok (.iload 5, 2) := by decide +kernel
theorem d_Indx_choose_25 : decode b_Indx_choose 25 = .ok (.aload_n 0, 1) := by decide +kernel
theorem d_Indx_choose_26 : decode b_Indx_choose 26 = .ok (.getfield 30, 3) := by decide +kernel
theorem d_Indx_choose_29 : decode b_Indx_choose 29 = .ok (.if_icmp .ge 53, 3) := by decide +kernel
theorem d_Indx_choose_32 : decode b_Indx_choose 32 = .ok (.aload_n 0, 1) := by decide +kernel
theorem d_Indx_choose_33 : decode b_Indx_choose 33 = .ok (.getfield 9, 3) := by decide +kernel
theorem d_Indx_choose_36 : decode b_Indx_choose 36 = .ok (.iload 5, 2) := by decide +kernel
theorem d_Indx_choose_38 : decode b_Indx_choose 38 = .ok (.iaload, 1) := by decide +kernel
theorem d_Indx_choose_39 : decode b_Indx_choose 39 = .ok (.iload_n 1, 1) := by decide +kernel
theorem d_Indx_choose_40 : decode b_Indx_choose 40 = .ok (.if_icmp .ne 36, 3) := by decide +kernel
theorem d_Indx_choose_43 : decode b_Indx_choose 43 = .ok (.aload_n 0, 1) := by decide +kernel
theorem d_Indx_choose_44 : decode b_Indx_choose 44 = .ok (.getfield 21, 3) := by decide +kernel
theorem d_Indx_choose_47 : decode b_Indx_choose 47 = .ok (.iload 5, 2) := by decide +kernel
theorem d_Indx_choose_49 : decode b_Indx_choose 49 = .ok (.iaload, 1) := by decide +kernel
theorem d_Indx_choose_50 : decode b_Indx_choose 50 = .ok (.iload_n 2, 1) := by decide +kernel
theorem d_Indx_choose_51 : decode b_Indx_choose 51 = .ok (.iload_n 3, 1) := by decide +kernel
theorem d_Indx_choose_52 : decode b_Indx_choose 52 = .ok (.invokestatic 45, 3) := by decide +kernel
theorem d_Indx_choose_55 : decode b_Indx_choose 55 = .ok (.ifCond .eq 21, 3) := by decide +kernel
theorem d_Indx_choose_58 : decode b_Indx_choose 58 = .ok (.aload_n 0, 1) := by decide +kernel
theorem d_Indx_choose_59 : decode b_Indx_choose 59 = .ok (.getfield 27, 3) := by decide +kernel
theorem d_Indx_choose_62 : decode b_Indx_choose 62 = .ok (.aload_n 0, 1) := by decide +kernel
theorem d_Indx_choose_63 : decode b_Indx_choose 63 = .ok (.dup, 1) := by decide +kernel
theorem d_Indx_choose_64 : decode b_Indx_choose 64 = .ok (.getfield 34, 3) := by decide +kernel
theorem d_Indx_choose_67 : decode b_Indx_choose 67 = .ok (.dup_x1, 1) := by decide +kernel
theorem d_Indx_choose_68 : decode b_Indx_choose 68 = .ok (.iconst 1, 1) := by decide +kernel
theorem d_Indx_choose_69 : decode b_Indx_choose 69 = .ok (.iadd, 1) := by decide +kernel
theorem d_Indx_choose_70 : decode b_Indx_choose 70 = .ok (.putfield 34, 3) := by decide +kernel
theorem d_Indx_choose_73 : decode b_Indx_choose 73 = .ok (.iload 5, 2) := by decide +kernel
theorem d_Indx_choose_75 : decode b_Indx_choose 75 = .ok (.iastore, 1) := by decide +kernel
theorem d_Indx_choose_76 : decode b_Indx_choose 76 = .ok (.iinc 5 1, 3) := by decide +kernel
theorem d_Indx_choose_79 : decode b_Indx_choose 79 = .ok (.goto (-56), 3) := by decide +kernel
theorem d_Indx_choose_82 : decode b_Indx_choose 82 = .ok (.return_, 1) := by decide +kernel
theorem d_Indx_overlaps_0 : decode b_Indx_overlaps 0 = .ok (.aload_n 0, 1) := by decide +kernel
theorem d_Indx_overlaps_1 : decode b_Indx_overlaps 1 = .ok (.getfield 15, 3) := by decide +kernel
theorem d_Indx_overlaps_4 : decode b_Indx_overlaps 4 = .ok (.iload_n 1, 1) := by decide +kernel
theorem d_Indx_overlaps_5 : decode b_Indx_overlaps 5 = .ok (.iaload, 1) := by decide +kernel
theorem d_Indx_overlaps_6 : decode b_Indx_overlaps 6 = .ok (.iload_n 3, 1) := by decide +kernel
theorem d_Indx_overlaps_7 : decode b_Indx_overlaps 7 = .ok (.if_icmp .ge 17, 3) := by decide +kernel
theorem d_Indx_overlaps_10 : decode b_Indx_overlaps 10 = .ok (.iload_n 2, 1) := by decide +kernel
theorem d_Indx_overlaps_11 : decode b_Indx_overlaps 11 = .ok (.aload_n 0, 1) := by decide +kernel
theorem d_Indx_overlaps_12 : decode b_Indx_overlaps 12 = .ok (.getfield 18, 3) := by decide +kernel
theorem d_Indx_overlaps_15 : decode b_Indx_overlaps 15 = .ok (.iload_n 1, 1) := by decide +kernel
theorem d_Indx_overlaps_16 : decode b_Indx_overlaps 16 = .ok (.iaload, 1) := by decide +kernel
theorem d_Indx_overlaps_17 : decode b_Indx_overlaps 17 = .ok (.if_icmp .ge 7, 3) := by decide +kernel
theorem d_Indx_overlaps_20 : decode b_Indx_overlaps 20 = .ok (.iconst 1, 1) := by decide +kernel
theorem d_Indx_overlaps_21 : decode b_Indx_overlaps 21 = .ok (.goto 4, 3) := by decide +kernel
theorem d_Indx_overlaps_24 : decode b_Indx_overlaps 24 = .ok (.iconst 0, 1) := by decide +kernel
theorem d_Indx_overlaps_25 : decode b_Indx_overlaps 25 = .ok (.ireturn, 1) := by decide +kernel
theorem d_Indx_firstEndingAfter_0 : decode b_Indx_firstEndingAfter 0 = .ok (.iconst 0, 1) := by decide +kernel
theorem d_Indx_firstEndingAfter_1 : decode b_Indx_firstEndingAfter 1 = .ok (.istore_n 3, 1) := by decide +kernel
theorem d_Indx_firstEndingAfter_2 : decode b_Indx_firstEndingAfter 2 = .ok (.iload_n 3, 1) := by decide +kernel
theorem d_Indx_firstEndingAfter_3 : decode b_Indx_firstEndingAfter 3 = .ok (.aload_n 0, 1) := by decide +kernel
theorem d_Indx_firstEndingAfter_4 : decode b_Indx_firstEndingAfter 4 = .ok (.getfield 30, 3) := by decide +kernel
theorem d_Indx_firstEndingAfter_7 : decode b_Indx_firstEndingAfter 7 = .ok (.if_icmp .ge 31, 3) := by decide +kernel
theorem d_Indx_firstEndingAfter_10 : decode b_Indx_firstEndingAfter 10 = .ok (.aload_n 0, 1) := by decide +kernel
theorem d_Indx_firstEndingAfter_11 : decode b_Indx_firstEndingAfter 11 = .ok (.getfield 9, 3) := by decide +kernel
theorem d_Indx_firstEndingAfter_14 : decode b_Indx_firstEndingAfter 14 = .ok (.iload_n 3, 1) := by decide +kernel
theorem d_Indx_firstEndingAfter_15 : decode b_Indx_firstEndingAfter 15 = .ok (.iaload, 1) := by decide +kernel
theorem d_Indx_firstEndingAfter_16 : decode b_Indx_firstEndingAfter 16 = .ok (.iload_n 1, 1) := by decide +kernel
theorem d_Indx_firstEndingAfter_17 : decode b_Indx_firstEndingAfter 17 = .ok (.if_icmp .ne 15, 3) := by decide +kernel
theorem d_Indx_firstEndingAfter_20 : decode b_Indx_firstEndingAfter 20 = .ok (.aload_n 0, 1) := by decide +kernel
theorem d_Indx_firstEndingAfter_21 : decode b_Indx_firstEndingAfter 21 = .ok (.getfield 18, 3) := by decide +kernel
theorem d_Indx_firstEndingAfter_24 : decode b_Indx_firstEndingAfter 24 = .ok (.iload_n 3, 1) := by decide +kernel
theorem d_Indx_firstEndingAfter_25 : decode b_Indx_firstEndingAfter 25 = .ok (.iaload, 1) := by decide +kernel
theorem d_Indx_firstEndingAfter_26 : decode b_Indx_firstEndingAfter 26 = .ok (.iload_n 2, 1) := by decide +kernel
theorem d_Indx_firstEndingAfter_27 : decode b_Indx_firstEndingAfter 27 = .ok (.if_icmp .le 5, 3) := by decide +kernel
theorem d_Indx_firstEndingAfter_30 : decode b_Indx_firstEndingAfter 30 = .ok (.iload_n 3, 1) := by decide +kernel
theorem d_Indx_firstEndingAfter_31 : decode b_Indx_firstEndingAfter 31 = .ok (.ireturn, 1) := by decide +kernel
theorem d_Indx_firstEndingAfter_32 : decode b_Indx_firstEndingAfter 32 = .ok (.iinc 3 1, 3) := by decide +kernel
theorem d_Indx_firstEndingAfter_35 : decode b_Indx_firstEndingAfter 35 = .ok (.goto (-33), 3) := by decide +kernel
theorem d_Indx_firstEndingAfter_38 : decode b_Indx_firstEndingAfter 38 = .ok (.aload_n 0, 1) := by decide +kernel
theorem d_Indx_firstEndingAfter_39 : decode b_Indx_firstEndingAfter 39 = .ok (.getfield 30, 3) := by decide +kernel
theorem d_Indx_firstEndingAfter_42 : decode b_Indx_firstEndingAfter 42 = .ok (.ireturn, 1) := by decide +kernel
theorem d_Strm_init_0 : decode b_Strm_init 0 = .ok (.aload_n 0, 1) := by decide +kernel
theorem d_Strm_init_1 : decode b_Strm_init 1 = .ok (.invokespecial 3, 3) := by decide +kernel
theorem d_Strm_init_4 : decode b_Strm_init 4 = .ok (.aload_n 0, 1) := by decide +kernel
theorem d_Strm_init_5 : decode b_Strm_init 5 = .ok (.sipush 528, 3) := by decide +kernel
theorem d_Strm_init_8 : decode b_Strm_init 8 = .ok (.newarray .int, 2) := by decide +kernel
theorem d_Strm_init_10 : decode b_Strm_init 10 = .ok (.putfield 9, 3) := by decide +kernel
theorem d_Strm_init_13 : decode b_Strm_init 13 = .ok (.return_, 1) := by decide +kernel
theorem d_Strm_empty_0 : decode b_Strm_empty 0 = .ok (.aload_n 0, 1) := by decide +kernel
theorem d_Strm_empty_1 : decode b_Strm_empty 1 = .ok (.iconst 0, 1) := by decide +kernel
theorem d_Strm_empty_2 : decode b_Strm_empty 2 = .ok (.putfield 15, 3) := by decide +kernel
theorem d_Strm_empty_5 : decode b_Strm_empty 5 = .ok (.return_, 1) := by decide +kernel
theorem d_Strm_appendRow_0 : decode b_Strm_appendRow 0 = .ok (.aload_n 0, 1) := by decide +kernel
theorem d_Strm_appendRow_1 : decode b_Strm_appendRow 1 = .ok (.getfield 15, 3) := by decide +kernel
theorem d_Strm_appendRow_4 : decode b_Strm_appendRow 4 = .ok (.istore 5, 2) := by decide +kernel
theorem d_Strm_appendRow_6 : decode b_Strm_appendRow 6 = .ok (.aload_n 0, 1) := by decide +kernel
theorem d_Strm_appendRow_7 : decode b_Strm_appendRow 7 = .ok (.iconst 0, 1) := by decide +kernel
theorem d_Strm_appendRow_8 : decode b_Strm_appendRow 8 = .ok (.invokevirtual 19, 3) := by decide +kernel
theorem d_Strm_appendRow_11 : decode b_Strm_appendRow 11 = .ok (.aload_n 0, 1) := by decide +kernel
theorem d_Strm_appendRow_12 : decode b_Strm_appendRow 12 = .ok (.iload_n 2, 1) := by decide +kernel
theorem d_Strm_appendRow_13 : decode b_Strm_appendRow 13 = .ok (.invokevirtual 19, 3) := by decide +kernel
theorem d_Strm_appendRow_16 : decode b_Strm_appendRow 16 = .ok (.aload_n 0, 1) := by decide +kernel
theorem d_Strm_appendRow_17 : decode b_Strm_appendRow 17 = .ok (.iload_n 3, 1) := by decide +kernel
theorem d_Strm_appendRow_18 : decode b_Strm_appendRow 18 = .ok (.sipush 255, 3) := by decide +kernel
theorem d_Strm_appendRow_21 : decode b_Strm_appendRow 21 = .ok (.iand, 1) := by decide +kernel
theorem d_Strm_appendRow_22 : decode b_Strm_appendRow 22 = .ok (.invokevirtual 19, 3) := by decide +kernel
theorem d_Strm_appendRow_25 : decode b_Strm_appendRow 25 = .ok (.aload_n 0, 1) := by decide +kernel
theorem d_Strm_appendRow_26 : decode b_Strm_appendRow 26 = .ok (.iload_n 3, 1) := by decide +kernel
theorem d_Strm_appendRow_27 : decode b_Strm_appendRow 27 = .ok (.bipush 8, 2) := by decide +kernel
theorem d_Strm_appendRow_29 : decode b_Strm_appendRow 29 = .ok (.iushr, 1) := by decide +kernel
theorem d_Strm_appendRow_30 : decode b_Strm_appendRow 30 = .ok (.invokevirtual 19, 3) := by decide +kernel
theorem d_Strm_appendRow_33 : decode b_Strm_appendRow 33 = .ok (.aload_n 0, 1) := by decide +kernel
theorem d_Strm_appendRow_34 : decode b_Strm_appendRow 34 = .ok (.iload 4, 2) := by decide +kernel
theorem d_Strm_appendRow_36 : decode b_Strm_appendRow 36 = .ok (.invokevirtual 19, 3) := by decide +kernel
theorem d_Strm_appendRow_39 : decode b_Strm_appendRow 39 = .ok (.aload_n 0, 1) := by decide +kernel
theorem d_Strm_appendRow_40 : decode b_Strm_appendRow 40 = .ok (.aload_n 1, 1) := by decide +kernel
theorem d_Strm_appendRow_41 : decode b_Strm_appendRow 41 = .ok (.getfield 23, 3) := by decide +kernel
theorem d_Strm_appendRow_44 : decode b_Strm_appendRow 44 = .ok (.invokevirtual 19, 3) := by decide +kernel
theorem d_Strm_appendRow_47 : decode b_Strm_appendRow 47 = .ok (.aload_n 0, 1) := by decide +kernel
theorem d_Strm_appendRow_48 : decode b_Strm_appendRow 48 = .ok (.aload_n 1, 1) := by decide +kernel
theorem d_Strm_appendRow_49 : decode b_Strm_appendRow 49 = .ok (.getfield 28, 3) := by decide +kernel
theorem d_Strm_appendRow_52 : decode b_Strm_appendRow 52 = .ok (.invokevirtual 19, 3) := by decide +kernel
theorem d_Strm_appendRow_55 : decode b_Strm_appendRow 55 = .ok (.iconst 0, 1) := by decide +kernel
theorem d_Strm_appendRow_56 : decode b_Strm_appendRow 56 = .ok (.istore 6, 2) := by decide +kernel
theorem d_Strm_appendRow_58 : decode b_Strm_appendRow 58 = .ok (.iload 6, 2) := by decide +kernel
theorem d_Strm_appendRow_60 : decode b_Strm_appendRow 60 = .ok (.aload_n 1, 1) := by decide +kernel
theorem d_Strm_appendRow_61 : decode b_Strm_appendRow 61 = .ok (.getfield 23, 3) := by decide +kernel
theorem d_Strm_appendRow_64 : decode b_Strm_appendRow 64 = .ok (.if_icmp .ge 20, 3) := by decide +kernel
theorem d_Strm_appendRow_67 : decode b_Strm_appendRow 67 = .ok (.aload_n 0, 1) := by decide +kernel
theorem d_Strm_appendRow_68 : decode b_Strm_appendRow 68 = .ok (.aload_n 1, 1) := by decide +kernel
theorem d_Strm_appendRow_69 : decode b_Strm_appendRow 69 = .ok (.getfield 31, 3) := by decide +kernel
theorem d_Strm_appendRow_72 : decode b_Strm_appendRow 72 = .ok (.iload 6, 2) := by decide +kernel
theorem d_Strm_appendRow_74 : decode b_Strm_appendRow 74 = .ok (.iaload, 1) := by decide +kernel
theorem d_Strm_appendRow_75 : decode b_Strm_appendRow 75 = .ok (.invokevirtual 19, 3) := by decide +kernel
theorem d_Strm_appendRow_78 : decode b_Strm_appendRow 78 = .ok (.iinc 6 1, 3) := by decide +kernel
theorem d_Strm_appendRow_81 : decode b_Strm_appendRow 81 = .ok (.goto (-23), 3) := by decide +kernel
theorem d_Strm_appendRow_84 : decode b_Strm_appendRow 84 = .ok (.iconst 0, 1) := by decide +kernel
theorem d_Strm_appendRow_85 : decode b_Strm_appendRow 85 = .ok (.istore 6, 2) := by decide +kernel
theorem d_Strm_appendRow_87 : decode b_Strm_appendRow 87 = .ok (.iload 6, 2) := by decide +kernel
theorem d_Strm_appendRow_89 : decode b_Strm_appendRow 89 = .ok (.aload_n 1, 1) := by decide +kernel
theorem d_Strm_appendRow_90 : decode b_Strm_appendRow 90 = .ok (.getfield 28, 3) := by decide +kernel
theorem d_Strm_appendRow_93 : decode b_Strm_appendRow 93 = .ok (.if_icmp .ge 19, 3) := by decide +kernel
theorem d_Strm_appendRow_96 : decode b_Strm_appendRow 96 = .ok (.aload_n 0, 1) := by decide +kernel
theorem d_Strm_appendRow_97 : decode b_Strm_appendRow 97 = .ok (.aload_n 1, 1) := by decide +kernel
theorem d_Strm_appendRow_98 : decode b_Strm_appendRow 98 = .ok (.iload 6, 2) := by decide +kernel
theorem d_Strm_appendRow_100 : decode b_Strm_appendRow 100 = .ok (.invokevirtual 34, 3) := by decide +kernel
theorem d_Strm_appendRow_103 : decode b_Strm_appendRow 103 = .ok (.invokevirtual 19, 3) := by decide +kernel
theorem d_Strm_appendRow_106 : decode b_Strm_appendRow 106 = .ok (.iinc 6 2, 3) := by decide +kernel
theorem d_Strm_appendRow_109 : decode b_Strm_appendRow 109 = .ok (.goto (-22), 3) := by decide +kernel
theorem d_Strm_appendRow_112 : decode b_Strm_appendRow 112 = .ok (.iload 5, 2) := by decide +kernel
theorem d_Strm_appendRow_114 : decode b_Strm_appendRow 114 = .ok (.aload_n 0, 1) := by decide +kernel
theorem d_Strm_appendRow_115 : decode b_Strm_appendRow 115 = .ok (.getfield 9, 3) := by decide +kernel
theorem d_Strm_appendRow_118 : decode b_Strm_appendRow 118 = .ok (.arraylength, 1) := by decide +kernel
theorem d_Strm_appendRow_119 : decode b_Strm_appendRow 119 = .ok (.if_icmp .ge 19, 3) := by decide +kernel
theorem d_Strm_appendRow_122 : decode b_Strm_appendRow 122 = .ok (.aload_n 0, 1) := by decide +kernel
theorem d_Strm_appendRow_123 : decode b_Strm_appendRow 123 = .ok (.getfield 9, 3) := by decide +kernel
theorem d_Strm_appendRow_126 : decode b_Strm_appendRow 126 = .ok (.iload 5, 2) := by decide +kernel
theorem d_Strm_appendRow_128 : decode b_Strm_appendRow 128 = .ok (.aload_n 0, 1) := by decide +kernel
theorem d_Strm_appendRow_129 : decode b_Strm_appendRow 129 = .ok (.getfield 15, 3) := by decide +kernel
theorem d_Strm_appendRow_132 : decode b_Strm_appendRow 132 = .ok (.iload 5, 2) := by decide +kernel
theorem d_Strm_appendRow_134 : decode b_Strm_appendRow 134 = .ok (.isub, 1) := by decide +kernel
theorem d_Strm_appendRow_135 : decode b_Strm_appendRow 135 = .ok (.iconst 1, 1) := by decide +kernel
theorem d_Strm_appendRow_136 : decode b_Strm_appendRow 136 = .ok (.isub, 1) := by decide +kernel
theorem d_Strm_appendRow_137 : decode b_Strm_appendRow 137 = .ok (.iastore, 1) := by decide +kernel
theorem d_Strm_appendRow_138 : decode b_Strm_appendRow 138 = .ok (.return_, 1) := by decide +kernel
theorem d_Strm_rowLength_0 : decode b_Strm_rowLength 0 = .ok (.iload_n 1, 1) := by decide +kernel
theorem d_Strm_rowLength_1 : decode b_Strm_rowLength 1 = .ok (.ifCond .lt 11, 3) := by decide +kernel
theorem d_Strm_rowLength_4 : decode b_Strm_rowLength 4 = .ok (.iload_n 1, 1) := by decide +kernel
theorem d_Strm_rowLength_5 : decode b_Strm_rowLength 5 = .ok (.aload_n 0, 1) := by decide +kernel
theorem d_Strm_rowLength_6 : decode b_Strm_rowLength 6 = .ok (.getfield 15, 3) := by decide +kernel
theorem d_Strm_rowLength_9 : decode b_Strm_rowLength 9 = .ok (.if_icmp .lt 7, 3) := by decide +kernel
theorem d_Strm_rowLength_12 : decode b_Strm_rowLength 12 = .ok (.iconst 0, 1) := by decide +kernel
theorem d_Strm_rowLength_13 : decode b_Strm_rowLength 13 = .ok (.goto 11, 3) := by decide +kernel
theorem d_Strm_rowLength_16 : decode b_Strm_rowLength 16 = .ok (.aload_n 0, 1) := by decide +kernel
theorem d_Strm_rowLength_17 : decode b_Strm_rowLength 17 = .ok (.getfield 9, 3) := by decide +kernel
theorem d_Strm_rowLength_20 : decode b_Strm_rowLength 20 = .ok (.iload_n 1, 1) := by decide +kernel
theorem d_Strm_rowLength_21 : decode b_Strm_rowLength 21 = .ok (.iaload, 1) := by decide +kernel
theorem d_Strm_rowLength_22 : decode b_Strm_rowLength 22 = .ok (.iconst 1, 1) := by decide +kernel
theorem d_Strm_rowLength_23 : decode b_Strm_rowLength 23 = .ok (.iadd, 1) := by decide +kernel
theorem d_Strm_rowLength_24 : decode b_Strm_rowLength 24 = .ok (.ireturn, 1) := by decide +kernel
theorem d_Strm_appendByte_0 : decode b_Strm_appendByte 0 = .ok (.aload_n 0, 1) := by decide +kernel
theorem d_Strm_appendByte_1 : decode b_Strm_appendByte 1 = .ok (.getfield 15, 3) := by decide +kernel
theorem d_Strm_appendByte_4 : decode b_Strm_appendByte 4 = .ok (.aload_n 0, 1) := by decide +kernel
theorem d_Strm_appendByte_5 : decode b_Strm_appendByte 5 = .ok (.getfield 9, 3) := by decide +kernel
theorem d_Strm_appendByte_8 : decode b_Strm_appendByte 8 = .ok (.arraylength, 1) := by decide +kernel
theorem d_Strm_appendByte_9 : decode b_Strm_appendByte 9 = .ok (.if_icmp .ge 20, 3) := by decide +kernel
theorem d_Strm_appendByte_12 : decode b_Strm_appendByte 12 = .ok (.aload_n 0, 1) := by decide +kernel
theorem d_Strm_appendByte_13 : decode b_Strm_appendByte 13 = .ok (.getfield 9, 3) := by decide +kernel
theorem d_Strm_appendByte_16 : decode b_Strm_appendByte 16 = .ok (.aload_n 0, 1) := by decide +kernel
theorem d_Strm_appendByte_17 : decode b_Strm_appendByte 17 = .ok (.dup, 1) := by decide +kernel
theorem d_Strm_appendByte_18 : decode b_Strm_appendByte 18 = .ok (.getfield 15, 3) := by decide +kernel
theorem d_Strm_appendByte_21 : decode b_Strm_appendByte 21 = .ok (.dup_x1, 1) := by decide +kernel
theorem d_Strm_appendByte_22 : decode b_Strm_appendByte 22 = .ok (.iconst 1, 1) := by decide +kernel
theorem d_Strm_appendByte_23 : decode b_Strm_appendByte 23 = .ok (.iadd, 1) := by decide +kernel
theorem d_Strm_appendByte_24 : decode b_Strm_appendByte 24 = .ok (.putfield 15, 3) := by decide +kernel
theorem d_Strm_appendByte_27 : decode b_Strm_appendByte 27 = .ok (.iload_n 1, 1) := by decide +kernel
theorem d_Strm_appendByte_28 : decode b_Strm_appendByte 28 = .ok (.iastore, 1) := by decide +kernel
theorem d_Strm_appendByte_29 : decode b_Strm_appendByte 29 = .ok (.return_, 1) := by decide +kernel
theorem d_BR_init_0 : decode b_BR_init 0 = .ok (.aload_n 0, 1) := by decide +kernel
theorem d_BR_init_1 : decode b_BR_init 1 = .ok (.invokespecial 3, 3) := by decide +kernel
theorem d_BR_init_4 : decode b_BR_init 4 = .ok (.aload_n 0, 1) := by decide +kernel
theorem d_BR_init_5 : decode b_BR_init 5 = .ok (.new 9, 3) := by decide +kernel
theorem d_BR_init_8 : decode b_BR_init 8 = .ok (.dup, 1) := by decide +kernel
theorem d_BR_init_9 : decode b_BR_init 9 = .ok (.invokespecial 11, 3) := by decide +kernel
theorem d_BR_init_12 : decode b_BR_init 12 = .ok (.putfield 12, 3) := by decide +kernel
theorem d_BR_init_15 : decode b_BR_init 15 = .ok (.aload_n 0, 1) := by decide +kernel
theorem d_BR_init_16 : decode b_BR_init 16 = .ok (.new 16, 3) := by decide +kernel
theorem d_BR_init_19 : decode b_BR_init 19 = .ok (.dup, 1) := by decide +kernel
theorem d_BR_init_20 : decode b_BR_init 20 = .ok (.invokespecial 18, 3) := by decide +kernel
theorem d_BR_init_23 : decode b_BR_init 23 = .ok (.putfield 19, 3) := by decide +kernel
theorem d_BR_init_26 : decode b_BR_init 26 = .ok (.aload_n 0, 1) := by decide +kernel
theorem d_BR_init_27 : decode b_BR_init 27 = .ok (.new 23, 3) := by decide +kernel
theorem d_BR_init_30 : decode b_BR_init 30 = .ok (.dup, 1) := by decide +kernel
theorem d_BR_init_31 : decode b_BR_init 31 = .ok (.invokespecial 25, 3) := by decide +kernel
theorem d_BR_init_34 : decode b_BR_init 34 = .ok (.putfield 26, 3) := by decide +kernel
theorem d_BR_init_37 : decode b_BR_init 37 = .ok (.aload_n 0, 1) := by decide +kernel
theorem d_BR_init_38 : decode b_BR_init 38 = .ok (.new 30, 3) := by decide +kernel
theorem d_BR_init_41 : decode b_BR_init 41 = .ok (.dup, 1) := by decide +kernel
theorem d_BR_init_42 : decode b_BR_init 42 = .ok (.invokespecial 32, 3) := by decide +kernel
theorem d_BR_init_45 : decode b_BR_init 45 = .ok (.putfield 33, 3) := by decide +kernel
theorem d_BR_init_48 : decode b_BR_init 48 = .ok (.aload_n 0, 1) := by decide +kernel
theorem d_BR_init_49 : decode b_BR_init 49 = .ok (.new 37, 3) := by decide +kernel
theorem d_BR_init_52 : decode b_BR_init 52 = .ok (.dup, 1) := by decide +kernel
theorem d_BR_init_53 : decode b_BR_init 53 = .ok (.invokespecial 39, 3) := by decide +kernel
theorem d_BR_init_56 : decode b_BR_init 56 = .ok (.putfield 40, 3) := by decide +kernel
theorem d_BR_init_59 : decode b_BR_init 59 = .ok (.return_, 1) := by decide +kernel
theorem d_BR_op_0 : decode b_BR_op 0 = .ok (.aload_n 0, 1) := by decide +kernel
theorem d_BR_op_1 : decode b_BR_op 1 = .ok (.getfield 12, 3) := by decide +kernel
theorem d_BR_op_4 : decode b_BR_op 4 = .ok (.iload_n 1, 1) := by decide +kernel
theorem d_BR_op_5 : decode b_BR_op 5 = .ok (.iload_n 2, 1) := by decide +kernel
theorem d_BR_op_6 : decode b_BR_op 6 = .ok (.invokevirtual 44, 3) := by decide +kernel
theorem d_BR_op_9 : decode b_BR_op 9 = .ok (.ireturn, 1) := by decide +kernel
theorem d_BR_base_0 : decode b_BR_base 0 = .ok (.aload_n 0, 1) := by decide +kernel
theorem d_BR_base_1 : decode b_BR_base 1 = .ok (.getfield 12, 3) := by decide +kernel
theorem d_BR_base_4 : decode b_BR_base 4 = .ok (.iload_n 1, 1) := by decide +kernel
theorem d_BR_base_5 : decode b_BR_base 5 = .ok (.invokevirtual 48, 3) := by decide +kernel
theorem d_BR_base_8 : decode b_BR_base 8 = .ok (.ireturn, 1) := by decide +kernel
theorem d_BR_scrap_0 : decode b_BR_scrap 0 = .ok (.aload_n 0, 1) := by decide +kernel
theorem d_BR_scrap_1 : decode b_BR_scrap 1 = .ok (.getfield 12, 3) := by decide +kernel
theorem d_BR_scrap_4 : decode b_BR_scrap 4 = .ok (.invokevirtual 52, 3) := by decide +kernel
theorem d_BR_scrap_7 : decode b_BR_scrap 7 = .ok (.return_, 1) := by decide +kernel
theorem d_BR_add_0 : decode b_BR_add 0 = .ok (.aload_n 0, 1) := by decide +kernel
theorem d_BR_add_1 : decode b_BR_add 1 = .ok (.getfield 33, 3) := by decide +kernel
theorem d_BR_add_4 : decode b_BR_add 4 = .ok (.invokevirtual 55, 3) := by decide +kernel
theorem d_BR_add_7 : decode b_BR_add 7 = .ok (.ifCond .ne 13, 3) := by decide +kernel
theorem d_BR_add_10 : decode b_BR_add 10 = .ok (.aload_n 0, 1) := by decide +kernel
theorem d_BR_add_11 : decode b_BR_add 11 = .ok (.getfield 26, 3) := by decide +kernel
theorem d_BR_add_14 : decode b_BR_add 14 = .ok (.invokevirtual 59, 3) := by decide +kernel
theorem d_BR_add_17 : decode b_BR_add 17 = .ok (.ifCond .eq 5, 3) := by decide +kernel
theorem d_BR_add_20 : decode b_BR_add 20 = .ok (.iconst (-1), 1) := by decide +kernel
theorem d_BR_add_21 : decode b_BR_add 21 = .ok (.ireturn, 1) := by decide +kernel
theorem d_BR_add_22 : decode b_BR_add 22 = .ok (.aload_n 0, 1) := by decide +kernel
theorem d_BR_add_23 : decode b_BR_add 23 = .ok (.getfield 12, 3) := by decide +kernel
theorem d_BR_add_26 : decode b_BR_add 26 = .ok (.invokevirtual 62, 3) := by decide +kernel
theorem d_BR_add_29 : decode b_BR_add 29 = .ok (.ifCond .ne 6, 3) := by decide +kernel
theorem d_BR_add_32 : decode b_BR_add 32 = .ok (.bipush (-2), 2) := by decide +kernel
theorem d_BR_add_34 : decode b_BR_add 34 = .ok (.ireturn, 1) := by decide +kernel
theorem d_BR_add_35 : decode b_BR_add 35 = .ok (.iload_n 1, 1) := by decide +kernel
theorem d_BR_add_36 : decode b_BR_add 36 = .ok (.invokestatic 65, 3) := by decide +kernel
theorem d_BR_add_39 : decode b_BR_add 39 = .ok (.ifCond .eq 29, 3) := by decide +kernel
theorem d_BR_add_42 : decode b_BR_add 42 = .ok (.iload_n 2, 1) := by decide +kernel
theorem d_BR_add_43 : decode b_BR_add 43 = .ok (.ifCond .lt 25, 3) := by decide +kernel
theorem d_BR_add_46 : decode b_BR_add 46 = .ok (.iload_n 2, 1) := by decide +kernel
theorem d_BR_add_47 : decode b_BR_add 47 = .ok (.sipush 4096, 3) := by decide +kernel
theorem d_BR_add_50 : decode b_BR_add 50 = .ok (.if_icmp .ge 18, 3) := by decide +kernel
theorem d_BR_add_53 : decode b_BR_add 53 = .ok (.iload_n 2, 1) := by decide +kernel
theorem d_BR_add_54 : decode b_BR_add 54 = .ok (.aload_n 0, 1) := by decide +kernel
theorem d_BR_add_55 : decode b_BR_add 55 = .ok (.getfield 12, 3) := by decide +kernel
theorem d_BR_add_58 : decode b_BR_add 58 = .ok (.invokevirtual 68, 3) := by decide +kernel
theorem d_BR_add_61 : decode b_BR_add 61 = .ok (.iadd, 1) := by decide +kernel
theorem d_BR_add_62 : decode b_BR_add 62 = .ok (.sipush 4096, 3) := by decide +kernel
theorem d_BR_add_65 : decode b_BR_add 65 = .ok (.if_icmp .le 6, 3) := by decide +kernel
theorem d_BR_add_68 : decode b_BR_add 68 = .ok (.bipush (-3), 2) := by decide +kernel
theorem d_BR_add_70 : decode b_BR_add 70 = .ok (.ireturn, 1) := by decide +kernel
theorem d_BR_add_71 : decode b_BR_add 71 = .ok (.aload_n 0, 1) := by decide +kernel
theorem d_BR_add_72 : decode b_BR_add 72 = .ok (.getfield 26, 3) := by decide +kernel
theorem d_BR_add_75 : decode b_BR_add 75 = .ok (.iload_n 1, 1) := by decide +kernel
theorem d_BR_add_76 : decode b_BR_add 76 = .ok (.iload_n 2, 1) := by decide +kernel
theorem d_BR_add_77 : decode b_BR_add 77 = .ok (.invokevirtual 72, 3) := by decide +kernel
theorem d_BR_add_80 : decode b_BR_add 80 = .ok (.ifCond .eq 6, 3) := by decide +kernel
theorem d_BR_add_83 : decode b_BR_add 83 = .ok (.bipush (-4), 2) := by decide +kernel
theorem d_BR_add_85 : decode b_BR_add 85 = .ok (.ireturn, 1) := by decide +kernel
theorem d_BR_add_86 : decode b_BR_add 86 = .ok (.iload_n 2, 1) := by decide +kernel
theorem d_BR_add_87 : decode b_BR_add 87 = .ok (.aload_n 0, 1) := by decide +kernel
theorem d_BR_add_88 : decode b_BR_add 88 = .ok (.getfield 12, 3) := by decide +kernel
theorem d_BR_add_91 : decode b_BR_add 91 = .ok (.invokevirtual 68, 3) := by decide +kernel
theorem d_BR_add_94 : decode b_BR_add 94 = .ok (.iadd, 1) := by decide +kernel
theorem d_BR_add_95 : decode b_BR_add 95 = .ok (.istore_n 3, 1) := by decide +kernel
theorem d_BR_add_96 : decode b_BR_add 96 = .ok (.iload_n 2, 1) := by decide +kernel
theorem d_BR_add_97 : decode b_BR_add 97 = .ok (.iload_n 3, 1) := by decide +kernel
theorem d_BR_add_98 : decode b_BR_add 98 = .ok (.invokestatic 75, 3) := by decide +kernel
theorem d_BR_add_101 : decode b_BR_add 101 = .ok (.istore 4, 2) := by decide +kernel
theorem d_BR_add_103 : decode b_BR_add 103 = .ok (.aload_n 0, 1) := by decide +kernel
theorem d_BR_add_104 : decode b_BR_add 104 = .ok (.getfield 26, 3) := by decide +kernel
theorem d_BR_add_107 : decode b_BR_add 107 = .ok (.iload_n 1, 1) := by decide +kernel
theorem d_BR_add_108 : decode b_BR_add 108 = .ok (.iload_n 2, 1) := by decide +kernel
theorem d_BR_add_109 : decode b_BR_add 109 = .ok (.iload_n 3, 1) := by decide +kernel
theorem d_BR_add_110 : decode b_BR_add 110 = .ok (.iload 4, 2) := by decide +kernel
theorem d_BR_add_112 : decode b_BR_add 112 = .ok (.aload_n 0, 1) := by decide +kernel
theorem d_BR_add_113 : decode b_BR_add 113 = .ok (.getfield 19, 3) := by decide +kernel
theorem d_BR_add_116 : decode b_BR_add 116 = .ok (.getfield 79, 3) := by decide +kernel
theorem d_BR_add_119 : decode b_BR_add 119 = .ok (.invokevirtual 83, 3) := by decide +kernel
theorem d_BR_add_122 : decode b_BR_add 122 = .ok (.istore 5, 2) := by decide +kernel
theorem d_BR_add_124 : decode b_BR_add 124 = .ok (.aload_n 0, 1) := by decide +kernel
theorem d_BR_add_125 : decode b_BR_add 125 = .ok (.getfield 19, 3) := by decide +kernel
theorem d_BR_add_128 : decode b_BR_add 128 = .ok (.aload_n 0, 1) := by decide +kernel
theorem d_BR_add_129 : decode b_BR_add 129 = .ok (.getfield 12, 3) := by decide +kernel
theorem d_BR_add_132 : decode b_BR_add 132 = .ok (.iload_n 1, 1) := by decide +kernel
theorem d_BR_add_133 : decode b_BR_add 133 = .ok (.iload_n 2, 1) := by decide +kernel
theorem d_BR_add_134 : decode b_BR_add 134 = .ok (.iload 4, 2) := by decide +kernel
theorem d_BR_add_136 : decode b_BR_add 136 = .ok (.invokevirtual 87, 3) := by decide +kernel
theorem d_BR_add_139 : decode b_BR_add 139 = .ok (.aload_n 0, 1) := by decide +kernel
theorem d_BR_add_140 : decode b_BR_add 140 = .ok (.getfield 12, 3) := by decide +kernel
theorem d_BR_add_143 : decode b_BR_add 143 = .ok (.invokevirtual 52, 3) := by decide +kernel
theorem d_BR_add_146 : decode b_BR_add 146 = .ok (.iload 5, 2) := by decide +kernel
theorem d_BR_add_148 : decode b_BR_add 148 = .ok (.ireturn, 1) := by decide +kernel
theorem d_BR_finish_0 : decode b_BR_finish 0 = .ok (.aload_n 0, 1) := by decide +kernel
theorem d_BR_finish_1 : decode b_BR_finish 1 = .ok (.getfield 33, 3) := by decide +kernel
theorem d_BR_finish_4 : decode b_BR_finish 4 = .ok (.invokevirtual 55, 3) := by decide +kernel
theorem d_BR_finish_7 : decode b_BR_finish 7 = .ok (.ifCond .eq 5, 3) := by decide +kernel
theorem d_BR_finish_10 : decode b_BR_finish 10 = .ok (.iconst (-1), 1) := by decide +kernel
theorem d_BR_finish_11 : decode b_BR_finish 11 = .ok (.ireturn, 1) := by decide +kernel
theorem d_BR_finish_12 : decode b_BR_finish 12 = .ok (.aload_n 0, 1) := by decide +kernel
theorem d_BR_finish_13 : decode b_BR_finish 13 = .ok (.getfield 33, 3) := by decide +kernel
theorem d_BR_finish_16 : decode b_BR_finish 16 = .ok (.aload_n 0, 1) := by decide +kernel
theorem d_BR_finish_17 : decode b_BR_finish 17 = .ok (.getfield 19, 3) := by decide +kernel
theorem d_BR_finish_20 : decode b_BR_finish 20 = .ok (.invokevirtual 91, 3) := by decide +kernel
theorem d_BR_finish_23 : decode b_BR_finish 23 = .ok (.aload_n 0, 1) := by decide +kernel
theorem d_BR_finish_24 : decode b_BR_finish 24 = .ok (.getfield 33, 3) := by decide +kernel
theorem d_BR_finish_27 : decode b_BR_finish 27 = .ok (.getfield 95, 3) := by decide +kernel
theorem d_BR_finish_30 : decode b_BR_finish 30 = .ok (.ireturn, 1) := by decide +kernel
theorem d_BR_clear_0 : decode b_BR_clear 0 = .ok (.aload_n 0, 1) := by decide +kernel
theorem d_BR_clear_1 : decode b_BR_clear 1 = .ok (.getfield 12, 3) := by decide +kernel
theorem d_BR_clear_4 : decode b_BR_clear 4 = .ok (.invokevirtual 52, 3) := by decide +kernel
theorem d_BR_clear_7 : decode b_BR_clear 7 = .ok (.aload_n 0, 1) := by decide +kernel
theorem d_BR_clear_8 : decode b_BR_clear 8 = .ok (.getfield 19, 3) := by decide +kernel
theorem d_BR_clear_11 : decode b_BR_clear 11 = .ok (.invokevirtual 98, 3) := by decide +kernel
theorem d_BR_clear_14 : decode b_BR_clear 14 = .ok (.aload_n 0, 1) := by decide +kernel
theorem d_BR_clear_15 : decode b_BR_clear 15 = .ok (.getfield 26, 3) := by decide +kernel
theorem d_BR_clear_18 : decode b_BR_clear 18 = .ok (.invokevirtual 99, 3) := by decide +kernel
theorem d_BR_clear_21 : decode b_BR_clear 21 = .ok (.aload_n 0, 1) := by decide +kernel
theorem d_BR_clear_22 : decode b_BR_clear 22 = .ok (.getfield 33, 3) := by decide +kernel
theorem d_BR_clear_25 : decode b_BR_clear 25 = .ok (.invokevirtual 100, 3) := by decide +kernel
theorem d_BR_clear_28 : decode b_BR_clear 28 = .ok (.aload_n 0, 1) := by decide +kernel
theorem d_BR_clear_29 : decode b_BR_clear 29 = .ok (.getfield 40, 3) := by decide +kernel
theorem d_BR_clear_32 : decode b_BR_clear 32 = .ok (.invokevirtual 101, 3) := by decide +kernel
theorem d_BR_clear_35 : decode b_BR_clear 35 = .ok (.return_, 1) := by decide +kernel
theorem d_BR_turn_0 : decode b_BR_turn 0 = .ok (.aload_n 0, 1) := by decide +kernel
theorem d_BR_turn_1 : decode b_BR_turn 1 = .ok (.getfield 33, 3) := by decide +kernel
theorem d_BR_turn_4 : decode b_BR_turn 4 = .ok (.iload_n 1, 1) := by decide +kernel
theorem d_BR_turn_5 : decode b_BR_turn 5 = .ok (.iload_n 2, 1) := by decide +kernel
theorem d_BR_turn_6 : decode b_BR_turn 6 = .ok (.invokevirtual 102, 3) := by decide +kernel
theorem d_BR_turn_9 : decode b_BR_turn 9 = .ok (.ireturn, 1) := by decide +kernel
theorem d_BR_byteAt_0 : decode b_BR_byteAt 0 = .ok (.aload_n 0, 1) := by decide +kernel
theorem d_BR_byteAt_1 : decode b_BR_byteAt 1 = .ok (.getfield 33, 3) := by decide +kernel
theorem d_BR_byteAt_4 : decode b_BR_byteAt 4 = .ok (.iload_n 1, 1) := by decide +kernel
theorem d_BR_byteAt_5 : decode b_BR_byteAt 5 = .ok (.invokevirtual 105, 3) := by decide +kernel
theorem d_BR_byteAt_8 : decode b_BR_byteAt 8 = .ok (.ireturn, 1) := by decide +kernel
theorem d_BR_check_0 : decode b_BR_check 0 = .ok (.aload_n 0, 1) := by decide +kernel
theorem d_BR_check_1 : decode b_BR_check 1 = .ok (.getfield 33, 3) := by decide +kernel
theorem d_BR_check_4 : decode b_BR_check 4 = .ok (.invokevirtual 55, 3) := by decide +kernel
theorem d_BR_check_7 : decode b_BR_check 7 = .ok (.ifCond .ne 5, 3) := by decide +kernel
theorem d_BR_check_10 : decode b_BR_check 10 = .ok (.iconst (-1), 1) := by decide +kernel
theorem d_BR_check_11 : decode b_BR_check 11 = .ok (.ireturn, 1) := by decide +kernel
theorem d_BR_check_12 : decode b_BR_check 12 = .ok (.aload_n 0, 1) := by decide +kernel
theorem d_BR_check_13 : decode b_BR_check 13 = .ok (.getfield 33, 3) := by decide +kernel
theorem d_BR_check_16 : decode b_BR_check 16 = .ok (.iconst 0, 1) := by decide +kernel
theorem d_BR_check_17 : decode b_BR_check 17 = .ok (.aload_n 0, 1) := by decide +kernel
theorem d_BR_check_18 : decode b_BR_check 18 = .ok (.getfield 33, 3) := by decide +kernel
theorem d_BR_check_21 : decode b_BR_check 21 = .ok (.getfield 109, 3) := by decide +kernel
theorem d_BR_check_24 : decode b_BR_check 24 = .ok (.iconst 1, 1) := by decide +kernel
theorem d_BR_check_25 : decode b_BR_check 25 = .ok (.isub, 1) := by decide +kernel
theorem d_BR_check_26 : decode b_BR_check 26 = .ok (.invokevirtual 112, 3) := by decide +kernel
theorem d_BR_check_29 : decode b_BR_check 29 = .ok (.ifCond .eq 13, 3) := by decide +kernel
theorem d_BR_check_32 : decode b_BR_check 32 = .ok (.aload_n 0, 1) := by decide +kernel
theorem d_BR_check_33 : decode b_BR_check 33 = .ok (.getfield 26, 3) := by decide +kernel
theorem d_BR_check_36 : decode b_BR_check 36 = .ok (.getfield 115, 3) := by decide +kernel
theorem d_BR_check_39 : decode b_BR_check 39 = .ok (.goto 5, 3) := by decide +kernel
theorem d_BR_check_42 : decode b_BR_check 42 = .ok (.bipush (-2), 2) := by decide +kernel
theorem d_BR_check_44 : decode b_BR_check 44 = .ok (.ireturn, 1) := by decide +kernel
theorem d_BR_query_0 : decode b_BR_query 0 = .ok (.aload_n 0, 1) := by decide +kernel
theorem d_BR_query_1 : decode b_BR_query 1 = .ok (.getfield 33, 3) := by decide +kernel
theorem d_BR_query_4 : decode b_BR_query 4 = .ok (.invokevirtual 55, 3) := by decide +kernel
theorem d_BR_query_7 : decode b_BR_query 7 = .ok (.ifCond .eq 12, 3) := by decide +kernel
theorem d_BR_query_10 : decode b_BR_query 10 = .ok (.iload_n 1, 1) := by decide +kernel
theorem d_BR_query_11 : decode b_BR_query 11 = .ok (.iload_n 2, 1) := by decide +kernel
theorem d_BR_query_12 : decode b_BR_query 12 = .ok (.iload_n 3, 1) := by decide +kernel
theorem d_BR_query_13 : decode b_BR_query 13 = .ok (.invokestatic 118, 3) := by decide +kernel
theorem d_BR_query_16 : decode b_BR_query 16 = .ok (.ifCond .ne 5, 3) := by decide +kernel
theorem d_BR_query_19 : decode b_BR_query 19 = .ok (.iconst (-1), 1) := by decide +kernel
theorem d_BR_query_20 : decode b_BR_query 20 = .ok (.ireturn, 1) := by decide +kernel
theorem d_BR_query_21 : decode b_BR_query 21 = .ok (.aload_n 0, 1) := by decide +kernel
theorem d_BR_query_22 : decode b_BR_query 22 = .ok (.getfield 26, 3) := by decide +kernel
theorem d_BR_query_25 : decode b_BR_query 25 = .ok (.iload_n 1, 1) := by decide +kernel
theorem d_BR_query_26 : decode b_BR_query 26 = .ok (.iload_n 2, 1) := by decide +kernel
theorem d_BR_query_27 : decode b_BR_query 27 = .ok (.iload_n 3, 1) := by decide +kernel
theorem d_BR_query_28 : decode b_BR_query 28 = .ok (.invokevirtual 122, 3) := by decide +kernel
theorem d_BR_query_31 : decode b_BR_query 31 = .ok (.aload_n 0, 1) := by decide +kernel
theorem d_BR_query_32 : decode b_BR_query 32 = .ok (.invokevirtual 126, 3) := by decide +kernel
theorem d_BR_query_35 : decode b_BR_query 35 = .ok (.ifCond .ne 6, 3) := by decide +kernel
theorem d_BR_query_38 : decode b_BR_query 38 = .ok (.bipush (-2), 2) := by decide +kernel
theorem d_BR_query_40 : decode b_BR_query 40 = .ok (.ireturn, 1) := by decide +kernel
theorem d_BR_query_41 : decode b_BR_query 41 = .ok (.aload_n 0, 1) := by decide +kernel
theorem d_BR_query_42 : decode b_BR_query 42 = .ok (.getfield 40, 3) := by decide +kernel
theorem d_BR_query_45 : decode b_BR_query 45 = .ok (.invokevirtual 101, 3) := by decide +kernel
theorem d_BR_query_48 : decode b_BR_query 48 = .ok (.aload_n 0, 1) := by decide +kernel
theorem d_BR_query_49 : decode b_BR_query 49 = .ok (.getfield 40, 3) := by decide +kernel
theorem d_BR_query_52 : decode b_BR_query 52 = .ok (.aload_n 0, 1) := by decide +kernel
theorem d_BR_query_53 : decode b_BR_query 53 = .ok (.getfield 26, 3) := by decide +kernel
theorem d_BR_query_56 : decode b_BR_query 56 = .ok (.getfield 129, 3) := by decide +kernel
theorem d_BR_query_59 : decode b_BR_query 59 = .ok (.putfield 132, 3) := by decide +kernel
theorem d_BR_query_62 : decode b_BR_query 62 = .ok (.iconst 0, 1) := by decide +kernel
theorem d_BR_query_63 : decode b_BR_query 63 = .ok (.istore 4, 2) := by decide +kernel
theorem d_BR_query_65 : decode b_BR_query 65 = .ok (.iload 4, 2) := by decide +kernel
theorem d_BR_query_67 : decode b_BR_query 67 = .ok (.aload_n 0, 1) := by decide +kernel
theorem d_BR_query_68 : decode b_BR_query 68 = .ok (.getfield 26, 3) := by decide +kernel
theorem d_BR_query_71 : decode b_BR_query 71 = .ok (.getfield 129, 3) := by decide +kernel
theorem d_BR_query_74 : decode b_BR_query 74 = .ok (.if_icmp .ge 56, 3) := by decide +kernel
theorem d_BR_query_77 : decode b_BR_query 77 = .ok (.aload_n 0, 1) := by decide +kernel
theorem d_BR_query_78 : decode b_BR_query 78 = .ok (.getfield 26, 3) := by decide +kernel
theorem d_BR_query_81 : decode b_BR_query 81 = .ok (.getfield 135, 3) := by decide +kernel
theorem d_BR_query_84 : decode b_BR_query 84 = .ok (.iload 4, 2) := by decide +kernel
theorem d_BR_query_86 : decode b_BR_query 86 = .ok (.iaload, 1) := by decide +kernel
theorem d_BR_query_87 : decode b_BR_query 87 = .ok (.istore 5, 2) := by decide +kernel
theorem d_BR_query_89 : decode b_BR_query 89 = .ok (.aload_n 0, 1) := by decide +kernel
theorem d_BR_query_90 : decode b_BR_query 90 = .ok (.getfield 26, 3) := by decide +kernel
theorem d_BR_query_93 : decode b_BR_query 93 = .ok (.iload 5, 2) := by decide +kernel
theorem d_BR_query_95 : decode b_BR_query 95 = .ok (.iload_n 2, 1) := by decide +kernel
theorem d_BR_query_96 : decode b_BR_query 96 = .ok (.iload_n 3, 1) := by decide +kernel
theorem d_BR_query_97 : decode b_BR_query 97 = .ok (.invokevirtual 139, 3) := by decide +kernel
theorem d_BR_query_100 : decode b_BR_query 100 = .ok (.ifCond .eq 24, 3) := by decide +kernel
theorem d_BR_query_103 : decode b_BR_query 103 = .ok (.aload_n 0, 1) := by decide +kernel
theorem d_BR_query_104 : decode b_BR_query 104 = .ok (.getfield 40, 3) := by decide +kernel
theorem d_BR_query_107 : decode b_BR_query 107 = .ok (.aload_n 0, 1) := by decide +kernel
theorem d_BR_query_108 : decode b_BR_query 108 = .ok (.getfield 33, 3) := by decide +kernel
theorem d_BR_query_111 : decode b_BR_query 111 = .ok (.aload_n 0, 1) := by decide +kernel
theorem d_BR_query_112 : decode b_BR_query 112 = .ok (.getfield 26, 3) := by decide +kernel
theorem d_BR_query_115 : decode b_BR_query 115 = .ok (.getfield 142, 3) := by decide +kernel
theorem d_BR_query_118 : decode b_BR_query 118 = .ok (.iload 5, 2) := by decide +kernel
theorem d_BR_query_120 : decode b_BR_query 120 = .ok (.iaload, 1) := by decide +kernel
theorem d_BR_query_121 : decode b_BR_query 121 = .ok (.invokevirtual 145, 3) := by decide +kernel
theorem d_BR_query_124 : decode b_BR_query 124 = .ok (.iinc 4 1, 3) := by decide +kernel
theorem d_BR_query_127 : decode b_BR_query 127 = .ok (.goto (-62), 3) := by decide +kernel
theorem d_BR_query_130 : decode b_BR_query 130 = .ok (.aload_n 0, 1) := by decide +kernel
theorem d_BR_query_131 : decode b_BR_query 131 = .ok (.getfield 40, 3) := by decide +kernel
theorem d_BR_query_134 : decode b_BR_query 134 = .ok (.getfield 148, 3) := by decide +kernel
theorem d_BR_query_137 : decode b_BR_query 137 = .ok (.ireturn, 1) := by decide +kernel
theorem d_BR_looked_0 : decode b_BR_looked 0 = .ok (.aload_n 0, 1) := by decide +kernel
theorem d_BR_looked_1 : decode b_BR_looked 1 = .ok (.getfield 40, 3) := by decide +kernel
theorem d_BR_looked_4 : decode b_BR_looked 4 = .ok (.getfield 132, 3) := by decide +kernel
theorem d_BR_looked_7 : decode b_BR_looked 7 = .ok (.ireturn, 1) := by decide +kernel
theorem d_BR_found_0 : decode b_BR_found 0 = .ok (.aload_n 0, 1) := by decide +kernel
theorem d_BR_found_1 : decode b_BR_found 1 = .ok (.getfield 40, 3) := by decide +kernel
theorem d_BR_found_4 : decode b_BR_found 4 = .ok (.iload_n 1, 1) := by decide +kernel
theorem d_BR_found_5 : decode b_BR_found 5 = .ok (.invokevirtual 149, 3) := by decide +kernel
theorem d_BR_found_8 : decode b_BR_found 8 = .ok (.ifCond .ne 5, 3) := by decide +kernel
theorem d_BR_found_11 : decode b_BR_found 11 = .ok (.iconst (-1), 1) := by decide +kernel
theorem d_BR_found_12 : decode b_BR_found 12 = .ok (.ireturn, 1) := by decide +kernel
theorem d_BR_found_13 : decode b_BR_found 13 = .ok (.iload_n 2, 1) := by decide +kernel
theorem d_BR_found_14 : decode b_BR_found 14 = .ok (.tableswitch 96 0 5 #[38, 48, 57, 69, 78, 87], 38) := by decide +kernel
theorem d_BR_found_52 : decode b_BR_found 52 = .ok (.aload_n 0, 1) := by decide +kernel
theorem d_BR_found_53 : decode b_BR_found 53 = .ok (.getfield 40, 3) := by decide +kernel
theorem d_BR_found_56 : decode b_BR_found 56 = .ok (.getfield 152, 3) := by decide +kernel
theorem d_BR_found_59 : decode b_BR_found 59 = .ok (.iload_n 1, 1) := by decide +kernel
theorem d_BR_found_60 : decode b_BR_found 60 = .ok (.iaload, 1) := by decide +kernel
theorem d_BR_found_61 : decode b_BR_found 61 = .ok (.ireturn, 1) := by decide +kernel
theorem d_BR_found_62 : decode b_BR_found 62 = .ok (.aload_n 0, 1) := by decide +kernel
theorem d_BR_found_63 : decode b_BR_found 63 = .ok (.getfield 40, 3) := by decide +kernel
theorem d_BR_found_66 : decode b_BR_found 66 = .ok (.iload_n 1, 1) := by decide +kernel
theorem d_BR_found_67 : decode b_BR_found 67 = .ok (.invokevirtual 155, 3) := by decide +kernel
theorem d_BR_found_70 : decode b_BR_found 70 = .ok (.ireturn, 1) := by decide +kernel
theorem d_BR_found_71 : decode b_BR_found 71 = .ok (.aload_n 0, 1) := by decide +kernel
theorem d_BR_found_72 : decode b_BR_found 72 = .ok (.getfield 40, 3) := by decide +kernel
theorem d_BR_found_75 : decode b_BR_found 75 = .ok (.getfield 158, 3) := by decide +kernel
theorem d_BR_found_78 : decode b_BR_found 78 = .ok (.iload_n 1, 1) := by decide +kernel
theorem d_BR_found_79 : decode b_BR_found 79 = .ok (.aaload, 1) := by decide +kernel
theorem d_BR_found_80 : decode b_BR_found 80 = .ok (.iconst 4, 1) := by decide +kernel
theorem d_BR_found_81 : decode b_BR_found 81 = .ok (.iaload, 1) := by decide +kernel
theorem d_BR_found_82 : decode b_BR_found 82 = .ok (.ireturn, 1) := by decide +kernel
theorem d_BR_found_83 : decode b_BR_found 83 = .ok (.aload_n 0, 1) := by decide +kernel
theorem d_BR_found_84 : decode b_BR_found 84 = .ok (.getfield 40, 3) := by decide +kernel
theorem d_BR_found_87 : decode b_BR_found 87 = .ok (.iload_n 1, 1) := by decide +kernel
theorem d_BR_found_88 : decode b_BR_found 88 = .ok (.invokevirtual 162, 3) := by decide +kernel
theorem d_BR_found_91 : decode b_BR_found 91 = .ok (.ireturn, 1) := by decide +kernel
theorem d_BR_found_92 : decode b_BR_found 92 = .ok (.aload_n 0, 1) := by decide +kernel
theorem d_BR_found_93 : decode b_BR_found 93 = .ok (.getfield 40, 3) := by decide +kernel
theorem d_BR_found_96 : decode b_BR_found 96 = .ok (.iload_n 1, 1) := by decide +kernel
theorem d_BR_found_97 : decode b_BR_found 97 = .ok (.invokevirtual 165, 3) := by decide +kernel
theorem d_BR_found_100 : decode b_BR_found 100 = .ok (.ireturn, 1) := by decide +kernel
theorem d_BR_found_101 : decode b_BR_found 101 = .ok (.aload_n 0, 1) := by decide +kernel
theorem d_BR_found_102 : decode b_BR_found 102 = .ok (.getfield 40, 3) := by decide +kernel
theorem d_BR_found_105 : decode b_BR_found 105 = .ok (.iload_n 1, 1) := by decide +kernel
theorem d_BR_found_106 : decode b_BR_found 106 = .ok (.invokevirtual 168, 3) := by decide +kernel
theorem d_BR_found_109 : decode b_BR_found 109 = .ok (.ireturn, 1) := by decide +kernel
theorem d_BR_found_110 : decode b_BR_found 110 = .ok (.iconst (-1), 1) := by decide +kernel
theorem d_BR_found_111 : decode b_BR_found 111 = .ok (.ireturn, 1) := by decide +kernel
theorem d_BR_foundOp_0 : decode b_BR_foundOp 0 = .ok (.aload_n 0, 1) := by decide +kernel
theorem d_BR_foundOp_1 : decode b_BR_foundOp 1 = .ok (.getfield 40, 3) := by decide +kernel
theorem d_BR_foundOp_4 : decode b_BR_foundOp 4 = .ok (.iload_n 1, 1) := by decide +kernel
theorem d_BR_foundOp_5 : decode b_BR_foundOp 5 = .ok (.invokevirtual 149, 3) := by decide +kernel
theorem d_BR_foundOp_8 : decode b_BR_foundOp 8 = .ok (.ifCond .eq 19, 3) := by decide +kernel
theorem d_BR_foundOp_11 : decode b_BR_foundOp 11 = .ok (.iload_n 2, 1) := by decide +kernel
theorem d_BR_foundOp_12 : decode b_BR_foundOp 12 = .ok (.ifCond .lt 15, 3) := by decide +kernel
theorem d_BR_foundOp_15 : decode b_BR_foundOp 15 = .ok (.iload_n 2, 1) := by decide +kernel
theorem d_BR_foundOp_16 : decode b_BR_foundOp 16 = .ok (.aload_n 0, 1) := by decide +kernel
theorem d_BR_foundOp_17 : decode b_BR_foundOp 17 = .ok (.getfield 40, 3) := by decide +kernel
theorem d_BR_foundOp_20 : decode b_BR_foundOp 20 = .ok (.iload_n 1, 1) := by decide +kernel
theorem d_BR_foundOp_21 : decode b_BR_foundOp 21 = .ok (.invokevirtual 165, 3) := by decide +kernel
theorem d_BR_foundOp_24 : decode b_BR_foundOp 24 = .ok (.if_icmp .lt 5, 3) := by decide +kernel
theorem d_BR_foundOp_27 : decode b_BR_foundOp 27 = .ok (.iconst (-1), 1) := by decide +kernel
theorem d_BR_foundOp_28 : decode b_BR_foundOp 28 = .ok (.ireturn, 1) := by decide +kernel
theorem d_BR_foundOp_29 : decode b_BR_foundOp 29 = .ok (.aload_n 0, 1) := by decide +kernel
theorem d_BR_foundOp_30 : decode b_BR_foundOp 30 = .ok (.getfield 40, 3) := by decide +kernel
theorem d_BR_foundOp_33 : decode b_BR_foundOp 33 = .ok (.getfield 158, 3) := by decide +kernel
theorem d_BR_foundOp_36 : decode b_BR_foundOp 36 = .ok (.iload_n 1, 1) := by decide +kernel
theorem d_BR_foundOp_37 : decode b_BR_foundOp 37 = .ok (.aaload, 1) := by decide +kernel
theorem d_BR_foundOp_38 : decode b_BR_foundOp 38 = .ok (.bipush 7, 2) := by decide +kernel
theorem d_BR_foundOp_40 : decode b_BR_foundOp 40 = .ok (.iload_n 2, 1) := by decide +kernel
theorem d_BR_foundOp_41 : decode b_BR_foundOp 41 = .ok (.iadd, 1) := by decide +kernel
theorem d_BR_foundOp_42 : decode b_BR_foundOp 42 = .ok (.iaload, 1) := by decide +kernel
theorem d_BR_foundOp_43 : decode b_BR_foundOp 43 = .ok (.ireturn, 1) := by decide +kernel
theorem d_BR_foundBase_0 : decode b_BR_foundBase 0 = .ok (.aload_n 0, 1) := by decide +kernel
theorem d_BR_foundBase_1 : decode b_BR_foundBase 1 = .ok (.getfield 40, 3) := by decide +kernel
theorem d_BR_foundBase_4 : decode b_BR_foundBase 4 = .ok (.iload_n 1, 1) := by decide +kernel
theorem d_BR_foundBase_5 : decode b_BR_foundBase 5 = .ok (.invokevirtual 149, 3) := by decide +kernel
theorem d_BR_foundBase_8 : decode b_BR_foundBase 8 = .ok (.ifCond .eq 19, 3) := by decide +kernel
theorem d_BR_foundBase_11 : decode b_BR_foundBase 11 = .ok (.iload_n 2, 1) := by decide +kernel
theorem d_BR_foundBase_12 : decode b_BR_foundBase 12 = .ok (.ifCond .lt 15, 3) := by decide +kernel
theorem d_BR_foundBase_15 : decode b_BR_foundBase 15 = .ok (.iload_n 2, 1) := by decide +kernel
theorem d_BR_foundBase_16 : decode b_BR_foundBase 16 = .ok (.aload_n 0, 1) := by decide +kernel
theorem d_BR_foundBase_17 : decode b_BR_foundBase 17 = .ok (.getfield 40, 3) := by decide +kernel
theorem d_BR_foundBase_20 : decode b_BR_foundBase 20 = .ok (.iload_n 1, 1) := by decide +kernel
theorem d_BR_foundBase_21 : decode b_BR_foundBase 21 = .ok (.invokevirtual 168, 3) := by decide +kernel
theorem d_BR_foundBase_24 : decode b_BR_foundBase 24 = .ok (.if_icmp .lt 5, 3) := by decide +kernel
theorem d_BR_foundBase_27 : decode b_BR_foundBase 27 = .ok (.iconst (-1), 1) := by decide +kernel
theorem d_BR_foundBase_28 : decode b_BR_foundBase 28 = .ok (.ireturn, 1) := by decide +kernel
theorem d_BR_foundBase_29 : decode b_BR_foundBase 29 = .ok (.aload_n 0, 1) := by decide +kernel
theorem d_BR_foundBase_30 : decode b_BR_foundBase 30 = .ok (.getfield 40, 3) := by decide +kernel
theorem d_BR_foundBase_33 : decode b_BR_foundBase 33 = .ok (.getfield 158, 3) := by decide +kernel
theorem d_BR_foundBase_36 : decode b_BR_foundBase 36 = .ok (.iload_n 1, 1) := by decide +kernel
theorem d_BR_foundBase_37 : decode b_BR_foundBase 37 = .ok (.aaload, 1) := by decide +kernel
theorem d_BR_foundBase_38 : decode b_BR_foundBase 38 = .ok (.bipush 7, 2) := by decide +kernel
theorem d_BR_foundBase_40 : decode b_BR_foundBase 40 = .ok (.aload_n 0, 1) := by decide +kernel
theorem d_BR_foundBase_41 : decode b_BR_foundBase 41 = .ok (.getfield 40, 3) := by decide +kernel
theorem d_BR_foundBase_44 : decode b_BR_foundBase 44 = .ok (.iload_n 1, 1) := by decide +kernel
theorem d_BR_foundBase_45 : decode b_BR_foundBase 45 = .ok (.invokevirtual 165, 3) := by decide +kernel
theorem d_BR_foundBase_48 : decode b_BR_foundBase 48 = .ok (.iadd, 1) := by decide +kernel
theorem d_BR_foundBase_49 : decode b_BR_foundBase 49 = .ok (.iload_n 2, 1) := by decide +kernel
theorem d_BR_foundBase_50 : decode b_BR_foundBase 50 = .ok (.iconst 2, 1) := by decide +kernel
theorem d_BR_foundBase_51 : decode b_BR_foundBase 51 = .ok (.idiv, 1) := by decide +kernel
theorem d_BR_foundBase_52 : decode b_BR_foundBase 52 = .ok (.iadd, 1) := by decide +kernel
theorem d_BR_foundBase_53 : decode b_BR_foundBase 53 = .ok (.iaload, 1) := by decide +kernel
theorem d_BR_foundBase_54 : decode b_BR_foundBase 54 = .ok (.istore_n 3, 1) := by decide +kernel
theorem d_BR_foundBase_55 : decode b_BR_foundBase 55 = .ok (.iload_n 2, 1) := by decide +kernel
theorem d_BR_foundBase_56 : decode b_BR_foundBase 56 = .ok (.iconst 2, 1) := by decide +kernel
theorem d_BR_foundBase_57 : decode b_BR_foundBase 57 = .ok (.irem, 1) := by decide +kernel
theorem d_BR_foundBase_58 : decode b_BR_foundBase 58 = .ok (.ifCond .ne 9, 3) := by decide +kernel
theorem d_BR_foundBase_61 : decode b_BR_foundBase 61 = .ok (.iload_n 3, 1) := by decide +kernel
theorem d_BR_foundBase_62 : decode b_BR_foundBase 62 = .ok (.iconst 4, 1) := by decide +kernel
theorem d_BR_foundBase_63 : decode b_BR_foundBase 63 = .ok (.iushr, 1) := by decide +kernel
theorem d_BR_foundBase_64 : decode b_BR_foundBase 64 = .ok (.goto 7, 3) := by decide +kernel
theorem d_BR_foundBase_67 : decode b_BR_foundBase 67 = .ok (.iload_n 3, 1) := by decide +kernel
theorem d_BR_foundBase_68 : decode b_BR_foundBase 68 = .ok (.bipush 15, 2) := by decide +kernel
theorem d_BR_foundBase_70 : decode b_BR_foundBase 70 = .ok (.iand, 1) := by decide +kernel
theorem d_BR_foundBase_71 : decode b_BR_foundBase 71 = .ok (.ireturn, 1) := by decide +kernel
theorem d_BR_areChosenSound_0 : decode b_BR_areChosenSound 0 = .ok (.iconst 0, 1) := by decide +kernel
theorem d_BR_areChosenSound_1 : decode b_BR_areChosenSound 1 = .ok (.istore_n 1, 1) := by decide +kernel
theorem d_BR_areChosenSound_2 : decode b_BR_areChosenSound 2 = .ok (.iconst 0, 1) := by decide +kernel
theorem d_BR_areChosenSound_3 : decode b_BR_areChosenSound 3 = .ok (.istore_n 2, 1) := by decide +kernel
theorem d_BR_areChosenSound_4 : decode b_BR_areChosenSound 4 = .ok (.iload_n 2, 1) := by decide +kernel
theorem d_BR_areChosenSound_5 : decode b_BR_areChosenSound 5 = .ok (.aload_n 0, 1) := by decide +kernel
theorem d_BR_areChosenSound_6 : decode b_BR_areChosenSound 6 = .ok (.getfield 26, 3) := by decide +kernel
theorem d_BR_areChosenSound_9 : decode b_BR_areChosenSound 9 = .ok (.getfield 129, 3) := by decide +kernel
theorem d_BR_areChosenSound_12 : decode b_BR_areChosenSound 12 = .ok (.if_icmp .ge 78, 3) := by decide +kernel
theorem d_BR_areChosenSound_15 : decode b_BR_areChosenSound 15 = .ok (.aload_n 0, 1) := by decide +kernel
theorem d_BR_areChosenSound_16 : decode b_BR_areChosenSound 16 = .ok (.getfield 26, 3) := by decide +kernel
theorem d_BR_areChosenSound_19 : decode b_BR_areChosenSound 19 = .ok (.getfield 142, 3) := by decide +kernel
theorem d_BR_areChosenSound_22 : decode b_BR_areChosenSound 22 = .ok (.aload_n 0, 1) := by decide +kernel
theorem d_BR_areChosenSound_23 : decode b_BR_areChosenSound 23 = .ok (.getfield 26, 3) := by decide +kernel
theorem d_BR_areChosenSound_26 : decode b_BR_areChosenSound 26 = .ok (.getfield 135, 3) := by decide +kernel
theorem d_BR_areChosenSound_29 : decode b_BR_areChosenSound 29 = .ok (.iload_n 2, 1) := by decide +kernel
theorem d_BR_areChosenSound_30 : decode b_BR_areChosenSound 30 = .ok (.iaload, 1) := by decide +kernel
theorem d_BR_areChosenSound_31 : decode b_BR_areChosenSound 31 = .ok (.iaload, 1) := by decide +kernel
theorem d_BR_areChosenSound_32 : decode b_BR_areChosenSound 32 = .ok (.istore_n 3, 1) := by decide +kernel
theorem d_BR_areChosenSound_33 : decode b_BR_areChosenSound 33 = .ok (.iload_n 3, 1) := by decide +kernel
theorem d_BR_areChosenSound_34 : decode b_BR_areChosenSound 34 = .ok (.aload_n 0, 1) := by decide +kernel
theorem d_BR_areChosenSound_35 : decode b_BR_areChosenSound 35 = .ok (.getfield 19, 3) := by decide +kernel
theorem d_BR_areChosenSound_38 : decode b_BR_areChosenSound 38 = .ok (.iload_n 3, 1) := by decide +kernel
theorem d_BR_areChosenSound_39 : decode b_BR_areChosenSound 39 = .ok (.invokevirtual 171, 3) := by decide +kernel
theorem d_BR_areChosenSound_42 : decode b_BR_areChosenSound 42 = .ok (.iadd, 1) := by decide +kernel
theorem d_BR_areChosenSound_43 : decode b_BR_areChosenSound 43 = .ok (.iconst 1, 1) := by decide +kernel
theorem d_BR_areChosenSound_44 : decode b_BR_areChosenSound 44 = .ok (.isub, 1) := by decide +kernel
theorem d_BR_areChosenSound_45 : decode b_BR_areChosenSound 45 = .ok (.istore 4, 2) := by decide +kernel
theorem d_BR_areChosenSound_47 : decode b_BR_areChosenSound 47 = .ok (.iload_n 1, 1) := by decide +kernel
theorem d_BR_areChosenSound_48 : decode b_BR_areChosenSound 48 = .ok (.iload_n 3, 1) := by decide +kernel
theorem d_BR_areChosenSound_49 : decode b_BR_areChosenSound 49 = .ok (.bipush 40, 2) := by decide +kernel
theorem d_BR_areChosenSound_51 : decode b_BR_areChosenSound 51 = .ok (.idiv, 1) := by decide +kernel
theorem d_BR_areChosenSound_52 : decode b_BR_areChosenSound 52 = .ok (.invokestatic 174, 3) := by decide +kernel
theorem d_BR_areChosenSound_55 : decode b_BR_areChosenSound 55 = .ok (.istore 5, 2) := by decide +kernel
theorem d_BR_areChosenSound_57 : decode b_BR_areChosenSound 57 = .ok (.aload_n 0, 1) := by decide +kernel
theorem d_BR_areChosenSound_58 : decode b_BR_areChosenSound 58 = .ok (.getfield 33, 3) := by decide +kernel
theorem d_BR_areChosenSound_61 : decode b_BR_areChosenSound 61 = .ok (.iload 5, 2) := by decide +kernel
theorem d_BR_areChosenSound_63 : decode b_BR_areChosenSound 63 = .ok (.iload 4, 2) := by decide +kernel
theorem d_BR_areChosenSound_65 : decode b_BR_areChosenSound 65 = .ok (.bipush 40, 2) := by decide +kernel
theorem d_BR_areChosenSound_67 : decode b_BR_areChosenSound 67 = .ok (.idiv, 1) := by decide +kernel
theorem d_BR_areChosenSound_68 : decode b_BR_areChosenSound 68 = .ok (.invokevirtual 112, 3) := by decide +kernel
theorem d_BR_areChosenSound_71 : decode b_BR_areChosenSound 71 = .ok (.ifCond .ne 5, 3) := by decide +kernel
theorem d_BR_areChosenSound_74 : decode b_BR_areChosenSound 74 = .ok (.iconst 0, 1) := by decide +kernel
theorem d_BR_areChosenSound_75 : decode b_BR_areChosenSound 75 = .ok (.ireturn, 1) := by decide +kernel
theorem d_BR_areChosenSound_76 : decode b_BR_areChosenSound 76 = .ok (.iload 4, 2) := by decide +kernel
theorem d_BR_areChosenSound_78 : decode b_BR_areChosenSound 78 = .ok (.bipush 40, 2) := by decide +kernel
theorem d_BR_areChosenSound_80 : decode b_BR_areChosenSound 80 = .ok (.idiv, 1) := by decide +kernel
theorem d_BR_areChosenSound_81 : decode b_BR_areChosenSound 81 = .ok (.iconst 1, 1) := by decide +kernel
theorem d_BR_areChosenSound_82 : decode b_BR_areChosenSound 82 = .ok (.iadd, 1) := by decide +kernel
theorem d_BR_areChosenSound_83 : decode b_BR_areChosenSound 83 = .ok (.istore_n 1, 1) := by decide +kernel
theorem d_BR_areChosenSound_84 : decode b_BR_areChosenSound 84 = .ok (.iinc 2 1, 3) := by decide +kernel
theorem d_BR_areChosenSound_87 : decode b_BR_areChosenSound 87 = .ok (.goto (-83), 3) := by decide +kernel
theorem d_BR_areChosenSound_90 : decode b_BR_areChosenSound 90 = .ok (.iconst 1, 1) := by decide +kernel
theorem d_BR_areChosenSound_91 : decode b_BR_areChosenSound 91 = .ok (.ireturn, 1) := by decide +kernel
theorem d_BR_isReference_0 : decode b_BR_isReference 0 = .ok (.iload_n 0, 1) := by decide +kernel
theorem d_BR_isReference_1 : decode b_BR_isReference 1 = .ok (.ifCond .lt 12, 3) := by decide +kernel
theorem d_BR_isReference_4 : decode b_BR_isReference 4 = .ok (.iload_n 0, 1) := by decide +kernel
theorem d_BR_isReference_5 : decode b_BR_isReference 5 = .ok (.iconst 2, 1) := by decide +kernel
theorem d_BR_isReference_6 : decode b_BR_isReference 6 = .ok (.if_icmp .ge 7, 3) := by decide +kernel
theorem d_BR_isReference_9 : decode b_BR_isReference 9 = .ok (.iconst 1, 1) := by decide +kernel
theorem d_BR_isReference_10 : decode b_BR_isReference 10 = .ok (.goto 4, 3) := by decide +kernel
theorem d_BR_isReference_13 : decode b_BR_isReference 13 = .ok (.iconst 0, 1) := by decide +kernel
theorem d_BR_isReference_14 : decode b_BR_isReference 14 = .ok (.ireturn, 1) := by decide +kernel
theorem d_BR_isRegion_0 : decode b_BR_isRegion 0 = .ok (.iload_n 0, 1) := by decide +kernel
theorem d_BR_isRegion_1 : decode b_BR_isRegion 1 = .ok (.invokestatic 65, 3) := by decide +kernel
theorem d_BR_isRegion_4 : decode b_BR_isRegion 4 = .ok (.ifCond .eq 23, 3) := by decide +kernel
theorem d_BR_isRegion_7 : decode b_BR_isRegion 7 = .ok (.iload_n 1, 1) := by decide +kernel
theorem d_BR_isRegion_8 : decode b_BR_isRegion 8 = .ok (.ifCond .lt 19, 3) := by decide +kernel
theorem d_BR_isRegion_11 : decode b_BR_isRegion 11 = .ok (.iload_n 2, 1) := by decide +kernel
theorem d_BR_isRegion_12 : decode b_BR_isRegion 12 = .ok (.sipush 4096, 3) := by decide +kernel
theorem d_BR_isRegion_15 : decode b_BR_isRegion 15 = .ok (.if_icmp .gt 12, 3) := by decide +kernel
theorem d_BR_isRegion_18 : decode b_BR_isRegion 18 = .ok (.iload_n 1, 1) := by decide +kernel
theorem d_BR_isRegion_19 : decode b_BR_isRegion 19 = .ok (.iload_n 2, 1) := by decide +kernel
theorem d_BR_isRegion_20 : decode b_BR_isRegion 20 = .ok (.if_icmp .ge 7, 3) := by decide +kernel
theorem d_BR_isRegion_23 : decode b_BR_isRegion 23 = .ok (.iconst 1, 1) := by decide +kernel
theorem d_BR_isRegion_24 : decode b_BR_isRegion 24 = .ok (.goto 4, 3) := by decide +kernel
theorem d_BR_isRegion_27 : decode b_BR_isRegion 27 = .ok (.iconst 0, 1) := by decide +kernel
theorem d_BR_isRegion_28 : decode b_BR_isRegion 28 = .ok (.ireturn, 1) := by decide +kernel
theorem d_BR_binOf_0 : decode b_BR_binOf 0 = .ok (.iload_n 1, 1) := by decide +kernel
theorem d_BR_binOf_1 : decode b_BR_binOf 1 = .ok (.iconst 1, 1) := by decide +kernel
theorem d_BR_binOf_2 : decode b_BR_binOf 2 = .ok (.isub, 1) := by decide +kernel
theorem d_BR_binOf_3 : decode b_BR_binOf 3 = .ok (.istore_n 2, 1) := by decide +kernel
theorem d_BR_binOf_4 : decode b_BR_binOf 4 = .ok (.iload_n 0, 1) := by decide +kernel
theorem d_BR_binOf_5 : decode b_BR_binOf 5 = .ok (.bipush 64, 2) := by decide +kernel
theorem d_BR_binOf_7 : decode b_BR_binOf 7 = .ok (.idiv, 1) := by decide +kernel
theorem d_BR_binOf_8 : decode b_BR_binOf 8 = .ok (.iload_n 2, 1) := by decide +kernel
theorem d_BR_binOf_9 : decode b_BR_binOf 9 = .ok (.bipush 64, 2) := by decide +kernel
theorem d_BR_binOf_11 : decode b_BR_binOf 11 = .ok (.idiv, 1) := by decide +kernel
theorem d_BR_binOf_12 : decode b_BR_binOf 12 = .ok (.if_icmp .ne 11, 3) := by decide +kernel
theorem d_BR_binOf_15 : decode b_BR_binOf 15 = .ok (.bipush 9, 2) := by decide +kernel
theorem d_BR_binOf_17 : decode b_BR_binOf 17 = .ok (.iload_n 0, 1) := by decide +kernel
theorem d_BR_binOf_18 : decode b_BR_binOf 18 = .ok (.bipush 64, 2) := by decide +kernel
theorem d_BR_binOf_20 : decode b_BR_binOf 20 = .ok (.idiv, 1) := by decide +kernel
theorem d_BR_binOf_21 : decode b_BR_binOf 21 = .ok (.iadd, 1) := by decide +kernel
theorem d_BR_binOf_22 : decode b_BR_binOf 22 = .ok (.ireturn, 1) := by decide +kernel
theorem d_BR_binOf_23 : decode b_BR_binOf 23 = .ok (.iload_n 0, 1) := by decide +kernel
theorem d_BR_binOf_24 : decode b_BR_binOf 24 = .ok (.sipush 512, 3) := by decide +kernel
theorem d_BR_binOf_27 : decode b_BR_binOf 27 = .ok (.idiv, 1) := by decide +kernel
theorem d_BR_binOf_28 : decode b_BR_binOf 28 = .ok (.iload_n 2, 1) := by decide +kernel
theorem d_BR_binOf_29 : decode b_BR_binOf 29 = .ok (.sipush 512, 3) := by decide +kernel
theorem d_BR_binOf_32 : decode b_BR_binOf 32 = .ok (.idiv, 1) := by decide +kernel
theorem d_BR_binOf_33 : decode b_BR_binOf 33 = .ok (.if_icmp .ne 11, 3) := by decide +kernel
theorem d_BR_binOf_36 : decode b_BR_binOf 36 = .ok (.iconst 1, 1) := by decide +kernel
theorem d_BR_binOf_37 : decode b_BR_binOf 37 = .ok (.iload_n 0, 1) := by decide +kernel
theorem d_BR_binOf_38 : decode b_BR_binOf 38 = .ok (.sipush 512, 3) := by decide +kernel
theorem d_BR_binOf_41 : decode b_BR_binOf 41 = .ok (.idiv, 1) := by decide +kernel
theorem d_BR_binOf_42 : decode b_BR_binOf 42 = .ok (.iadd, 1) := by decide +kernel
theorem d_BR_binOf_43 : decode b_BR_binOf 43 = .ok (.ireturn, 1) := by decide +kernel
theorem d_BR_binOf_44 : decode b_BR_binOf 44 = .ok (.iconst 0, 1) := by decide +kernel
theorem d_BR_binOf_45 : decode b_BR_binOf 45 = .ok (.ireturn, 1) := by decide +kernel
theorem d_BR_binMeets_0 : decode b_BR_binMeets 0 = .ok (.iconst 0, 1) := by decide +kernel
theorem d_BR_binMeets_1 : decode b_BR_binMeets 1 = .ok (.istore_n 3, 1) := by decide +kernel
theorem d_BR_binMeets_2 : decode b_BR_binMeets 2 = .ok (.sipush 4096, 3) := by decide +kernel
theorem d_BR_binMeets_5 : decode b_BR_binMeets 5 = .ok (.istore 4, 2) := by decide +kernel
theorem d_BR_binMeets_7 : decode b_BR_binMeets 7 = .ok (.iload_n 0, 1) := by decide +kernel
theorem d_BR_binMeets_8 : decode b_BR_binMeets 8 = .ok (.bipush 9, 2) := by decide +kernel
theorem d_BR_binMeets_10 : decode b_BR_binMeets 10 = .ok (.if_icmp .lt 20, 3) := by decide +kernel
theorem d_BR_binMeets_13 : decode b_BR_binMeets 13 = .ok (.bipush 64, 2) := by decide +kernel
theorem d_BR_binMeets_15 : decode b_BR_binMeets 15 = .ok (.iload_n 0, 1) := by decide +kernel
theorem d_BR_binMeets_16 : decode b_BR_binMeets 16 = .ok (.bipush 9, 2) := by decide +kernel
theorem d_BR_binMeets_18 : decode b_BR_binMeets 18 = .ok (.isub, 1) := by decide +kernel
theorem d_BR_binMeets_19 : decode b_BR_binMeets 19 = .ok (.imul, 1) := by decide +kernel
theorem d_BR_binMeets_20 : decode b_BR_binMeets 20 = .ok (.istore_n 3, 1) := by decide +kernel
theorem d_BR_binMeets_21 : decode b_BR_binMeets 21 = .ok (.iload_n 3, 1) := by decide +kernel
theorem d_BR_binMeets_22 : decode b_BR_binMeets 22 = .ok (.bipush 64, 2) := by decide +kernel
theorem d_BR_binMeets_24 : decode b_BR_binMeets 24 = .ok (.iadd, 1) := by decide +kernel
theorem d_BR_binMeets_25 : decode b_BR_binMeets 25 = .ok (.istore 4, 2) := by decide +kernel
theorem d_BR_binMeets_27 : decode b_BR_binMeets 27 = .ok (.goto 23, 3) := by decide +kernel
theorem d_BR_binMeets_30 : decode b_BR_binMeets 30 = .ok (.iload_n 0, 1) := by decide +kernel
theorem d_BR_binMeets_31 : decode b_BR_binMeets 31 = .ok (.iconst 1, 1) := by decide +kernel
theorem d_BR_binMeets_32 : decode b_BR_binMeets 32 = .ok (.if_icmp .lt 18, 3) := by decide +kernel
theorem d_BR_binMeets_35 : decode b_BR_binMeets 35 = .ok (.sipush 512, 3) := by decide +kernel
theorem d_BR_binMeets_38 : decode b_BR_binMeets 38 = .ok (.iload_n 0, 1) := by decide +kernel
theorem d_BR_binMeets_39 : decode b_BR_binMeets 39 = .ok (.iconst 1, 1) := by decide +kernel
theorem d_BR_binMeets_40 : decode b_BR_binMeets 40 = .ok (.isub, 1) := by decide +kernel
theorem d_BR_binMeets_41 : decode b_BR_binMeets 41 = .ok (.imul, 1) := by decide +kernel
theorem d_BR_binMeets_42 : decode b_BR_binMeets 42 = .ok (.istore_n 3, 1) := by decide +kernel
theorem d_BR_binMeets_43 : decode b_BR_binMeets 43 = .ok (.iload_n 3, 1) := by decide +kernel
theorem d_BR_binMeets_44 : decode b_BR_binMeets 44 = .ok (.sipush 512, 3) := by decide +kernel
theorem d_BR_binMeets_47 : decode b_BR_binMeets 47 = .ok (.iadd, 1) := by decide +kernel
theorem d_BR_binMeets_48 : decode b_BR_binMeets 48 = .ok (.istore 4, 2) := by decide +kernel
theorem d_BR_binMeets_50 : decode b_BR_binMeets 50 = .ok (.iload_n 3, 1) := by decide +kernel
theorem d_BR_binMeets_51 : decode b_BR_binMeets 51 = .ok (.iload_n 2, 1) := by decide +kernel
theorem d_BR_binMeets_52 : decode b_BR_binMeets 52 = .ok (.if_icmp .ge 13, 3) := by decide +kernel
theorem d_BR_binMeets_55 : decode b_BR_binMeets 55 = .ok (.iload_n 1, 1) := by decide +kernel
theorem d_BR_binMeets_56 : decode b_BR_binMeets 56 = .ok (.iload 4, 2) := by decide +kernel
theorem d_BR_binMeets_58 : decode b_BR_binMeets 58 = .ok (.if_icmp .ge 7, 3) := by decide +kernel
theorem d_BR_binMeets_61 : decode b_BR_binMeets 61 = .ok (.iconst 1, 1) := by decide +kernel
theorem d_BR_binMeets_62 : decode b_BR_binMeets 62 = .ok (.goto 4, 3) := by decide +kernel
theorem d_BR_binMeets_65 : decode b_BR_binMeets 65 = .ok (.iconst 0, 1) := by decide +kernel
theorem d_BR_binMeets_66 : decode b_BR_binMeets 66 = .ok (.ireturn, 1) := by decide +kernel
theorem d_BR_kindOf_0 : decode b_BR_kindOf 0 = .ok (.iload_n 0, 1) := by decide +kernel
theorem d_BR_kindOf_1 : decode b_BR_kindOf 1 = .ok (.iconst 4, 1) := by decide +kernel
theorem d_BR_kindOf_2 : decode b_BR_kindOf 2 = .ok (.irem, 1) := by decide +kernel
theorem d_BR_kindOf_3 : decode b_BR_kindOf 3 = .ok (.ireturn, 1) := by decide +kernel
theorem d_BR_lengthOf_0 : decode b_BR_lengthOf 0 = .ok (.iload_n 0, 1) := by decide +kernel
theorem d_BR_lengthOf_1 : decode b_BR_lengthOf 1 = .ok (.iconst 4, 1) := by decide +kernel
theorem d_BR_lengthOf_2 : decode b_BR_lengthOf 2 = .ok (.idiv, 1) := by decide +kernel
theorem d_BR_lengthOf_3 : decode b_BR_lengthOf 3 = .ok (.ireturn, 1) := by decide +kernel
theorem d_BR_spanOf_0 : decode b_BR_spanOf 0 = .ok (.iconst 0, 1) := by decide +kernel
theorem d_BR_spanOf_1 : decode b_BR_spanOf 1 = .ok (.istore_n 3, 1) := by decide +kernel
theorem d_BR_spanOf_2 : decode b_BR_spanOf 2 = .ok (.iconst 0, 1) := by decide +kernel
theorem d_BR_spanOf_3 : decode b_BR_spanOf 3 = .ok (.istore 4, 2) := by decide +kernel
theorem d_BR_spanOf_5 : decode b_BR_spanOf 5 = .ok (.iload 4, 2) := by decide +kernel
theorem d_BR_spanOf_7 : decode b_BR_spanOf 7 = .ok (.iload_n 2, 1) := by decide +kernel
theorem d_BR_spanOf_8 : decode b_BR_spanOf 8 = .ok (.if_icmp .ge 43, 3) := by decide +kernel
theorem d_BR_spanOf_11 : decode b_BR_spanOf 11 = .ok (.iload_n 1, 1) := by decide +kernel
theorem d_BR_spanOf_12 : decode b_BR_spanOf 12 = .ok (.iload 4, 2) := by decide +kernel
theorem d_BR_spanOf_14 : decode b_BR_spanOf 14 = .ok (.iadd, 1) := by decide +kernel
theorem d_BR_spanOf_15 : decode b_BR_spanOf 15 = .ok (.aload_n 0, 1) := by decide +kernel
theorem d_BR_spanOf_16 : decode b_BR_spanOf 16 = .ok (.arraylength, 1) := by decide +kernel
theorem d_BR_spanOf_17 : decode b_BR_spanOf 17 = .ok (.if_icmp .ge 34, 3) := by decide +kernel
theorem d_BR_spanOf_20 : decode b_BR_spanOf 20 = .ok (.aload_n 0, 1) := by decide +kernel
theorem d_BR_spanOf_21 : decode b_BR_spanOf 21 = .ok (.iload_n 1, 1) := by decide +kernel
theorem d_BR_spanOf_22 : decode b_BR_spanOf 22 = .ok (.iload 4, 2) := by decide +kernel
theorem d_BR_spanOf_24 : decode b_BR_spanOf 24 = .ok (.iadd, 1) := by decide +kernel
theorem d_BR_spanOf_25 : decode b_BR_spanOf 25 = .ok (.iaload, 1) := by decide +kernel
theorem d_BR_spanOf_26 : decode b_BR_spanOf 26 = .ok (.istore 5, 2) := by decide +kernel
theorem d_BR_spanOf_28 : decode b_BR_spanOf 28 = .ok (.iload 5, 2) := by decide +kernel
theorem d_BR_spanOf_30 : decode b_BR_spanOf 30 = .ok (.invokestatic 179, 3) := by decide +kernel
theorem d_BR_spanOf_33 : decode b_BR_spanOf 33 = .ok (.iconst 1, 1) := by decide +kernel
theorem d_BR_spanOf_34 : decode b_BR_spanOf 34 = .ok (.if_icmp .eq 11, 3) := by decide +kernel
theorem d_BR_spanOf_37 : decode b_BR_spanOf 37 = .ok (.iload_n 3, 1) := by decide +kernel
theorem d_BR_spanOf_38 : decode b_BR_spanOf 38 = .ok (.iload 5, 2) := by decide +kernel
theorem d_BR_spanOf_40 : decode b_BR_spanOf 40 = .ok (.invokestatic 182, 3) := by decide +kernel
theorem d_BR_spanOf_43 : decode b_BR_spanOf 43 = .ok (.iadd, 1) := by decide +kernel
theorem d_BR_spanOf_44 : decode b_BR_spanOf 44 = .ok (.istore_n 3, 1) := by decide +kernel
theorem d_BR_spanOf_45 : decode b_BR_spanOf 45 = .ok (.iinc 4 1, 3) := by decide +kernel
theorem d_BR_spanOf_48 : decode b_BR_spanOf 48 = .ok (.goto (-43), 3) := by decide +kernel
theorem d_BR_spanOf_51 : decode b_BR_spanOf 51 = .ok (.iload_n 3, 1) := by decide +kernel
theorem d_BR_spanOf_52 : decode b_BR_spanOf 52 = .ok (.ireturn, 1) := by decide +kernel
