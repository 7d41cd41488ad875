theorem dX0_init_0 : decode cX0_init 0 = .ok (.aload_n 0, 1) := by decide +kernel
theorem dX0_init_1 : decode cX0_init 1 = .ok (.invokespecial 3, 3) := by decide +kernel
theorem dX0_init_4 : decode cX0_init 4 = .ok (.aload_n 0, 1) := by decide +kernel
theorem dX0_init_5 : decode cX0_init 5 = .ok (.sipush 500, 3) := by decide +kernel
theorem dX0_init_8 : decode cX0_init 8 = .ok (.newarray .int, 2) := by decide +kernel
theorem dX0_init_10 : decode cX0_init 10 = .ok (.putfield 9, 3) := by decide +kernel
theorem dX0_init_13 : decode cX0_init 13 = .ok (.return_, 1) := by decide +kernel
theorem dX0_copyFrom_0 : decode cX0_copyFrom 0 = .ok (.aload_n 0, 1) := by decide +kernel
theorem dX0_copyFrom_1 : decode cX0_copyFrom 1 = .ok (.aload_n 1, 1) := by decide +kernel
theorem dX0_copyFrom_2 : decode cX0_copyFrom 2 = .ok (.getfield 15, 3) := by decide +kernel
theorem dX0_copyFrom_5 : decode cX0_copyFrom 5 = .ok (.putfield 15, 3) := by decide +kernel
theorem dX0_copyFrom_8 : decode cX0_copyFrom 8 = .ok (.aload_n 1, 1) := by decide +kernel
theorem dX0_copyFrom_9 : decode cX0_copyFrom 9 = .ok (.getfield 9, 3) := by decide +kernel
theorem dX0_copyFrom_12 : decode cX0_copyFrom 12 = .ok (.iconst 0, 1) := by decide +kernel
theorem dX0_copyFrom_13 : decode cX0_copyFrom 13 = .ok (.aload_n 0, 1) := by decide +kernel
theorem dX0_copyFrom_14 : decode cX0_copyFrom 14 = .ok (.getfield 9, 3) := by decide +kernel
theorem dX0_copyFrom_17 : decode cX0_copyFrom 17 = .ok (.iconst 0, 1) := by decide +kernel
theorem dX0_copyFrom_18 : decode cX0_copyFrom 18 = .ok (.aload_n 0, 1) := by decide +kernel
theorem dX0_copyFrom_19 : decode cX0_copyFrom 19 = .ok (.getfield 15, 3) := by decide +kernel
theorem dX0_copyFrom_22 : decode cX0_copyFrom 22 = .ok (.iconst 5, 1) := by decide +kernel
theorem dX0_copyFrom_23 : decode cX0_copyFrom 23 = .ok (.imul, 1) := by decide +kernel
theorem dX0_copyFrom_24 : decode cX0_copyFrom 24 = .ok (.invokestatic 19, 3) := by decide +kernel
theorem dX0_copyFrom_27 : decode cX0_copyFrom 27 = .ok (.return_, 1) := by decide +kernel
theorem dX0_write_0 : decode cX0_write 0 = .ok (.aload_n 0, 1) := by decide +kernel
theorem dX0_write_1 : decode cX0_write 1 = .ok (.getfield 15, 3) := by decide +kernel
theorem dX0_write_4 : decode cX0_write 4 = .ok (.bipush 100, 2) := by decide +kernel
theorem dX0_write_6 : decode cX0_write 6 = .ok (.if_icmp .lt 4, 3) := by decide +kernel
theorem dX0_write_9 : decode cX0_write 9 = .ok (.return_, 1) := by decide +kernel
theorem dX0_write_10 : decode cX0_write 10 = .ok (.aload_n 0, 1) := by decide +kernel
theorem dX0_write_11 : decode cX0_write 11 = .ok (.getfield 15, 3) := by decide +kernel
theorem dX0_write_14 : decode cX0_write 14 = .ok (.iconst 5, 1) := by decide +kernel
theorem dX0_write_15 : decode cX0_write 15 = .ok (.imul, 1) := by decide +kernel
theorem dX0_write_16 : decode cX0_write 16 = .ok (.istore 6, 2) := by decide +kernel
theorem dX0_write_18 : decode cX0_write 18 = .ok (.aload_n 0, 1) := by decide +kernel
theorem dX0_write_19 : decode cX0_write 19 = .ok (.getfield 9, 3) := by decide +kernel
theorem dX0_write_22 : decode cX0_write 22 = .ok (.iload 6, 2) := by decide +kernel
theorem dX0_write_24 : decode cX0_write 24 = .ok (.iload_n 1, 1) := by decide +kernel
theorem dX0_write_25 : decode cX0_write 25 = .ok (.iastore, 1) := by decide +kernel
theorem dX0_write_26 : decode cX0_write 26 = .ok (.aload_n 0, 1) := by decide +kernel
theorem dX0_write_27 : decode cX0_write 27 = .ok (.getfield 9, 3) := by decide +kernel
theorem dX0_write_30 : decode cX0_write 30 = .ok (.iload 6, 2) := by decide +kernel
theorem dX0_write_32 : decode cX0_write 32 = .ok (.iconst 1, 1) := by decide +kernel
theorem dX0_write_33 : decode cX0_write 33 = .ok (.iadd, 1) := by decide +kernel
theorem dX0_write_34 : decode cX0_write 34 = .ok (.iload_n 2, 1) := by decide +kernel
theorem dX0_write_35 : decode cX0_write 35 = .ok (.iastore, 1) := by decide +kernel
theorem dX0_write_36 : decode cX0_write 36 = .ok (.aload_n 0, 1) := by decide +kernel
theorem dX0_write_37 : decode cX0_write 37 = .ok (.getfield 9, 3) := by decide +kernel
theorem dX0_write_40 : decode cX0_write 40 = .ok (.iload 6, 2) := by decide +kernel
theorem dX0_write_42 : decode cX0_write 42 = .ok (.iconst 2, 1) := by decide +kernel
theorem dX0_write_43 : decode cX0_write 43 = .ok (.iadd, 1) := by decide +kernel
theorem dX0_write_44 : decode cX0_write 44 = .ok (.iload_n 3, 1) := by decide +kernel
theorem dX0_write_45 : decode cX0_write 45 = .ok (.iastore, 1) := by decide +kernel
theorem dX0_write_46 : decode cX0_write 46 = .ok (.aload_n 0, 1) := by decide +kernel
theorem dX0_write_47 : decode cX0_write 47 = .ok (.getfield 9, 3) := by decide +kernel
theorem dX0_write_50 : decode cX0_write 50 = .ok (.iload 6, 2) := by decide +kernel
theorem dX0_write_52 : decode cX0_write 52 = .ok (.iconst 3, 1) := by decide +kernel
theorem dX0_write_53 : decode cX0_write 53 = .ok (.iadd, 1) := by decide +kernel
theorem dX0_write_54 : decode cX0_write 54 = .ok (.iload 4, 2) := by decide +kernel
theorem dX0_write_56 : decode cX0_write 56 = .ok (.iastore, 1) := by decide +kernel
theorem dX0_write_57 : decode cX0_write 57 = .ok (.aload_n 0, 1) := by decide +kernel
theorem dX0_write_58 : decode cX0_write 58 = .ok (.getfield 9, 3) := by decide +kernel
theorem dX0_write_61 : decode cX0_write 61 = .ok (.iload 6, 2) := by decide +kernel
theorem dX0_write_63 : decode cX0_write 63 = .ok (.iconst 4, 1) := by decide +kernel
theorem dX0_write_64 : decode cX0_write 64 = .ok (.iadd, 1) := by decide +kernel
theorem dX0_write_65 : decode cX0_write 65 = .ok (.iload 5, 2) := by decide +kernel
theorem dX0_write_67 : decode cX0_write 67 = .ok (.iastore, 1) := by decide +kernel
theorem dX0_write_68 : decode cX0_write 68 = .ok (.aload_n 0, 1) := by decide +kernel
theorem dX0_write_69 : decode cX0_write 69 = .ok (.dup, 1) := by decide +kernel
theorem dX0_write_70 : decode cX0_write 70 = .ok (.getfield 15, 3) := by decide +kernel
theorem dX0_write_73 : decode cX0_write 73 = .ok (.iconst 1, 1) := by decide +kernel
theorem dX0_write_74 : decode cX0_write 74 = .ok (.iadd, 1) := by decide +kernel
theorem dX0_write_75 : decode cX0_write 75 = .ok (.putfield 15, 3) := by decide +kernel
theorem dX0_write_78 : decode cX0_write 78 = .ok (.return_, 1) := by decide +kernel
theorem dX0_read_0 : decode cX0_read 0 = .ok (.iload_n 1, 1) := by decide +kernel
theorem dX0_read_1 : decode cX0_read 1 = .ok (.ifCond .lt 20, 3) := by decide +kernel
theorem dX0_read_4 : decode cX0_read 4 = .ok (.iload_n 1, 1) := by decide +kernel
theorem dX0_read_5 : decode cX0_read 5 = .ok (.aload_n 0, 1) := by decide +kernel
theorem dX0_read_6 : decode cX0_read 6 = .ok (.getfield 15, 3) := by decide +kernel
theorem dX0_read_9 : decode cX0_read 9 = .ok (.if_icmp .ge 12, 3) := by decide +kernel
theorem dX0_read_12 : decode cX0_read 12 = .ok (.iload_n 2, 1) := by decide +kernel
theorem dX0_read_13 : decode cX0_read 13 = .ok (.ifCond .lt 8, 3) := by decide +kernel
theorem dX0_read_16 : decode cX0_read 16 = .ok (.iload_n 2, 1) := by decide +kernel
theorem dX0_read_17 : decode cX0_read 17 = .ok (.iconst 5, 1) := by decide +kernel
theorem dX0_read_18 : decode cX0_read 18 = .ok (.if_icmp .lt 5, 3) := by decide +kernel
theorem dX0_read_21 : decode cX0_read 21 = .ok (.iconst (-1), 1) := by decide +kernel
theorem dX0_read_22 : decode cX0_read 22 = .ok (.ireturn, 1) := by decide +kernel
theorem dX0_read_23 : decode cX0_read 23 = .ok (.aload_n 0, 1) := by decide +kernel
theorem dX0_read_24 : decode cX0_read 24 = .ok (.getfield 9, 3) := by decide +kernel
theorem dX0_read_27 : decode cX0_read 27 = .ok (.iload_n 1, 1) := by decide +kernel
theorem dX0_read_28 : decode cX0_read 28 = .ok (.iconst 5, 1) := by decide +kernel
theorem dX0_read_29 : decode cX0_read 29 = .ok (.imul, 1) := by decide +kernel
theorem dX0_read_30 : decode cX0_read 30 = .ok (.iload_n 2, 1) := by decide +kernel
theorem dX0_read_31 : decode cX0_read 31 = .ok (.iadd, 1) := by decide +kernel
theorem dX0_read_32 : decode cX0_read 32 = .ok (.iaload, 1) := by decide +kernel
theorem dX0_read_33 : decode cX0_read 33 = .ok (.ireturn, 1) := by decide +kernel
theorem dX1_init_0 : decode cX1_init 0 = .ok (.aload_n 0, 1) := by decide +kernel
theorem dX1_init_1 : decode cX1_init 1 = .ok (.invokespecial 3, 3) := by decide +kernel
theorem dX1_init_4 : decode cX1_init 4 = .ok (.aload_n 0, 1) := by decide +kernel
theorem dX1_init_5 : decode cX1_init 5 = .ok (.iconst 5, 1) := by decide +kernel
theorem dX1_init_6 : decode cX1_init 6 = .ok (.newarray .int, 2) := by decide +kernel
theorem dX1_init_8 : decode cX1_init 8 = .ok (.putfield 9, 3) := by decide +kernel
theorem dX1_init_11 : decode cX1_init 11 = .ok (.return_, 1) := by decide +kernel
theorem dX1_leastSize_0 : decode cX1_leastSize 0 = .ok (.aload_n 0, 1) := by decide +kernel
theorem dX1_leastSize_1 : decode cX1_leastSize 1 = .ok (.getfield 9, 3) := by decide +kernel
theorem dX1_leastSize_4 : decode cX1_leastSize 4 = .ok (.iconst 0, 1) := by decide +kernel
theorem dX1_leastSize_5 : decode cX1_leastSize 5 = .ok (.iconst 0, 1) := by decide +kernel
theorem dX1_leastSize_6 : decode cX1_leastSize 6 = .ok (.iastore, 1) := by decide +kernel
theorem dX1_leastSize_7 : decode cX1_leastSize 7 = .ok (.iconst 1, 1) := by decide +kernel
theorem dX1_leastSize_8 : decode cX1_leastSize 8 = .ok (.istore_n 2, 1) := by decide +kernel
theorem dX1_leastSize_9 : decode cX1_leastSize 9 = .ok (.iload_n 2, 1) := by decide +kernel
theorem dX1_leastSize_10 : decode cX1_leastSize 10 = .ok (.iconst 5, 1) := by decide +kernel
theorem dX1_leastSize_11 : decode cX1_leastSize 11 = .ok (.if_icmp .gt 23, 3) := by decide +kernel
theorem dX1_leastSize_14 : decode cX1_leastSize 14 = .ok (.aload_n 0, 1) := by decide +kernel
theorem dX1_leastSize_15 : decode cX1_leastSize 15 = .ok (.iconst 1, 1) := by decide +kernel
theorem dX1_leastSize_16 : decode cX1_leastSize 16 = .ok (.iload_n 2, 1) := by decide +kernel
theorem dX1_leastSize_17 : decode cX1_leastSize 17 = .ok (.ldc 15, 2) := by decide +kernel
theorem dX1_leastSize_19 : decode cX1_leastSize 19 = .ok (.iload_n 1, 1) := by decide +kernel
theorem dX1_leastSize_20 : decode cX1_leastSize 20 = .ok (.invokevirtual 16, 3) := by decide +kernel
theorem dX1_leastSize_23 : decode cX1_leastSize 23 = .ok (.ifCond .eq 5, 3) := by decide +kernel
theorem dX1_leastSize_26 : decode cX1_leastSize 26 = .ok (.iload_n 2, 1) := by decide +kernel
theorem dX1_leastSize_27 : decode cX1_leastSize 27 = .ok (.ireturn, 1) := by decide +kernel
theorem dX1_leastSize_28 : decode cX1_leastSize 28 = .ok (.iinc 2 1, 3) := by decide +kernel
theorem dX1_leastSize_31 : decode cX1_leastSize 31 = .ok (.goto (-22), 3) := by decide +kernel
theorem dX1_leastSize_34 : decode cX1_leastSize 34 = .ok (.iconst (-1), 1) := by decide +kernel
theorem dX1_leastSize_35 : decode cX1_leastSize 35 = .ok (.ireturn, 1) := by decide +kernel
theorem dX1_extend_0 : decode cX1_extend 0 = .ok (.iload_n 1, 1) := by decide +kernel
theorem dX1_extend_1 : decode cX1_extend 1 = .ok (.iload_n 2, 1) := by decide +kernel
theorem dX1_extend_2 : decode cX1_extend 2 = .ok (.if_icmp .ge 8, 3) := by decide +kernel
theorem dX1_extend_5 : decode cX1_extend 5 = .ok (.iload_n 1, 1) := by decide +kernel
theorem dX1_extend_6 : decode cX1_extend 6 = .ok (.iconst 5, 1) := by decide +kernel
theorem dX1_extend_7 : decode cX1_extend 7 = .ok (.if_icmp .lt 14, 3) := by decide +kernel
theorem dX1_extend_10 : decode cX1_extend 10 = .ok (.iload 4, 2) := by decide +kernel
theorem dX1_extend_12 : decode cX1_extend 12 = .ok (.ifCond .ne 7, 3) := by decide +kernel
theorem dX1_extend_15 : decode cX1_extend 15 = .ok (.iconst 1, 1) := by decide +kernel
theorem dX1_extend_16 : decode cX1_extend 16 = .ok (.goto 4, 3) := by decide +kernel
theorem dX1_extend_19 : decode cX1_extend 19 = .ok (.iconst 0, 1) := by decide +kernel
theorem dX1_extend_20 : decode cX1_extend 20 = .ok (.ireturn, 1) := by decide +kernel
theorem dX1_extend_21 : decode cX1_extend 21 = .ok (.iload_n 2, 1) := by decide +kernel
theorem dX1_extend_22 : decode cX1_extend 22 = .ok (.iload_n 2, 1) := by decide +kernel
theorem dX1_extend_23 : decode cX1_extend 23 = .ok (.iconst 1, 1) := by decide +kernel
theorem dX1_extend_24 : decode cX1_extend 24 = .ok (.isub, 1) := by decide +kernel
theorem dX1_extend_25 : decode cX1_extend 25 = .ok (.imul, 1) := by decide +kernel
theorem dX1_extend_26 : decode cX1_extend 26 = .ok (.iload_n 1, 1) := by decide +kernel
theorem dX1_extend_27 : decode cX1_extend 27 = .ok (.iload_n 1, 1) := by decide +kernel
theorem dX1_extend_28 : decode cX1_extend 28 = .ok (.iconst 1, 1) := by decide +kernel
theorem dX1_extend_29 : decode cX1_extend 29 = .ok (.isub, 1) := by decide +kernel
theorem dX1_extend_30 : decode cX1_extend 30 = .ok (.imul, 1) := by decide +kernel
theorem dX1_extend_31 : decode cX1_extend 31 = .ok (.isub, 1) := by decide +kernel
theorem dX1_extend_32 : decode cX1_extend 32 = .ok (.iconst 2, 1) := by decide +kernel
theorem dX1_extend_33 : decode cX1_extend 33 = .ok (.idiv, 1) := by decide +kernel
theorem dX1_extend_34 : decode cX1_extend 34 = .ok (.istore 5, 2) := by decide +kernel
theorem dX1_extend_36 : decode cX1_extend 36 = .ok (.iload 4, 2) := by decide +kernel
theorem dX1_extend_38 : decode cX1_extend 38 = .ok (.invokestatic 20, 3) := by decide +kernel
theorem dX1_extend_41 : decode cX1_extend 41 = .ok (.iload 5, 2) := by decide +kernel
theorem dX1_extend_43 : decode cX1_extend 43 = .ok (.if_icmp .le 5, 3) := by decide +kernel
theorem dX1_extend_46 : decode cX1_extend 46 = .ok (.iconst 0, 1) := by decide +kernel
theorem dX1_extend_47 : decode cX1_extend 47 = .ok (.ireturn, 1) := by decide +kernel
theorem dX1_extend_48 : decode cX1_extend 48 = .ok (.aload_n 0, 1) := by decide +kernel
theorem dX1_extend_49 : decode cX1_extend 49 = .ok (.getfield 9, 3) := by decide +kernel
theorem dX1_extend_52 : decode cX1_extend 52 = .ok (.iload_n 1, 1) := by decide +kernel
theorem dX1_extend_53 : decode cX1_extend 53 = .ok (.iconst 1, 1) := by decide +kernel
theorem dX1_extend_54 : decode cX1_extend 54 = .ok (.isub, 1) := by decide +kernel
theorem dX1_extend_55 : decode cX1_extend 55 = .ok (.iaload, 1) := by decide +kernel
theorem dX1_extend_56 : decode cX1_extend 56 = .ok (.iconst 1, 1) := by decide +kernel
theorem dX1_extend_57 : decode cX1_extend 57 = .ok (.iadd, 1) := by decide +kernel
theorem dX1_extend_58 : decode cX1_extend 58 = .ok (.istore 6, 2) := by decide +kernel
theorem dX1_extend_60 : decode cX1_extend 60 = .ok (.iload 6, 2) := by decide +kernel
theorem dX1_extend_62 : decode cX1_extend 62 = .ok (.bipush 24, 2) := by decide +kernel
theorem dX1_extend_64 : decode cX1_extend 64 = .ok (.if_icmp .gt 52, 3) := by decide +kernel
theorem dX1_extend_67 : decode cX1_extend 67 = .ok (.aload_n 0, 1) := by decide +kernel
theorem dX1_extend_68 : decode cX1_extend 68 = .ok (.getfield 9, 3) := by decide +kernel
theorem dX1_extend_71 : decode cX1_extend 71 = .ok (.iload_n 1, 1) := by decide +kernel
theorem dX1_extend_72 : decode cX1_extend 72 = .ok (.iload 6, 2) := by decide +kernel
theorem dX1_extend_74 : decode cX1_extend 74 = .ok (.iastore, 1) := by decide +kernel
theorem dX1_extend_75 : decode cX1_extend 75 = .ok (.bipush 24, 2) := by decide +kernel
theorem dX1_extend_77 : decode cX1_extend 77 = .ok (.iload 6, 2) := by decide +kernel
theorem dX1_extend_79 : decode cX1_extend 79 = .ok (.isub, 1) := by decide +kernel
theorem dX1_extend_80 : decode cX1_extend 80 = .ok (.istore 7, 2) := by decide +kernel
theorem dX1_extend_82 : decode cX1_extend 82 = .ok (.aload_n 0, 1) := by decide +kernel
theorem dX1_extend_83 : decode cX1_extend 83 = .ok (.iload_n 1, 1) := by decide +kernel
theorem dX1_extend_84 : decode cX1_extend 84 = .ok (.iconst 1, 1) := by decide +kernel
theorem dX1_extend_85 : decode cX1_extend 85 = .ok (.iadd, 1) := by decide +kernel
theorem dX1_extend_86 : decode cX1_extend 86 = .ok (.iload_n 2, 1) := by decide +kernel
theorem dX1_extend_87 : decode cX1_extend 87 = .ok (.iload_n 3, 1) := by decide +kernel
theorem dX1_extend_88 : decode cX1_extend 88 = .ok (.iconst 1, 1) := by decide +kernel
theorem dX1_extend_89 : decode cX1_extend 89 = .ok (.iload 7, 2) := by decide +kernel
theorem dX1_extend_91 : decode cX1_extend 91 = .ok (.ishl, 1) := by decide +kernel
theorem dX1_extend_92 : decode cX1_extend 92 = .ok (.ior, 1) := by decide +kernel
theorem dX1_extend_93 : decode cX1_extend 93 = .ok (.iload 4, 2) := by decide +kernel
theorem dX1_extend_95 : decode cX1_extend 95 = .ok (.iload_n 3, 1) := by decide +kernel
theorem dX1_extend_96 : decode cX1_extend 96 = .ok (.iload 7, 2) := by decide +kernel
theorem dX1_extend_98 : decode cX1_extend 98 = .ok (.iushr, 1) := by decide +kernel
theorem dX1_extend_99 : decode cX1_extend 99 = .ok (.iconst (-1), 1) := by decide +kernel
theorem dX1_extend_100 : decode cX1_extend 100 = .ok (.ixor, 1) := by decide +kernel
theorem dX1_extend_101 : decode cX1_extend 101 = .ok (.iand, 1) := by decide +kernel
theorem dX1_extend_102 : decode cX1_extend 102 = .ok (.invokevirtual 16, 3) := by decide +kernel
theorem dX1_extend_105 : decode cX1_extend 105 = .ok (.ifCond .eq 5, 3) := by decide +kernel
theorem dX1_extend_108 : decode cX1_extend 108 = .ok (.iconst 1, 1) := by decide +kernel
theorem dX1_extend_109 : decode cX1_extend 109 = .ok (.ireturn, 1) := by decide +kernel
theorem dX1_extend_110 : decode cX1_extend 110 = .ok (.iinc 6 1, 3) := by decide +kernel
theorem dX1_extend_113 : decode cX1_extend 113 = .ok (.goto (-53), 3) := by decide +kernel
theorem dX1_extend_116 : decode cX1_extend 116 = .ok (.iconst 0, 1) := by decide +kernel
theorem dX1_extend_117 : decode cX1_extend 117 = .ok (.ireturn, 1) := by decide +kernel
theorem dX2_init_0 : decode cX2_init 0 = .ok (.aload_n 0, 1) := by decide +kernel
theorem dX2_init_1 : decode cX2_init 1 = .ok (.invokespecial 3, 3) := by decide +kernel
theorem dX2_init_4 : decode cX2_init 4 = .ok (.aload_n 0, 1) := by decide +kernel
theorem dX2_init_5 : decode cX2_init 5 = .ok (.bipush 32, 2) := by decide +kernel
theorem dX2_init_7 : decode cX2_init 7 = .ok (.newarray .int, 2) := by decide +kernel
theorem dX2_init_9 : decode cX2_init 9 = .ok (.putfield 11, 3) := by decide +kernel
theorem dX2_init_12 : decode cX2_init 12 = .ok (.return_, 1) := by decide +kernel
theorem dX2_hearersOf_0 : decode cX2_hearersOf 0 = .ok (.aload_n 0, 1) := by decide +kernel
theorem dX2_hearersOf_1 : decode cX2_hearersOf 1 = .ok (.aload_n 1, 1) := by decide +kernel
theorem dX2_hearersOf_2 : decode cX2_hearersOf 2 = .ok (.iload_n 2, 1) := by decide +kernel
theorem dX2_hearersOf_3 : decode cX2_hearersOf 3 = .ok (.iload_n 3, 1) := by decide +kernel
theorem dX2_hearersOf_4 : decode cX2_hearersOf 4 = .ok (.aload_n 1, 1) := by decide +kernel
theorem dX2_hearersOf_5 : decode cX2_hearersOf 5 = .ok (.getfield 15, 3) := by decide +kernel
theorem dX2_hearersOf_8 : decode cX2_hearersOf 8 = .ok (.iload_n 2, 1) := by decide +kernel
theorem dX2_hearersOf_9 : decode cX2_hearersOf 9 = .ok (.iaload, 1) := by decide +kernel
theorem dX2_hearersOf_10 : decode cX2_hearersOf 10 = .ok (.aload_n 1, 1) := by decide +kernel
theorem dX2_hearersOf_11 : decode cX2_hearersOf 11 = .ok (.getfield 15, 3) := by decide +kernel
theorem dX2_hearersOf_14 : decode cX2_hearersOf 14 = .ok (.iload_n 3, 1) := by decide +kernel
theorem dX2_hearersOf_15 : decode cX2_hearersOf 15 = .ok (.iaload, 1) := by decide +kernel
theorem dX2_hearersOf_16 : decode cX2_hearersOf 16 = .ok (.invokevirtual 20, 3) := by decide +kernel
theorem dX2_hearersOf_19 : decode cX2_hearersOf 19 = .ok (.iconst 0, 1) := by decide +kernel
theorem dX2_hearersOf_20 : decode cX2_hearersOf 20 = .ok (.istore 4, 2) := by decide +kernel
theorem dX2_hearersOf_22 : decode cX2_hearersOf 22 = .ok (.iconst 0, 1) := by decide +kernel
theorem dX2_hearersOf_23 : decode cX2_hearersOf 23 = .ok (.istore 5, 2) := by decide +kernel
theorem dX2_hearersOf_25 : decode cX2_hearersOf 25 = .ok (.iload 5, 2) := by decide +kernel
theorem dX2_hearersOf_27 : decode cX2_hearersOf 27 = .ok (.aload_n 1, 1) := by decide +kernel
theorem dX2_hearersOf_28 : decode cX2_hearersOf 28 = .ok (.getfield 24, 3) := by decide +kernel
theorem dX2_hearersOf_31 : decode cX2_hearersOf 31 = .ok (.if_icmp .ge 41, 3) := by decide +kernel
theorem dX2_hearersOf_34 : decode cX2_hearersOf 34 = .ok (.aload_n 0, 1) := by decide +kernel
theorem dX2_hearersOf_35 : decode cX2_hearersOf 35 = .ok (.iload 5, 2) := by decide +kernel
theorem dX2_hearersOf_37 : decode cX2_hearersOf 37 = .ok (.invokevirtual 28, 3) := by decide +kernel
theorem dX2_hearersOf_40 : decode cX2_hearersOf 40 = .ok (.ifCond .ne 26, 3) := by decide +kernel
theorem dX2_hearersOf_43 : decode cX2_hearersOf 43 = .ok (.aload_n 0, 1) := by decide +kernel
theorem dX2_hearersOf_44 : decode cX2_hearersOf 44 = .ok (.aload_n 1, 1) := by decide +kernel
theorem dX2_hearersOf_45 : decode cX2_hearersOf 45 = .ok (.iload 5, 2) := by decide +kernel
theorem dX2_hearersOf_47 : decode cX2_hearersOf 47 = .ok (.aload_n 1, 1) := by decide +kernel
theorem dX2_hearersOf_48 : decode cX2_hearersOf 48 = .ok (.getfield 32, 3) := by decide +kernel
theorem dX2_hearersOf_51 : decode cX2_hearersOf 51 = .ok (.invokevirtual 35, 3) := by decide +kernel
theorem dX2_hearersOf_54 : decode cX2_hearersOf 54 = .ok (.ifCond .eq 12, 3) := by decide +kernel
theorem dX2_hearersOf_57 : decode cX2_hearersOf 57 = .ok (.iload 4, 2) := by decide +kernel
theorem dX2_hearersOf_59 : decode cX2_hearersOf 59 = .ok (.iconst 1, 1) := by decide +kernel
theorem dX2_hearersOf_60 : decode cX2_hearersOf 60 = .ok (.iload 5, 2) := by decide +kernel
theorem dX2_hearersOf_62 : decode cX2_hearersOf 62 = .ok (.ishl, 1) := by decide +kernel
theorem dX2_hearersOf_63 : decode cX2_hearersOf 63 = .ok (.ior, 1) := by decide +kernel
theorem dX2_hearersOf_64 : decode cX2_hearersOf 64 = .ok (.istore 4, 2) := by decide +kernel
theorem dX2_hearersOf_66 : decode cX2_hearersOf 66 = .ok (.iinc 5 1, 3) := by decide +kernel
theorem dX2_hearersOf_69 : decode cX2_hearersOf 69 = .ok (.goto (-44), 3) := by decide +kernel
theorem dX2_hearersOf_72 : decode cX2_hearersOf 72 = .ok (.iload 4, 2) := by decide +kernel
theorem dX2_hearersOf_74 : decode cX2_hearersOf 74 = .ok (.ireturn, 1) := by decide +kernel
theorem dX2_couplesHeard_0 : decode cX2_couplesHeard 0 = .ok (.iconst 0, 1) := by decide +kernel
theorem dX2_couplesHeard_1 : decode cX2_couplesHeard 1 = .ok (.istore 4, 2) := by decide +kernel
theorem dX2_couplesHeard_3 : decode cX2_couplesHeard 3 = .ok (.iload_n 3, 1) := by decide +kernel
theorem dX2_couplesHeard_4 : decode cX2_couplesHeard 4 = .ok (.iconst 1, 1) := by decide +kernel
theorem dX2_couplesHeard_5 : decode cX2_couplesHeard 5 = .ok (.iload_n 2, 1) := by decide +kernel
theorem dX2_couplesHeard_6 : decode cX2_couplesHeard 6 = .ok (.ishl, 1) := by decide +kernel
theorem dX2_couplesHeard_7 : decode cX2_couplesHeard 7 = .ok (.iconst (-1), 1) := by decide +kernel
theorem dX2_couplesHeard_8 : decode cX2_couplesHeard 8 = .ok (.ixor, 1) := by decide +kernel
theorem dX2_couplesHeard_9 : decode cX2_couplesHeard 9 = .ok (.iand, 1) := by decide +kernel
theorem dX2_couplesHeard_10 : decode cX2_couplesHeard 10 = .ok (.istore 5, 2) := by decide +kernel
theorem dX2_couplesHeard_12 : decode cX2_couplesHeard 12 = .ok (.iconst 0, 1) := by decide +kernel
theorem dX2_couplesHeard_13 : decode cX2_couplesHeard 13 = .ok (.istore 6, 2) := by decide +kernel
theorem dX2_couplesHeard_15 : decode cX2_couplesHeard 15 = .ok (.iload 6, 2) := by decide +kernel
theorem dX2_couplesHeard_17 : decode cX2_couplesHeard 17 = .ok (.aload_n 1, 1) := by decide +kernel
theorem dX2_couplesHeard_18 : decode cX2_couplesHeard 18 = .ok (.getfield 24, 3) := by decide +kernel
theorem dX2_couplesHeard_21 : decode cX2_couplesHeard 21 = .ok (.if_icmp .ge 59, 3) := by decide +kernel
theorem dX2_couplesHeard_24 : decode cX2_couplesHeard 24 = .ok (.iconst 0, 1) := by decide +kernel
theorem dX2_couplesHeard_25 : decode cX2_couplesHeard 25 = .ok (.istore 7, 2) := by decide +kernel
theorem dX2_couplesHeard_27 : decode cX2_couplesHeard 27 = .ok (.iload 7, 2) := by decide +kernel
theorem dX2_couplesHeard_29 : decode cX2_couplesHeard 29 = .ok (.iload 6, 2) := by decide +kernel
theorem dX2_couplesHeard_31 : decode cX2_couplesHeard 31 = .ok (.if_icmp .ge 43, 3) := by decide +kernel
theorem dX2_couplesHeard_34 : decode cX2_couplesHeard 34 = .ok (.iload 5, 2) := by decide +kernel
theorem dX2_couplesHeard_36 : decode cX2_couplesHeard 36 = .ok (.iload 6, 2) := by decide +kernel
theorem dX2_couplesHeard_38 : decode cX2_couplesHeard 38 = .ok (.ishr, 1) := by decide +kernel
theorem dX2_couplesHeard_39 : decode cX2_couplesHeard 39 = .ok (.iload 5, 2) := by decide +kernel
theorem dX2_couplesHeard_41 : decode cX2_couplesHeard 41 = .ok (.iload 7, 2) := by decide +kernel
theorem dX2_couplesHeard_43 : decode cX2_couplesHeard 43 = .ok (.ishr, 1) := by decide +kernel
theorem dX2_couplesHeard_44 : decode cX2_couplesHeard 44 = .ok (.iand, 1) := by decide +kernel
theorem dX2_couplesHeard_45 : decode cX2_couplesHeard 45 = .ok (.iconst 1, 1) := by decide +kernel
theorem dX2_couplesHeard_46 : decode cX2_couplesHeard 46 = .ok (.iand, 1) := by decide +kernel
theorem dX2_couplesHeard_47 : decode cX2_couplesHeard 47 = .ok (.iconst 1, 1) := by decide +kernel
theorem dX2_couplesHeard_48 : decode cX2_couplesHeard 48 = .ok (.if_icmp .ne 20, 3) := by decide +kernel
theorem dX2_couplesHeard_51 : decode cX2_couplesHeard 51 = .ok (.aload_n 0, 1) := by decide +kernel
theorem dX2_couplesHeard_52 : decode cX2_couplesHeard 52 = .ok (.aload_n 1, 1) := by decide +kernel
theorem dX2_couplesHeard_53 : decode cX2_couplesHeard 53 = .ok (.iload_n 2, 1) := by decide +kernel
theorem dX2_couplesHeard_54 : decode cX2_couplesHeard 54 = .ok (.iload_n 3, 1) := by decide +kernel
theorem dX2_couplesHeard_55 : decode cX2_couplesHeard 55 = .ok (.iload 6, 2) := by decide +kernel
theorem dX2_couplesHeard_57 : decode cX2_couplesHeard 57 = .ok (.iload 7, 2) := by decide +kernel
theorem dX2_couplesHeard_59 : decode cX2_couplesHeard 59 = .ok (.invokevirtual 39, 3) := by decide +kernel
theorem dX2_couplesHeard_62 : decode cX2_couplesHeard 62 = .ok (.ifCond .eq 6, 3) := by decide +kernel
theorem dX2_couplesHeard_65 : decode cX2_couplesHeard 65 = .ok (.iinc 4 1, 3) := by decide +kernel
theorem dX2_couplesHeard_68 : decode cX2_couplesHeard 68 = .ok (.iinc 7 1, 3) := by decide +kernel
theorem dX2_couplesHeard_71 : decode cX2_couplesHeard 71 = .ok (.goto (-44), 3) := by decide +kernel
theorem dX2_couplesHeard_74 : decode cX2_couplesHeard 74 = .ok (.iinc 6 1, 3) := by decide +kernel
theorem dX2_couplesHeard_77 : decode cX2_couplesHeard 77 = .ok (.goto (-62), 3) := by decide +kernel
theorem dX2_couplesHeard_80 : decode cX2_couplesHeard 80 = .ok (.iload 4, 2) := by decide +kernel
theorem dX2_couplesHeard_82 : decode cX2_couplesHeard 82 = .ok (.ireturn, 1) := by decide +kernel
theorem dX2_wordsHeard_0 : decode cX2_wordsHeard 0 = .ok (.lconst 0, 1) := by decide +kernel
theorem dX2_wordsHeard_1 : decode cX2_wordsHeard 1 = .ok (.lstore_n 3, 1) := by decide +kernel
theorem dX2_wordsHeard_2 : decode cX2_wordsHeard 2 = .ok (.aload_n 1, 1) := by decide +kernel
theorem dX2_wordsHeard_3 : decode cX2_wordsHeard 3 = .ok (.getfield 32, 3) := by decide +kernel
theorem dX2_wordsHeard_6 : decode cX2_wordsHeard 6 = .ok (.iconst 1, 1) := by decide +kernel
theorem dX2_wordsHeard_7 : decode cX2_wordsHeard 7 = .ok (.iload_n 2, 1) := by decide +kernel
theorem dX2_wordsHeard_8 : decode cX2_wordsHeard 8 = .ok (.ishl, 1) := by decide +kernel
theorem dX2_wordsHeard_9 : decode cX2_wordsHeard 9 = .ok (.iconst (-1), 1) := by decide +kernel
theorem dX2_wordsHeard_10 : decode cX2_wordsHeard 10 = .ok (.ixor, 1) := by decide +kernel
theorem dX2_wordsHeard_11 : decode cX2_wordsHeard 11 = .ok (.iand, 1) := by decide +kernel
theorem dX2_wordsHeard_12 : decode cX2_wordsHeard 12 = .ok (.istore 5, 2) := by decide +kernel
theorem dX2_wordsHeard_14 : decode cX2_wordsHeard 14 = .ok (.iconst 0, 1) := by decide +kernel
theorem dX2_wordsHeard_15 : decode cX2_wordsHeard 15 = .ok (.istore 6, 2) := by decide +kernel
theorem dX2_wordsHeard_17 : decode cX2_wordsHeard 17 = .ok (.iload 6, 2) := by decide +kernel
theorem dX2_wordsHeard_19 : decode cX2_wordsHeard 19 = .ok (.aload_n 1, 1) := by decide +kernel
theorem dX2_wordsHeard_20 : decode cX2_wordsHeard 20 = .ok (.getfield 24, 3) := by decide +kernel
theorem dX2_wordsHeard_23 : decode cX2_wordsHeard 23 = .ok (.if_icmp .ge 72, 3) := by decide +kernel
theorem dX2_wordsHeard_26 : decode cX2_wordsHeard 26 = .ok (.iconst 0, 1) := by decide +kernel
theorem dX2_wordsHeard_27 : decode cX2_wordsHeard 27 = .ok (.istore 7, 2) := by decide +kernel
theorem dX2_wordsHeard_29 : decode cX2_wordsHeard 29 = .ok (.iload 7, 2) := by decide +kernel
theorem dX2_wordsHeard_31 : decode cX2_wordsHeard 31 = .ok (.iload 6, 2) := by decide +kernel
theorem dX2_wordsHeard_33 : decode cX2_wordsHeard 33 = .ok (.if_icmp .ge 56, 3) := by decide +kernel
theorem dX2_wordsHeard_36 : decode cX2_wordsHeard 36 = .ok (.iload 5, 2) := by decide +kernel
theorem dX2_wordsHeard_38 : decode cX2_wordsHeard 38 = .ok (.iload 6, 2) := by decide +kernel
theorem dX2_wordsHeard_40 : decode cX2_wordsHeard 40 = .ok (.ishr, 1) := by decide +kernel
theorem dX2_wordsHeard_41 : decode cX2_wordsHeard 41 = .ok (.iload 5, 2) := by decide +kernel
theorem dX2_wordsHeard_43 : decode cX2_wordsHeard 43 = .ok (.iload 7, 2) := by decide +kernel
theorem dX2_wordsHeard_45 : decode cX2_wordsHeard 45 = .ok (.ishr, 1) := by decide +kernel
theorem dX2_wordsHeard_46 : decode cX2_wordsHeard 46 = .ok (.iand, 1) := by decide +kernel
theorem dX2_wordsHeard_47 : decode cX2_wordsHeard 47 = .ok (.iconst 1, 1) := by decide +kernel
theorem dX2_wordsHeard_48 : decode cX2_wordsHeard 48 = .ok (.iand, 1) := by decide +kernel
theorem dX2_wordsHeard_49 : decode cX2_wordsHeard 49 = .ok (.iconst 1, 1) := by decide +kernel
theorem dX2_wordsHeard_50 : decode cX2_wordsHeard 50 = .ok (.if_icmp .ne 33, 3) := by decide +kernel
theorem dX2_wordsHeard_53 : decode cX2_wordsHeard 53 = .ok (.aload_n 0, 1) := by decide +kernel
theorem dX2_wordsHeard_54 : decode cX2_wordsHeard 54 = .ok (.aload_n 1, 1) := by decide +kernel
theorem dX2_wordsHeard_55 : decode cX2_wordsHeard 55 = .ok (.iload_n 2, 1) := by decide +kernel
theorem dX2_wordsHeard_56 : decode cX2_wordsHeard 56 = .ok (.aload_n 1, 1) := by decide +kernel
theorem dX2_wordsHeard_57 : decode cX2_wordsHeard 57 = .ok (.getfield 32, 3) := by decide +kernel
theorem dX2_wordsHeard_60 : decode cX2_wordsHeard 60 = .ok (.iload 6, 2) := by decide +kernel
theorem dX2_wordsHeard_62 : decode cX2_wordsHeard 62 = .ok (.iload 7, 2) := by decide +kernel
theorem dX2_wordsHeard_64 : decode cX2_wordsHeard 64 = .ok (.invokevirtual 39, 3) := by decide +kernel
theorem dX2_wordsHeard_67 : decode cX2_wordsHeard 67 = .ok (.ifCond .eq 16, 3) := by decide +kernel
theorem dX2_wordsHeard_70 : decode cX2_wordsHeard 70 = .ok (.lload_n 3, 1) := by decide +kernel
theorem dX2_wordsHeard_71 : decode cX2_wordsHeard 71 = .ok (.lconst 1, 1) := by decide +kernel
theorem dX2_wordsHeard_72 : decode cX2_wordsHeard 72 = .ok (.aload_n 1, 1) := by decide +kernel
theorem dX2_wordsHeard_73 : decode cX2_wordsHeard 73 = .ok (.iload 6, 2) := by decide +kernel
theorem dX2_wordsHeard_75 : decode cX2_wordsHeard 75 = .ok (.iload 7, 2) := by decide +kernel
theorem dX2_wordsHeard_77 : decode cX2_wordsHeard 77 = .ok (.invokevirtual 43, 3) := by decide +kernel
theorem dX2_wordsHeard_80 : decode cX2_wordsHeard 80 = .ok (.lshl, 1) := by decide +kernel
theorem dX2_wordsHeard_81 : decode cX2_wordsHeard 81 = .ok (.lor, 1) := by decide +kernel
theorem dX2_wordsHeard_82 : decode cX2_wordsHeard 82 = .ok (.lstore_n 3, 1) := by decide +kernel
theorem dX2_wordsHeard_83 : decode cX2_wordsHeard 83 = .ok (.iinc 7 1, 3) := by decide +kernel
theorem dX2_wordsHeard_86 : decode cX2_wordsHeard 86 = .ok (.goto (-57), 3) := by decide +kernel
theorem dX2_wordsHeard_89 : decode cX2_wordsHeard 89 = .ok (.iinc 6 1, 3) := by decide +kernel
theorem dX2_wordsHeard_92 : decode cX2_wordsHeard 92 = .ok (.goto (-75), 3) := by decide +kernel
theorem dX2_wordsHeard_95 : decode cX2_wordsHeard 95 = .ok (.lload_n 3, 1) := by decide +kernel
theorem dX2_wordsHeard_96 : decode cX2_wordsHeard 96 = .ok (.invokestatic 47, 3) := by decide +kernel
theorem dX2_wordsHeard_99 : decode cX2_wordsHeard 99 = .ok (.ireturn, 1) := by decide +kernel
theorem dX2_hearsNow_0 : decode cX2_hearsNow 0 = .ok (.aload_n 0, 1) := by decide +kernel
theorem dX2_hearsNow_1 : decode cX2_hearsNow 1 = .ok (.aload_n 1, 1) := by decide +kernel
theorem dX2_hearsNow_2 : decode cX2_hearsNow 2 = .ok (.iload 4, 2) := by decide +kernel
theorem dX2_hearsNow_4 : decode cX2_hearsNow 4 = .ok (.iload 5, 2) := by decide +kernel
theorem dX2_hearsNow_6 : decode cX2_hearsNow 6 = .ok (.aload_n 1, 1) := by decide +kernel
theorem dX2_hearsNow_7 : decode cX2_hearsNow 7 = .ok (.getfield 15, 3) := by decide +kernel
theorem dX2_hearsNow_10 : decode cX2_hearsNow 10 = .ok (.iload 4, 2) := by decide +kernel
theorem dX2_hearsNow_12 : decode cX2_hearsNow 12 = .ok (.iaload, 1) := by decide +kernel
theorem dX2_hearsNow_13 : decode cX2_hearsNow 13 = .ok (.aload_n 1, 1) := by decide +kernel
theorem dX2_hearsNow_14 : decode cX2_hearsNow 14 = .ok (.getfield 15, 3) := by decide +kernel
theorem dX2_hearsNow_17 : decode cX2_hearsNow 17 = .ok (.iload 5, 2) := by decide +kernel
theorem dX2_hearsNow_19 : decode cX2_hearsNow 19 = .ok (.iaload, 1) := by decide +kernel
theorem dX2_hearsNow_20 : decode cX2_hearsNow 20 = .ok (.invokevirtual 20, 3) := by decide +kernel
theorem dX2_hearsNow_23 : decode cX2_hearsNow 23 = .ok (.aload_n 0, 1) := by decide +kernel
theorem dX2_hearsNow_24 : decode cX2_hearsNow 24 = .ok (.aload_n 1, 1) := by decide +kernel
theorem dX2_hearsNow_25 : decode cX2_hearsNow 25 = .ok (.iload_n 2, 1) := by decide +kernel
theorem dX2_hearsNow_26 : decode cX2_hearsNow 26 = .ok (.iload_n 3, 1) := by decide +kernel
theorem dX2_hearsNow_27 : decode cX2_hearsNow 27 = .ok (.invokevirtual 35, 3) := by decide +kernel
theorem dX2_hearsNow_30 : decode cX2_hearsNow 30 = .ok (.ireturn, 1) := by decide +kernel
theorem dX2_attend_0 : decode cX2_attend 0 = .ok (.aload_n 0, 1) := by decide +kernel
theorem dX2_attend_1 : decode cX2_attend 1 = .ok (.iload 4, 2) := by decide +kernel
theorem dX2_attend_3 : decode cX2_attend 3 = .ok (.iload 5, 2) := by decide +kernel
theorem dX2_attend_5 : decode cX2_attend 5 = .ok (.invokestatic 53, 3) := by decide +kernel
theorem dX2_attend_8 : decode cX2_attend 8 = .ok (.putfield 58, 3) := by decide +kernel
theorem dX2_attend_11 : decode cX2_attend 11 = .ok (.aload_n 0, 1) := by decide +kernel
theorem dX2_attend_12 : decode cX2_attend 12 = .ok (.iload 4, 2) := by decide +kernel
theorem dX2_attend_14 : decode cX2_attend 14 = .ok (.iload 5, 2) := by decide +kernel
theorem dX2_attend_16 : decode cX2_attend 16 = .ok (.invokestatic 61, 3) := by decide +kernel
theorem dX2_attend_19 : decode cX2_attend 19 = .ok (.putfield 64, 3) := by decide +kernel
theorem dX2_attend_22 : decode cX2_attend 22 = .ok (.aload_n 0, 1) := by decide +kernel
theorem dX2_attend_23 : decode cX2_attend 23 = .ok (.iconst 1, 1) := by decide +kernel
theorem dX2_attend_24 : decode cX2_attend 24 = .ok (.iload_n 2, 1) := by decide +kernel
theorem dX2_attend_25 : decode cX2_attend 25 = .ok (.ishl, 1) := by decide +kernel
theorem dX2_attend_26 : decode cX2_attend 26 = .ok (.iconst 1, 1) := by decide +kernel
theorem dX2_attend_27 : decode cX2_attend 27 = .ok (.iload_n 3, 1) := by decide +kernel
theorem dX2_attend_28 : decode cX2_attend 28 = .ok (.ishl, 1) := by decide +kernel
theorem dX2_attend_29 : decode cX2_attend 29 = .ok (.ior, 1) := by decide +kernel
theorem dX2_attend_30 : decode cX2_attend 30 = .ok (.putfield 67, 3) := by decide +kernel
theorem dX2_attend_33 : decode cX2_attend 33 = .ok (.aload_n 0, 1) := by decide +kernel
theorem dX2_attend_34 : decode cX2_attend 34 = .ok (.aload_n 1, 1) := by decide +kernel
theorem dX2_attend_35 : decode cX2_attend 35 = .ok (.getfield 70, 3) := by decide +kernel
theorem dX2_attend_38 : decode cX2_attend 38 = .ok (.iload_n 2, 1) := by decide +kernel
theorem dX2_attend_39 : decode cX2_attend 39 = .ok (.iaload, 1) := by decide +kernel
theorem dX2_attend_40 : decode cX2_attend 40 = .ok (.aload_n 1, 1) := by decide +kernel
theorem dX2_attend_41 : decode cX2_attend 41 = .ok (.getfield 70, 3) := by decide +kernel
theorem dX2_attend_44 : decode cX2_attend 44 = .ok (.iload_n 3, 1) := by decide +kernel
theorem dX2_attend_45 : decode cX2_attend 45 = .ok (.iaload, 1) := by decide +kernel
theorem dX2_attend_46 : decode cX2_attend 46 = .ok (.iadd, 1) := by decide +kernel
theorem dX2_attend_47 : decode cX2_attend 47 = .ok (.putfield 73, 3) := by decide +kernel
theorem dX2_attend_50 : decode cX2_attend 50 = .ok (.aload_n 0, 1) := by decide +kernel
theorem dX2_attend_51 : decode cX2_attend 51 = .ok (.aload_n 1, 1) := by decide +kernel
theorem dX2_attend_52 : decode cX2_attend 52 = .ok (.getfield 76, 3) := by decide +kernel
theorem dX2_attend_55 : decode cX2_attend 55 = .ok (.putfield 79, 3) := by decide +kernel
theorem dX2_attend_58 : decode cX2_attend 58 = .ok (.return_, 1) := by decide +kernel
theorem dX2_isSinger_0 : decode cX2_isSinger 0 = .ok (.aload_n 0, 1) := by decide +kernel
theorem dX2_isSinger_1 : decode cX2_isSinger 1 = .ok (.getfield 67, 3) := by decide +kernel
theorem dX2_isSinger_4 : decode cX2_isSinger 4 = .ok (.iload_n 1, 1) := by decide +kernel
theorem dX2_isSinger_5 : decode cX2_isSinger 5 = .ok (.ishr, 1) := by decide +kernel
theorem dX2_isSinger_6 : decode cX2_isSinger 6 = .ok (.iconst 1, 1) := by decide +kernel
theorem dX2_isSinger_7 : decode cX2_isSinger 7 = .ok (.iand, 1) := by decide +kernel
theorem dX2_isSinger_8 : decode cX2_isSinger 8 = .ok (.iconst 1, 1) := by decide +kernel
theorem dX2_isSinger_9 : decode cX2_isSinger 9 = .ok (.if_icmp .ne 7, 3) := by decide +kernel
theorem dX2_isSinger_12 : decode cX2_isSinger 12 = .ok (.iconst 1, 1) := by decide +kernel
theorem dX2_isSinger_13 : decode cX2_isSinger 13 = .ok (.goto 4, 3) := by decide +kernel
theorem dX2_isSinger_16 : decode cX2_isSinger 16 = .ok (.iconst 0, 1) := by decide +kernel
theorem dX2_isSinger_17 : decode cX2_isSinger 17 = .ok (.ireturn, 1) := by decide +kernel
theorem dX2_onlyOneHears_0 : decode cX2_onlyOneHears 0 = .ok (.aload_n 0, 1) := by decide +kernel
theorem dX2_onlyOneHears_1 : decode cX2_onlyOneHears 1 = .ok (.aload_n 1, 1) := by decide +kernel
theorem dX2_onlyOneHears_2 : decode cX2_onlyOneHears 2 = .ok (.iload_n 2, 1) := by decide +kernel
theorem dX2_onlyOneHears_3 : decode cX2_onlyOneHears 3 = .ok (.aload_n 1, 1) := by decide +kernel
theorem dX2_onlyOneHears_4 : decode cX2_onlyOneHears 4 = .ok (.getfield 32, 3) := by decide +kernel
theorem dX2_onlyOneHears_7 : decode cX2_onlyOneHears 7 = .ok (.invokevirtual 35, 3) := by decide +kernel
theorem dX2_onlyOneHears_10 : decode cX2_onlyOneHears 10 = .ok (.ifCond .ne 5, 3) := by decide +kernel
theorem dX2_onlyOneHears_13 : decode cX2_onlyOneHears 13 = .ok (.iconst 0, 1) := by decide +kernel
theorem dX2_onlyOneHears_14 : decode cX2_onlyOneHears 14 = .ok (.ireturn, 1) := by decide +kernel
theorem dX2_onlyOneHears_15 : decode cX2_onlyOneHears 15 = .ok (.iconst 0, 1) := by decide +kernel
theorem dX2_onlyOneHears_16 : decode cX2_onlyOneHears 16 = .ok (.istore_n 3, 1) := by decide +kernel
theorem dX2_onlyOneHears_17 : decode cX2_onlyOneHears 17 = .ok (.iload_n 3, 1) := by decide +kernel
theorem dX2_onlyOneHears_18 : decode cX2_onlyOneHears 18 = .ok (.aload_n 1, 1) := by decide +kernel
theorem dX2_onlyOneHears_19 : decode cX2_onlyOneHears 19 = .ok (.getfield 24, 3) := by decide +kernel
theorem dX2_onlyOneHears_22 : decode cX2_onlyOneHears 22 = .ok (.if_icmp .ge 37, 3) := by decide +kernel
theorem dX2_onlyOneHears_25 : decode cX2_onlyOneHears 25 = .ok (.iload_n 3, 1) := by decide +kernel
theorem dX2_onlyOneHears_26 : decode cX2_onlyOneHears 26 = .ok (.iload_n 2, 1) := by decide +kernel
theorem dX2_onlyOneHears_27 : decode cX2_onlyOneHears 27 = .ok (.if_icmp .eq 26, 3) := by decide +kernel
theorem dX2_onlyOneHears_30 : decode cX2_onlyOneHears 30 = .ok (.aload_n 0, 1) := by decide +kernel
theorem dX2_onlyOneHears_31 : decode cX2_onlyOneHears 31 = .ok (.iload_n 3, 1) := by decide +kernel
theorem dX2_onlyOneHears_32 : decode cX2_onlyOneHears 32 = .ok (.invokevirtual 28, 3) := by decide +kernel
theorem dX2_onlyOneHears_35 : decode cX2_onlyOneHears 35 = .ok (.ifCond .ne 18, 3) := by decide +kernel
theorem dX2_onlyOneHears_38 : decode cX2_onlyOneHears 38 = .ok (.aload_n 0, 1) := by decide +kernel
theorem dX2_onlyOneHears_39 : decode cX2_onlyOneHears 39 = .ok (.aload_n 1, 1) := by decide +kernel
theorem dX2_onlyOneHears_40 : decode cX2_onlyOneHears 40 = .ok (.iload_n 3, 1) := by decide +kernel
theorem dX2_onlyOneHears_41 : decode cX2_onlyOneHears 41 = .ok (.aload_n 1, 1) := by decide +kernel
theorem dX2_onlyOneHears_42 : decode cX2_onlyOneHears 42 = .ok (.getfield 32, 3) := by decide +kernel
theorem dX2_onlyOneHears_45 : decode cX2_onlyOneHears 45 = .ok (.invokevirtual 35, 3) := by decide +kernel
theorem dX2_onlyOneHears_48 : decode cX2_onlyOneHears 48 = .ok (.ifCond .eq 5, 3) := by decide +kernel
theorem dX2_onlyOneHears_51 : decode cX2_onlyOneHears 51 = .ok (.iconst 0, 1) := by decide +kernel
theorem dX2_onlyOneHears_52 : decode cX2_onlyOneHears 52 = .ok (.ireturn, 1) := by decide +kernel
theorem dX2_onlyOneHears_53 : decode cX2_onlyOneHears 53 = .ok (.iinc 3 1, 3) := by decide +kernel
theorem dX2_onlyOneHears_56 : decode cX2_onlyOneHears 56 = .ok (.goto (-39), 3) := by decide +kernel
theorem dX2_onlyOneHears_59 : decode cX2_onlyOneHears 59 = .ok (.iconst 1, 1) := by decide +kernel
theorem dX2_onlyOneHears_60 : decode cX2_onlyOneHears 60 = .ok (.ireturn, 1) := by decide +kernel
theorem dX2_hearsThem_0 : decode cX2_hearsThem 0 = .ok (.aload_n 1, 1) := by decide +kernel
theorem dX2_hearsThem_1 : decode cX2_hearsThem 1 = .ok (.iload_n 2, 1) := by decide +kernel
theorem dX2_hearsThem_2 : decode cX2_hearsThem 2 = .ok (.invokevirtual 82, 3) := by decide +kernel
theorem dX2_hearsThem_5 : decode cX2_hearsThem 5 = .ok (.ifCond .ne 5, 3) := by decide +kernel
theorem dX2_hearsThem_8 : decode cX2_hearsThem 8 = .ok (.iconst 0, 1) := by decide +kernel
theorem dX2_hearsThem_9 : decode cX2_hearsThem 9 = .ok (.ireturn, 1) := by decide +kernel
theorem dX2_hearsThem_10 : decode cX2_hearsThem 10 = .ok (.aload_n 0, 1) := by decide +kernel
theorem dX2_hearsThem_11 : decode cX2_hearsThem 11 = .ok (.iload_n 2, 1) := by decide +kernel
theorem dX2_hearsThem_12 : decode cX2_hearsThem 12 = .ok (.putfield 85, 3) := by decide +kernel
theorem dX2_hearsThem_15 : decode cX2_hearsThem 15 = .ok (.aload_n 0, 1) := by decide +kernel
theorem dX2_hearsThem_16 : decode cX2_hearsThem 16 = .ok (.aload_n 1, 1) := by decide +kernel
theorem dX2_hearsThem_17 : decode cX2_hearsThem 17 = .ok (.getfield 15, 3) := by decide +kernel
theorem dX2_hearsThem_20 : decode cX2_hearsThem 20 = .ok (.iload_n 2, 1) := by decide +kernel
theorem dX2_hearsThem_21 : decode cX2_hearsThem 21 = .ok (.iaload, 1) := by decide +kernel
theorem dX2_hearsThem_22 : decode cX2_hearsThem 22 = .ok (.putfield 88, 3) := by decide +kernel
theorem dX2_hearsThem_25 : decode cX2_hearsThem 25 = .ok (.aload_n 0, 1) := by decide +kernel
theorem dX2_hearsThem_26 : decode cX2_hearsThem 26 = .ok (.iload_n 3, 1) := by decide +kernel
theorem dX2_hearsThem_27 : decode cX2_hearsThem 27 = .ok (.aload_n 0, 1) := by decide +kernel
theorem dX2_hearsThem_28 : decode cX2_hearsThem 28 = .ok (.getfield 67, 3) := by decide +kernel
theorem dX2_hearsThem_31 : decode cX2_hearsThem 31 = .ok (.iconst 1, 1) := by decide +kernel
theorem dX2_hearsThem_32 : decode cX2_hearsThem 32 = .ok (.iload_n 2, 1) := by decide +kernel
theorem dX2_hearsThem_33 : decode cX2_hearsThem 33 = .ok (.ishl, 1) := by decide +kernel
theorem dX2_hearsThem_34 : decode cX2_hearsThem 34 = .ok (.ior, 1) := by decide +kernel
theorem dX2_hearsThem_35 : decode cX2_hearsThem 35 = .ok (.iconst (-1), 1) := by decide +kernel
theorem dX2_hearsThem_36 : decode cX2_hearsThem 36 = .ok (.ixor, 1) := by decide +kernel
theorem dX2_hearsThem_37 : decode cX2_hearsThem 37 = .ok (.iand, 1) := by decide +kernel
theorem dX2_hearsThem_38 : decode cX2_hearsThem 38 = .ok (.invokestatic 91, 3) := by decide +kernel
theorem dX2_hearsThem_41 : decode cX2_hearsThem 41 = .ok (.putfield 96, 3) := by decide +kernel
theorem dX2_hearsThem_44 : decode cX2_hearsThem 44 = .ok (.aload_n 1, 1) := by decide +kernel
theorem dX2_hearsThem_45 : decode cX2_hearsThem 45 = .ok (.getfield 99, 3) := by decide +kernel
theorem dX2_hearsThem_48 : decode cX2_hearsThem 48 = .ok (.astore 4, 2) := by decide +kernel
theorem dX2_hearsThem_50 : decode cX2_hearsThem 50 = .ok (.iconst 0, 1) := by decide +kernel
theorem dX2_hearsThem_51 : decode cX2_hearsThem 51 = .ok (.istore 5, 2) := by decide +kernel
theorem dX2_hearsThem_53 : decode cX2_hearsThem 53 = .ok (.iconst 0, 1) := by decide +kernel
theorem dX2_hearsThem_54 : decode cX2_hearsThem 54 = .ok (.istore 6, 2) := by decide +kernel
theorem dX2_hearsThem_56 : decode cX2_hearsThem 56 = .ok (.iload 6, 2) := by decide +kernel
theorem dX2_hearsThem_58 : decode cX2_hearsThem 58 = .ok (.aload 4, 2) := by decide +kernel
theorem dX2_hearsThem_60 : decode cX2_hearsThem 60 = .ok (.getfield 103, 3) := by decide +kernel
theorem dX2_hearsThem_63 : decode cX2_hearsThem 63 = .ok (.if_icmp .ge 58, 3) := by decide +kernel
theorem dX2_hearsThem_66 : decode cX2_hearsThem 66 = .ok (.aload_n 0, 1) := by decide +kernel
theorem dX2_hearsThem_67 : decode cX2_hearsThem 67 = .ok (.aload 4, 2) := by decide +kernel
theorem dX2_hearsThem_69 : decode cX2_hearsThem 69 = .ok (.iload 5, 2) := by decide +kernel
theorem dX2_hearsThem_71 : decode cX2_hearsThem 71 = .ok (.aload 4, 2) := by decide +kernel
theorem dX2_hearsThem_73 : decode cX2_hearsThem 73 = .ok (.getfield 108, 3) := by decide +kernel
theorem dX2_hearsThem_76 : decode cX2_hearsThem 76 = .ok (.iload 6, 2) := by decide +kernel
theorem dX2_hearsThem_78 : decode cX2_hearsThem 78 = .ok (.iaload, 1) := by decide +kernel
theorem dX2_hearsThem_79 : decode cX2_hearsThem 79 = .ok (.invokevirtual 111, 3) := by decide +kernel
theorem dX2_hearsThem_82 : decode cX2_hearsThem 82 = .ok (.ifCond .eq 23, 3) := by decide +kernel
theorem dX2_hearsThem_85 : decode cX2_hearsThem 85 = .ok (.aload 4, 2) := by decide +kernel
theorem dX2_hearsThem_87 : decode cX2_hearsThem 87 = .ok (.getfield 115, 3) := by decide +kernel
theorem dX2_hearsThem_90 : decode cX2_hearsThem 90 = .ok (.iload 6, 2) := by decide +kernel
theorem dX2_hearsThem_92 : decode cX2_hearsThem 92 = .ok (.ishr, 1) := by decide +kernel
theorem dX2_hearsThem_93 : decode cX2_hearsThem 93 = .ok (.iconst 1, 1) := by decide +kernel
theorem dX2_hearsThem_94 : decode cX2_hearsThem 94 = .ok (.iand, 1) := by decide +kernel
theorem dX2_hearsThem_95 : decode cX2_hearsThem 95 = .ok (.iconst 1, 1) := by decide +kernel
theorem dX2_hearsThem_96 : decode cX2_hearsThem 96 = .ok (.if_icmp .ne 7, 3) := by decide +kernel
theorem dX2_hearsThem_99 : decode cX2_hearsThem 99 = .ok (.iconst 1, 1) := by decide +kernel
theorem dX2_hearsThem_100 : decode cX2_hearsThem 100 = .ok (.goto 4, 3) := by decide +kernel
theorem dX2_hearsThem_103 : decode cX2_hearsThem 103 = .ok (.iconst 0, 1) := by decide +kernel
theorem dX2_hearsThem_104 : decode cX2_hearsThem 104 = .ok (.ireturn, 1) := by decide +kernel
theorem dX2_hearsThem_105 : decode cX2_hearsThem 105 = .ok (.aload 4, 2) := by decide +kernel
theorem dX2_hearsThem_107 : decode cX2_hearsThem 107 = .ok (.getfield 108, 3) := by decide +kernel
theorem dX2_hearsThem_110 : decode cX2_hearsThem 110 = .ok (.iload 6, 2) := by decide +kernel
theorem dX2_hearsThem_112 : decode cX2_hearsThem 112 = .ok (.iaload, 1) := by decide +kernel
theorem dX2_hearsThem_113 : decode cX2_hearsThem 113 = .ok (.istore 5, 2) := by decide +kernel
theorem dX2_hearsThem_115 : decode cX2_hearsThem 115 = .ok (.iinc 6 1, 3) := by decide +kernel
theorem dX2_hearsThem_118 : decode cX2_hearsThem 118 = .ok (.goto (-62), 3) := by decide +kernel
theorem dX2_hearsThem_121 : decode cX2_hearsThem 121 = .ok (.iconst 1, 1) := by decide +kernel
theorem dX2_hearsThem_122 : decode cX2_hearsThem 122 = .ok (.ireturn, 1) := by decide +kernel
theorem dX2_isSo_0 : decode cX2_isSo 0 = .ok (.iload_n 2, 1) := by decide +kernel
theorem dX2_isSo_1 : decode cX2_isSo 1 = .ok (.iload_n 3, 1) := by decide +kernel
theorem dX2_isSo_2 : decode cX2_isSo 2 = .ok (.if_icmp .lt 5, 3) := by decide +kernel
theorem dX2_isSo_5 : decode cX2_isSo 5 = .ok (.iconst 1, 1) := by decide +kernel
theorem dX2_isSo_6 : decode cX2_isSo 6 = .ok (.ireturn, 1) := by decide +kernel
theorem dX2_isSo_7 : decode cX2_isSo 7 = .ok (.aload_n 0, 1) := by decide +kernel
theorem dX2_isSo_8 : decode cX2_isSo 8 = .ok (.iconst 0, 1) := by decide +kernel
theorem dX2_isSo_9 : decode cX2_isSo 9 = .ok (.putfield 118, 3) := by decide +kernel
theorem dX2_isSo_12 : decode cX2_isSo 12 = .ok (.iload_n 2, 1) := by decide +kernel
theorem dX2_isSo_13 : decode cX2_isSo 13 = .ok (.istore 4, 2) := by decide +kernel
theorem dX2_isSo_15 : decode cX2_isSo 15 = .ok (.iload 4, 2) := by decide +kernel
theorem dX2_isSo_17 : decode cX2_isSo 17 = .ok (.iload_n 3, 1) := by decide +kernel
theorem dX2_isSo_18 : decode cX2_isSo 18 = .ok (.if_icmp .ge 97, 3) := by decide +kernel
theorem dX2_isSo_21 : decode cX2_isSo 21 = .ok (.aload_n 1, 1) := by decide +kernel
theorem dX2_isSo_22 : decode cX2_isSo 22 = .ok (.getfield 121, 3) := by decide +kernel
theorem dX2_isSo_25 : decode cX2_isSo 25 = .ok (.iload 4, 2) := by decide +kernel
theorem dX2_isSo_27 : decode cX2_isSo 27 = .ok (.iaload, 1) := by decide +kernel
theorem dX2_isSo_28 : decode cX2_isSo 28 = .ok (.istore 5, 2) := by decide +kernel
theorem dX2_isSo_30 : decode cX2_isSo 30 = .ok (.iload 5, 2) := by decide +kernel
theorem dX2_isSo_32 : decode cX2_isSo 32 = .ok (.ifCond .lt 12, 3) := by decide +kernel
theorem dX2_isSo_35 : decode cX2_isSo 35 = .ok (.aload_n 0, 1) := by decide +kernel
theorem dX2_isSo_36 : decode cX2_isSo 36 = .ok (.iload 5, 2) := by decide +kernel
theorem dX2_isSo_38 : decode cX2_isSo 38 = .ok (.invokevirtual 124, 3) := by decide +kernel
theorem dX2_isSo_41 : decode cX2_isSo 41 = .ok (.goto 68, 3) := by decide +kernel
theorem dX2_isSo_44 : decode cX2_isSo 44 = .ok (.iload 5, 2) := by decide +kernel
theorem dX2_isSo_46 : decode cX2_isSo 46 = .ok (.sipush (-206), 3) := by decide +kernel
theorem dX2_isSo_49 : decode cX2_isSo 49 = .ok (.if_icmp .gt 17, 3) := by decide +kernel
theorem dX2_isSo_52 : decode cX2_isSo 52 = .ok (.aload_n 0, 1) := by decide +kernel
theorem dX2_isSo_53 : decode cX2_isSo 53 = .ok (.aload_n 0, 1) := by decide +kernel
theorem dX2_isSo_54 : decode cX2_isSo 54 = .ok (.iload 5, 2) := by decide +kernel
theorem dX2_isSo_56 : decode cX2_isSo 56 = .ok (.ineg, 1) := by decide +kernel
theorem dX2_isSo_57 : decode cX2_isSo 57 = .ok (.invokevirtual 128, 3) := by decide +kernel
theorem dX2_isSo_60 : decode cX2_isSo 60 = .ok (.invokevirtual 124, 3) := by decide +kernel
theorem dX2_isSo_63 : decode cX2_isSo 63 = .ok (.goto 46, 3) := by decide +kernel
theorem dX2_isSo_66 : decode cX2_isSo 66 = .ok (.iload 5, 2) := by decide +kernel
theorem dX2_isSo_68 : decode cX2_isSo 68 = .ok (.sipush (-205), 3) := by decide +kernel
theorem dX2_isSo_71 : decode cX2_isSo 71 = .ok (.if_icmp .ne 16, 3) := by decide +kernel
theorem dX2_isSo_74 : decode cX2_isSo 74 = .ok (.aload_n 0, 1) := by decide +kernel
theorem dX2_isSo_75 : decode cX2_isSo 75 = .ok (.iconst 1, 1) := by decide +kernel
theorem dX2_isSo_76 : decode cX2_isSo 76 = .ok (.aload_n 0, 1) := by decide +kernel
theorem dX2_isSo_77 : decode cX2_isSo 77 = .ok (.invokevirtual 131, 3) := by decide +kernel
theorem dX2_isSo_80 : decode cX2_isSo 80 = .ok (.isub, 1) := by decide +kernel
theorem dX2_isSo_81 : decode cX2_isSo 81 = .ok (.invokevirtual 124, 3) := by decide +kernel
theorem dX2_isSo_84 : decode cX2_isSo 84 = .ok (.goto 25, 3) := by decide +kernel
theorem dX2_isSo_87 : decode cX2_isSo 87 = .ok (.aload_n 0, 1) := by decide +kernel
theorem dX2_isSo_88 : decode cX2_isSo 88 = .ok (.invokevirtual 131, 3) := by decide +kernel
theorem dX2_isSo_91 : decode cX2_isSo 91 = .ok (.istore 6, 2) := by decide +kernel
theorem dX2_isSo_93 : decode cX2_isSo 93 = .ok (.aload_n 0, 1) := by decide +kernel
theorem dX2_isSo_94 : decode cX2_isSo 94 = .ok (.iload 5, 2) := by decide +kernel
theorem dX2_isSo_96 : decode cX2_isSo 96 = .ok (.ineg, 1) := by decide +kernel
theorem dX2_isSo_97 : decode cX2_isSo 97 = .ok (.aload_n 0, 1) := by decide +kernel
theorem dX2_isSo_98 : decode cX2_isSo 98 = .ok (.invokevirtual 131, 3) := by decide +kernel
theorem dX2_isSo_101 : decode cX2_isSo 101 = .ok (.iload 6, 2) := by decide +kernel
theorem dX2_isSo_103 : decode cX2_isSo 103 = .ok (.invokestatic 135, 3) := by decide +kernel
theorem dX2_isSo_106 : decode cX2_isSo 106 = .ok (.invokevirtual 124, 3) := by decide +kernel
theorem dX2_isSo_109 : decode cX2_isSo 109 = .ok (.iinc 4 1, 3) := by decide +kernel
theorem dX2_isSo_112 : decode cX2_isSo 112 = .ok (.goto (-97), 3) := by decide +kernel
theorem dX2_isSo_115 : decode cX2_isSo 115 = .ok (.aload_n 0, 1) := by decide +kernel
theorem dX2_isSo_116 : decode cX2_isSo 116 = .ok (.invokevirtual 131, 3) := by decide +kernel
theorem dX2_isSo_119 : decode cX2_isSo 119 = .ok (.iconst 1, 1) := by decide +kernel
theorem dX2_isSo_120 : decode cX2_isSo 120 = .ok (.if_icmp .ne 7, 3) := by decide +kernel
theorem dX2_isSo_123 : decode cX2_isSo 123 = .ok (.iconst 1, 1) := by decide +kernel
theorem dX2_isSo_124 : decode cX2_isSo 124 = .ok (.goto 4, 3) := by decide +kernel
theorem dX2_isSo_127 : decode cX2_isSo 127 = .ok (.iconst 0, 1) := by decide +kernel
theorem dX2_isSo_128 : decode cX2_isSo 128 = .ok (.ireturn, 1) := by decide +kernel
theorem dX2_push_0 : decode cX2_push 0 = .ok (.aload_n 0, 1) := by decide +kernel
theorem dX2_push_1 : decode cX2_push 1 = .ok (.getfield 118, 3) := by decide +kernel
theorem dX2_push_4 : decode cX2_push 4 = .ok (.bipush 32, 2) := by decide +kernel
theorem dX2_push_6 : decode cX2_push 6 = .ok (.if_icmp .ge 23, 3) := by decide +kernel
theorem dX2_push_9 : decode cX2_push 9 = .ok (.aload_n 0, 1) := by decide +kernel
theorem dX2_push_10 : decode cX2_push 10 = .ok (.getfield 11, 3) := by decide +kernel
theorem dX2_push_13 : decode cX2_push 13 = .ok (.aload_n 0, 1) := by decide +kernel
theorem dX2_push_14 : decode cX2_push 14 = .ok (.getfield 118, 3) := by decide +kernel
theorem dX2_push_17 : decode cX2_push 17 = .ok (.iload_n 1, 1) := by decide +kernel
theorem dX2_push_18 : decode cX2_push 18 = .ok (.iastore, 1) := by decide +kernel
theorem dX2_push_19 : decode cX2_push 19 = .ok (.aload_n 0, 1) := by decide +kernel
theorem dX2_push_20 : decode cX2_push 20 = .ok (.dup, 1) := by decide +kernel
theorem dX2_push_21 : decode cX2_push 21 = .ok (.getfield 118, 3) := by decide +kernel
theorem dX2_push_24 : decode cX2_push 24 = .ok (.iconst 1, 1) := by decide +kernel
theorem dX2_push_25 : decode cX2_push 25 = .ok (.iadd, 1) := by decide +kernel
theorem dX2_push_26 : decode cX2_push 26 = .ok (.putfield 118, 3) := by decide +kernel
theorem dX2_push_29 : decode cX2_push 29 = .ok (.return_, 1) := by decide +kernel
theorem dX2_pop_0 : decode cX2_pop 0 = .ok (.aload_n 0, 1) := by decide +kernel
theorem dX2_pop_1 : decode cX2_pop 1 = .ok (.getfield 118, 3) := by decide +kernel
theorem dX2_pop_4 : decode cX2_pop 4 = .ok (.ifCond .gt 5, 3) := by decide +kernel
theorem dX2_pop_7 : decode cX2_pop 7 = .ok (.iconst 0, 1) := by decide +kernel
theorem dX2_pop_8 : decode cX2_pop 8 = .ok (.ireturn, 1) := by decide +kernel
theorem dX2_pop_9 : decode cX2_pop 9 = .ok (.aload_n 0, 1) := by decide +kernel
theorem dX2_pop_10 : decode cX2_pop 10 = .ok (.dup, 1) := by decide +kernel
theorem dX2_pop_11 : decode cX2_pop 11 = .ok (.getfield 118, 3) := by decide +kernel
theorem dX2_pop_14 : decode cX2_pop 14 = .ok (.iconst 1, 1) := by decide +kernel
theorem dX2_pop_15 : decode cX2_pop 15 = .ok (.isub, 1) := by decide +kernel
theorem dX2_pop_16 : decode cX2_pop 16 = .ok (.putfield 118, 3) := by decide +kernel
theorem dX2_pop_19 : decode cX2_pop 19 = .ok (.aload_n 0, 1) := by decide +kernel
theorem dX2_pop_20 : decode cX2_pop 20 = .ok (.getfield 11, 3) := by decide +kernel
theorem dX2_pop_23 : decode cX2_pop 23 = .ok (.aload_n 0, 1) := by decide +kernel
theorem dX2_pop_24 : decode cX2_pop 24 = .ok (.getfield 118, 3) := by decide +kernel
theorem dX2_pop_27 : decode cX2_pop 27 = .ok (.iaload, 1) := by decide +kernel
theorem dX2_pop_28 : decode cX2_pop 28 = .ok (.ireturn, 1) := by decide +kernel
theorem dX2_valueOf_0 : decode cX2_valueOf 0 = .ok (.iload_n 1, 1) := by decide +kernel
theorem dX2_valueOf_1 : decode cX2_valueOf 1 = .ok (.tableswitch 124 206 214 #[51, 56, 61, 71, 76, 104, 109, 114, 119], 51) := by decide +kernel
theorem dX2_valueOf_52 : decode cX2_valueOf 52 = .ok (.aload_n 0, 1) := by decide +kernel
theorem dX2_valueOf_53 : decode cX2_valueOf 53 = .ok (.getfield 58, 3) := by decide +kernel
theorem dX2_valueOf_56 : decode cX2_valueOf 56 = .ok (.ireturn, 1) := by decide +kernel
theorem dX2_valueOf_57 : decode cX2_valueOf 57 = .ok (.aload_n 0, 1) := by decide +kernel
theorem dX2_valueOf_58 : decode cX2_valueOf 58 = .ok (.getfield 64, 3) := by decide +kernel
theorem dX2_valueOf_61 : decode cX2_valueOf 61 = .ok (.ireturn, 1) := by decide +kernel
theorem dX2_valueOf_62 : decode cX2_valueOf 62 = .ok (.aload_n 0, 1) := by decide +kernel
theorem dX2_valueOf_63 : decode cX2_valueOf 63 = .ok (.getfield 64, 3) := by decide +kernel
theorem dX2_valueOf_66 : decode cX2_valueOf 66 = .ok (.aload_n 0, 1) := by decide +kernel
theorem dX2_valueOf_67 : decode cX2_valueOf 67 = .ok (.getfield 58, 3) := by decide +kernel
theorem dX2_valueOf_70 : decode cX2_valueOf 70 = .ok (.isub, 1) := by decide +kernel
theorem dX2_valueOf_71 : decode cX2_valueOf 71 = .ok (.ireturn, 1) := by decide +kernel
theorem dX2_valueOf_72 : decode cX2_valueOf 72 = .ok (.aload_n 0, 1) := by decide +kernel
theorem dX2_valueOf_73 : decode cX2_valueOf 73 = .ok (.getfield 88, 3) := by decide +kernel
theorem dX2_valueOf_76 : decode cX2_valueOf 76 = .ok (.ireturn, 1) := by decide +kernel
theorem dX2_valueOf_77 : decode cX2_valueOf 77 = .ok (.aload_n 0, 1) := by decide +kernel
theorem dX2_valueOf_78 : decode cX2_valueOf 78 = .ok (.getfield 58, 3) := by decide +kernel
theorem dX2_valueOf_81 : decode cX2_valueOf 81 = .ok (.aload_n 0, 1) := by decide +kernel
theorem dX2_valueOf_82 : decode cX2_valueOf 82 = .ok (.getfield 88, 3) := by decide +kernel
theorem dX2_valueOf_85 : decode cX2_valueOf 85 = .ok (.isub, 1) := by decide +kernel
theorem dX2_valueOf_86 : decode cX2_valueOf 86 = .ok (.invokestatic 139, 3) := by decide +kernel
theorem dX2_valueOf_89 : decode cX2_valueOf 89 = .ok (.aload_n 0, 1) := by decide +kernel
theorem dX2_valueOf_90 : decode cX2_valueOf 90 = .ok (.getfield 64, 3) := by decide +kernel
theorem dX2_valueOf_93 : decode cX2_valueOf 93 = .ok (.aload_n 0, 1) := by decide +kernel
theorem dX2_valueOf_94 : decode cX2_valueOf 94 = .ok (.getfield 88, 3) := by decide +kernel
theorem dX2_valueOf_97 : decode cX2_valueOf 97 = .ok (.isub, 1) := by decide +kernel
theorem dX2_valueOf_98 : decode cX2_valueOf 98 = .ok (.invokestatic 139, 3) := by decide +kernel
theorem dX2_valueOf_101 : decode cX2_valueOf 101 = .ok (.invokestatic 53, 3) := by decide +kernel
theorem dX2_valueOf_104 : decode cX2_valueOf 104 = .ok (.ireturn, 1) := by decide +kernel
theorem dX2_valueOf_105 : decode cX2_valueOf 105 = .ok (.aload_n 0, 1) := by decide +kernel
theorem dX2_valueOf_106 : decode cX2_valueOf 106 = .ok (.getfield 73, 3) := by decide +kernel
theorem dX2_valueOf_109 : decode cX2_valueOf 109 = .ok (.ireturn, 1) := by decide +kernel
theorem dX2_valueOf_110 : decode cX2_valueOf 110 = .ok (.aload_n 0, 1) := by decide +kernel
theorem dX2_valueOf_111 : decode cX2_valueOf 111 = .ok (.getfield 96, 3) := by decide +kernel
theorem dX2_valueOf_114 : decode cX2_valueOf 114 = .ok (.ireturn, 1) := by decide +kernel
theorem dX2_valueOf_115 : decode cX2_valueOf 115 = .ok (.aload_n 0, 1) := by decide +kernel
theorem dX2_valueOf_116 : decode cX2_valueOf 116 = .ok (.getfield 79, 3) := by decide +kernel
theorem dX2_valueOf_119 : decode cX2_valueOf 119 = .ok (.ireturn, 1) := by decide +kernel
theorem dX2_valueOf_120 : decode cX2_valueOf 120 = .ok (.aload_n 0, 1) := by decide +kernel
theorem dX2_valueOf_121 : decode cX2_valueOf 121 = .ok (.getfield 85, 3) := by decide +kernel
theorem dX2_valueOf_124 : decode cX2_valueOf 124 = .ok (.ireturn, 1) := by decide +kernel
theorem dX2_valueOf_125 : decode cX2_valueOf 125 = .ok (.iconst 0, 1) := by decide +kernel
theorem dX2_valueOf_126 : decode cX2_valueOf 126 = .ok (.ireturn, 1) := by decide +kernel
theorem dX2_joined_0 : decode cX2_joined 0 = .ok (.iload_n 0, 1) := by decide +kernel
theorem dX2_joined_1 : decode cX2_joined 1 = .ok (.lookupswitch 148 #[(42, 91), (43, 83), (45, 87), (47, 95), (60, 107), (61, 118), (62, 129), (203, 144), (204, 140)], 83) := by decide +kernel
theorem dX2_joined_84 : decode cX2_joined 84 = .ok (.iload_n 1, 1) := by decide +kernel
theorem dX2_joined_85 : decode cX2_joined 85 = .ok (.iload_n 2, 1) := by decide +kernel
theorem dX2_joined_86 : decode cX2_joined 86 = .ok (.iadd, 1) := by decide +kernel
theorem dX2_joined_87 : decode cX2_joined 87 = .ok (.ireturn, 1) := by decide +kernel
theorem dX2_joined_88 : decode cX2_joined 88 = .ok (.iload_n 1, 1) := by decide +kernel
theorem dX2_joined_89 : decode cX2_joined 89 = .ok (.iload_n 2, 1) := by decide +kernel
theorem dX2_joined_90 : decode cX2_joined 90 = .ok (.isub, 1) := by decide +kernel
theorem dX2_joined_91 : decode cX2_joined 91 = .ok (.ireturn, 1) := by decide +kernel
theorem dX2_joined_92 : decode cX2_joined 92 = .ok (.iload_n 1, 1) := by decide +kernel
theorem dX2_joined_93 : decode cX2_joined 93 = .ok (.iload_n 2, 1) := by decide +kernel
theorem dX2_joined_94 : decode cX2_joined 94 = .ok (.imul, 1) := by decide +kernel
theorem dX2_joined_95 : decode cX2_joined 95 = .ok (.ireturn, 1) := by decide +kernel
theorem dX2_joined_96 : decode cX2_joined 96 = .ok (.iload_n 2, 1) := by decide +kernel
theorem dX2_joined_97 : decode cX2_joined 97 = .ok (.ifCond .ne 7, 3) := by decide +kernel
theorem dX2_joined_100 : decode cX2_joined 100 = .ok (.iconst 0, 1) := by decide +kernel
theorem dX2_joined_101 : decode cX2_joined 101 = .ok (.goto 6, 3) := by decide +kernel
theorem dX2_joined_104 : decode cX2_joined 104 = .ok (.iload_n 1, 1) := by decide +kernel
theorem dX2_joined_105 : decode cX2_joined 105 = .ok (.iload_n 2, 1) := by decide +kernel
theorem dX2_joined_106 : decode cX2_joined 106 = .ok (.idiv, 1) := by decide +kernel
theorem dX2_joined_107 : decode cX2_joined 107 = .ok (.ireturn, 1) := by decide +kernel
theorem dX2_joined_108 : decode cX2_joined 108 = .ok (.iload_n 1, 1) := by decide +kernel
theorem dX2_joined_109 : decode cX2_joined 109 = .ok (.iload_n 2, 1) := by decide +kernel
theorem dX2_joined_110 : decode cX2_joined 110 = .ok (.if_icmp .ge 7, 3) := by decide +kernel
theorem dX2_joined_113 : decode cX2_joined 113 = .ok (.iconst 1, 1) := by decide +kernel
theorem dX2_joined_114 : decode cX2_joined 114 = .ok (.goto 4, 3) := by decide +kernel
theorem dX2_joined_117 : decode cX2_joined 117 = .ok (.iconst 0, 1) := by decide +kernel
theorem dX2_joined_118 : decode cX2_joined 118 = .ok (.ireturn, 1) := by decide +kernel
theorem dX2_joined_119 : decode cX2_joined 119 = .ok (.iload_n 1, 1) := by decide +kernel
theorem dX2_joined_120 : decode cX2_joined 120 = .ok (.iload_n 2, 1) := by decide +kernel
theorem dX2_joined_121 : decode cX2_joined 121 = .ok (.if_icmp .ne 7, 3) := by decide +kernel
theorem dX2_joined_124 : decode cX2_joined 124 = .ok (.iconst 1, 1) := by decide +kernel
theorem dX2_joined_125 : decode cX2_joined 125 = .ok (.goto 4, 3) := by decide +kernel
theorem dX2_joined_128 : decode cX2_joined 128 = .ok (.iconst 0, 1) := by decide +kernel
theorem dX2_joined_129 : decode cX2_joined 129 = .ok (.ireturn, 1) := by decide +kernel
theorem dX2_joined_130 : decode cX2_joined 130 = .ok (.iload_n 1, 1) := by decide +kernel
theorem dX2_joined_131 : decode cX2_joined 131 = .ok (.iload_n 2, 1) := by decide +kernel
theorem dX2_joined_132 : decode cX2_joined 132 = .ok (.if_icmp .le 7, 3) := by decide +kernel
theorem dX2_joined_135 : decode cX2_joined 135 = .ok (.iconst 1, 1) := by decide +kernel
theorem dX2_joined_136 : decode cX2_joined 136 = .ok (.goto 4, 3) := by decide +kernel
theorem dX2_joined_139 : decode cX2_joined 139 = .ok (.iconst 0, 1) := by decide +kernel
theorem dX2_joined_140 : decode cX2_joined 140 = .ok (.ireturn, 1) := by decide +kernel
theorem dX2_joined_141 : decode cX2_joined 141 = .ok (.iload_n 1, 1) := by decide +kernel
theorem dX2_joined_142 : decode cX2_joined 142 = .ok (.iload_n 2, 1) := by decide +kernel
theorem dX2_joined_143 : decode cX2_joined 143 = .ok (.iand, 1) := by decide +kernel
theorem dX2_joined_144 : decode cX2_joined 144 = .ok (.ireturn, 1) := by decide +kernel
theorem dX2_joined_145 : decode cX2_joined 145 = .ok (.iload_n 1, 1) := by decide +kernel
theorem dX2_joined_146 : decode cX2_joined 146 = .ok (.iload_n 2, 1) := by decide +kernel
theorem dX2_joined_147 : decode cX2_joined 147 = .ok (.ior, 1) := by decide +kernel
theorem dX2_joined_148 : decode cX2_joined 148 = .ok (.ireturn, 1) := by decide +kernel
theorem dX2_joined_149 : decode cX2_joined 149 = .ok (.iconst 0, 1) := by decide +kernel
theorem dX2_joined_150 : decode cX2_joined 150 = .ok (.ireturn, 1) := by decide +kernel
theorem dX3_init_0 : decode cX3_init 0 = .ok (.aload_n 0, 1) := by decide +kernel
theorem dX3_init_1 : decode cX3_init 1 = .ok (.invokespecial 3, 3) := by decide +kernel
theorem dX3_init_4 : decode cX3_init 4 = .ok (.aload_n 0, 1) := by decide +kernel
theorem dX3_init_5 : decode cX3_init 5 = .ok (.bipush 6, 2) := by decide +kernel
theorem dX3_init_7 : decode cX3_init 7 = .ok (.newarray .int, 2) := by decide +kernel
theorem dX3_init_9 : decode cX3_init 9 = .ok (.putfield 9, 3) := by decide +kernel
theorem dX3_init_12 : decode cX3_init 12 = .ok (.aload_n 0, 1) := by decide +kernel
theorem dX3_init_13 : decode cX3_init 13 = .ok (.bipush 6, 2) := by decide +kernel
theorem dX3_init_15 : decode cX3_init 15 = .ok (.newarray .int, 2) := by decide +kernel
theorem dX3_init_17 : decode cX3_init 17 = .ok (.putfield 15, 3) := by decide +kernel
theorem dX3_init_20 : decode cX3_init 20 = .ok (.aload_n 0, 1) := by decide +kernel
theorem dX3_init_21 : decode cX3_init 21 = .ok (.bipush 25, 2) := by decide +kernel
theorem dX3_init_23 : decode cX3_init 23 = .ok (.newarray .int, 2) := by decide +kernel
theorem dX3_init_25 : decode cX3_init 25 = .ok (.putfield 18, 3) := by decide +kernel
theorem dX3_init_28 : decode cX3_init 28 = .ok (.return_, 1) := by decide +kernel
theorem dX3_countRows_0 : decode cX3_countRows 0 = .ok (.aload_n 0, 1) := by decide +kernel
theorem dX3_countRows_1 : decode cX3_countRows 1 = .ok (.iconst 0, 1) := by decide +kernel
theorem dX3_countRows_2 : decode cX3_countRows 2 = .ok (.putfield 21, 3) := by decide +kernel
theorem dX3_countRows_5 : decode cX3_countRows 5 = .ok (.aload_n 2, 1) := by decide +kernel
theorem dX3_countRows_6 : decode cX3_countRows 6 = .ok (.getfield 25, 3) := by decide +kernel
theorem dX3_countRows_9 : decode cX3_countRows 9 = .ok (.iload_n 1, 1) := by decide +kernel
theorem dX3_countRows_10 : decode cX3_countRows 10 = .ok (.iload_n 1, 1) := by decide +kernel
theorem dX3_countRows_11 : decode cX3_countRows 11 = .ok (.iconst 1, 1) := by decide +kernel
theorem dX3_countRows_12 : decode cX3_countRows 12 = .ok (.isub, 1) := by decide +kernel
theorem dX3_countRows_13 : decode cX3_countRows 13 = .ok (.imul, 1) := by decide +kernel
theorem dX3_countRows_14 : decode cX3_countRows 14 = .ok (.iconst 2, 1) := by decide +kernel
theorem dX3_countRows_15 : decode cX3_countRows 15 = .ok (.idiv, 1) := by decide +kernel
theorem dX3_countRows_16 : decode cX3_countRows 16 = .ok (.if_icmp .eq 5, 3) := by decide +kernel
theorem dX3_countRows_19 : decode cX3_countRows 19 = .ok (.iconst 0, 1) := by decide +kernel
theorem dX3_countRows_20 : decode cX3_countRows 20 = .ok (.ireturn, 1) := by decide +kernel
theorem dX3_countRows_21 : decode cX3_countRows 21 = .ok (.aload_n 0, 1) := by decide +kernel
theorem dX3_countRows_22 : decode cX3_countRows 22 = .ok (.getfield 18, 3) := by decide +kernel
theorem dX3_countRows_25 : decode cX3_countRows 25 = .ok (.iconst 0, 1) := by decide +kernel
theorem dX3_countRows_26 : decode cX3_countRows 26 = .ok (.invokestatic 30, 3) := by decide +kernel
theorem dX3_countRows_29 : decode cX3_countRows 29 = .ok (.iconst 0, 1) := by decide +kernel
theorem dX3_countRows_30 : decode cX3_countRows 30 = .ok (.istore_n 3, 1) := by decide +kernel
theorem dX3_countRows_31 : decode cX3_countRows 31 = .ok (.iload_n 3, 1) := by decide +kernel
theorem dX3_countRows_32 : decode cX3_countRows 32 = .ok (.aload_n 2, 1) := by decide +kernel
theorem dX3_countRows_33 : decode cX3_countRows 33 = .ok (.getfield 25, 3) := by decide +kernel
theorem dX3_countRows_36 : decode cX3_countRows 36 = .ok (.if_icmp .ge 24, 3) := by decide +kernel
theorem dX3_countRows_39 : decode cX3_countRows 39 = .ok (.aload_n 0, 1) := by decide +kernel
theorem dX3_countRows_40 : decode cX3_countRows 40 = .ok (.getfield 18, 3) := by decide +kernel
theorem dX3_countRows_43 : decode cX3_countRows 43 = .ok (.aload_n 2, 1) := by decide +kernel
theorem dX3_countRows_44 : decode cX3_countRows 44 = .ok (.getfield 36, 3) := by decide +kernel
theorem dX3_countRows_47 : decode cX3_countRows 47 = .ok (.iload_n 3, 1) := by decide +kernel
theorem dX3_countRows_48 : decode cX3_countRows 48 = .ok (.iaload, 1) := by decide +kernel
theorem dX3_countRows_49 : decode cX3_countRows 49 = .ok (.dup2, 1) := by decide +kernel
theorem dX3_countRows_50 : decode cX3_countRows 50 = .ok (.iaload, 1) := by decide +kernel
theorem dX3_countRows_51 : decode cX3_countRows 51 = .ok (.iconst 1, 1) := by decide +kernel
theorem dX3_countRows_52 : decode cX3_countRows 52 = .ok (.iadd, 1) := by decide +kernel
theorem dX3_countRows_53 : decode cX3_countRows 53 = .ok (.iastore, 1) := by decide +kernel
theorem dX3_countRows_54 : decode cX3_countRows 54 = .ok (.iinc 3 1, 3) := by decide +kernel
theorem dX3_countRows_57 : decode cX3_countRows 57 = .ok (.goto (-26), 3) := by decide +kernel
theorem dX3_countRows_60 : decode cX3_countRows 60 = .ok (.aload_n 0, 1) := by decide +kernel
theorem dX3_countRows_61 : decode cX3_countRows 61 = .ok (.getfield 15, 3) := by decide +kernel
theorem dX3_countRows_64 : decode cX3_countRows 64 = .ok (.iconst 0, 1) := by decide +kernel
theorem dX3_countRows_65 : decode cX3_countRows 65 = .ok (.iconst 0, 1) := by decide +kernel
theorem dX3_countRows_66 : decode cX3_countRows 66 = .ok (.iastore, 1) := by decide +kernel
theorem dX3_countRows_67 : decode cX3_countRows 67 = .ok (.aload_n 0, 1) := by decide +kernel
theorem dX3_countRows_68 : decode cX3_countRows 68 = .ok (.iconst 1, 1) := by decide +kernel
theorem dX3_countRows_69 : decode cX3_countRows 69 = .ok (.iload_n 1, 1) := by decide +kernel
theorem dX3_countRows_70 : decode cX3_countRows 70 = .ok (.invokevirtual 39, 3) := by decide +kernel
theorem dX3_countRows_73 : decode cX3_countRows 73 = .ok (.aload_n 0, 1) := by decide +kernel
theorem dX3_countRows_74 : decode cX3_countRows 74 = .ok (.getfield 21, 3) := by decide +kernel
theorem dX3_countRows_77 : decode cX3_countRows 77 = .ok (.ireturn, 1) := by decide +kernel
theorem dX3_extend_0 : decode cX3_extend 0 = .ok (.iload_n 1, 1) := by decide +kernel
theorem dX3_extend_1 : decode cX3_extend 1 = .ok (.iload_n 2, 1) := by decide +kernel
theorem dX3_extend_2 : decode cX3_extend 2 = .ok (.if_icmp .ge 9, 3) := by decide +kernel
theorem dX3_extend_5 : decode cX3_extend 5 = .ok (.iload_n 1, 1) := by decide +kernel
theorem dX3_extend_6 : decode cX3_extend 6 = .ok (.bipush 6, 2) := by decide +kernel
theorem dX3_extend_8 : decode cX3_extend 8 = .ok (.if_icmp .lt 36, 3) := by decide +kernel
theorem dX3_extend_11 : decode cX3_extend 11 = .ok (.aload_n 0, 1) := by decide +kernel
theorem dX3_extend_12 : decode cX3_extend 12 = .ok (.getfield 21, 3) := by decide +kernel
theorem dX3_extend_15 : decode cX3_extend 15 = .ok (.ifCond .ne 18, 3) := by decide +kernel
theorem dX3_extend_18 : decode cX3_extend 18 = .ok (.aload_n 0, 1) := by decide +kernel
theorem dX3_extend_19 : decode cX3_extend 19 = .ok (.getfield 15, 3) := by decide +kernel
theorem dX3_extend_22 : decode cX3_extend 22 = .ok (.iconst 0, 1) := by decide +kernel
theorem dX3_extend_23 : decode cX3_extend 23 = .ok (.aload_n 0, 1) := by decide +kernel
theorem dX3_extend_24 : decode cX3_extend 24 = .ok (.getfield 9, 3) := by decide +kernel
theorem dX3_extend_27 : decode cX3_extend 27 = .ok (.iconst 0, 1) := by decide +kernel
theorem dX3_extend_28 : decode cX3_extend 28 = .ok (.bipush 6, 2) := by decide +kernel
theorem dX3_extend_30 : decode cX3_extend 30 = .ok (.invokestatic 43, 3) := by decide +kernel
theorem dX3_extend_33 : decode cX3_extend 33 = .ok (.aload_n 0, 1) := by decide +kernel
theorem dX3_extend_34 : decode cX3_extend 34 = .ok (.dup, 1) := by decide +kernel
theorem dX3_extend_35 : decode cX3_extend 35 = .ok (.getfield 21, 3) := by decide +kernel
theorem dX3_extend_38 : decode cX3_extend 38 = .ok (.iconst 1, 1) := by decide +kernel
theorem dX3_extend_39 : decode cX3_extend 39 = .ok (.iadd, 1) := by decide +kernel
theorem dX3_extend_40 : decode cX3_extend 40 = .ok (.putfield 21, 3) := by decide +kernel
theorem dX3_extend_43 : decode cX3_extend 43 = .ok (.return_, 1) := by decide +kernel
theorem dX3_extend_44 : decode cX3_extend 44 = .ok (.aload_n 0, 1) := by decide +kernel
theorem dX3_extend_45 : decode cX3_extend 45 = .ok (.getfield 15, 3) := by decide +kernel
theorem dX3_extend_48 : decode cX3_extend 48 = .ok (.iload_n 1, 1) := by decide +kernel
theorem dX3_extend_49 : decode cX3_extend 49 = .ok (.iconst 1, 1) := by decide +kernel
theorem dX3_extend_50 : decode cX3_extend 50 = .ok (.isub, 1) := by decide +kernel
theorem dX3_extend_51 : decode cX3_extend 51 = .ok (.iaload, 1) := by decide +kernel
theorem dX3_extend_52 : decode cX3_extend 52 = .ok (.iconst 1, 1) := by decide +kernel
theorem dX3_extend_53 : decode cX3_extend 53 = .ok (.iadd, 1) := by decide +kernel
theorem dX3_extend_54 : decode cX3_extend 54 = .ok (.istore_n 3, 1) := by decide +kernel
theorem dX3_extend_55 : decode cX3_extend 55 = .ok (.iload_n 3, 1) := by decide +kernel
theorem dX3_extend_56 : decode cX3_extend 56 = .ok (.bipush 24, 2) := by decide +kernel
theorem dX3_extend_58 : decode cX3_extend 58 = .ok (.if_icmp .gt 47, 3) := by decide +kernel
theorem dX3_extend_61 : decode cX3_extend 61 = .ok (.aload_n 0, 1) := by decide +kernel
theorem dX3_extend_62 : decode cX3_extend 62 = .ok (.iload_n 3, 1) := by decide +kernel
theorem dX3_extend_63 : decode cX3_extend 63 = .ok (.iload_n 1, 1) := by decide +kernel
theorem dX3_extend_64 : decode cX3_extend 64 = .ok (.invokevirtual 49, 3) := by decide +kernel
theorem dX3_extend_67 : decode cX3_extend 67 = .ok (.ifCond .eq 32, 3) := by decide +kernel
theorem dX3_extend_70 : decode cX3_extend 70 = .ok (.aload_n 0, 1) := by decide +kernel
theorem dX3_extend_71 : decode cX3_extend 71 = .ok (.getfield 15, 3) := by decide +kernel
theorem dX3_extend_74 : decode cX3_extend 74 = .ok (.iload_n 1, 1) := by decide +kernel
theorem dX3_extend_75 : decode cX3_extend 75 = .ok (.iload_n 3, 1) := by decide +kernel
theorem dX3_extend_76 : decode cX3_extend 76 = .ok (.iastore, 1) := by decide +kernel
theorem dX3_extend_77 : decode cX3_extend 77 = .ok (.aload_n 0, 1) := by decide +kernel
theorem dX3_extend_78 : decode cX3_extend 78 = .ok (.iload_n 3, 1) := by decide +kernel
theorem dX3_extend_79 : decode cX3_extend 79 = .ok (.iload_n 1, 1) := by decide +kernel
theorem dX3_extend_80 : decode cX3_extend 80 = .ok (.iconst (-1), 1) := by decide +kernel
theorem dX3_extend_81 : decode cX3_extend 81 = .ok (.invokevirtual 53, 3) := by decide +kernel
theorem dX3_extend_84 : decode cX3_extend 84 = .ok (.aload_n 0, 1) := by decide +kernel
theorem dX3_extend_85 : decode cX3_extend 85 = .ok (.iload_n 1, 1) := by decide +kernel
theorem dX3_extend_86 : decode cX3_extend 86 = .ok (.iconst 1, 1) := by decide +kernel
theorem dX3_extend_87 : decode cX3_extend 87 = .ok (.iadd, 1) := by decide +kernel
theorem dX3_extend_88 : decode cX3_extend 88 = .ok (.iload_n 2, 1) := by decide +kernel
theorem dX3_extend_89 : decode cX3_extend 89 = .ok (.invokevirtual 39, 3) := by decide +kernel
theorem dX3_extend_92 : decode cX3_extend 92 = .ok (.aload_n 0, 1) := by decide +kernel
theorem dX3_extend_93 : decode cX3_extend 93 = .ok (.iload_n 3, 1) := by decide +kernel
theorem dX3_extend_94 : decode cX3_extend 94 = .ok (.iload_n 1, 1) := by decide +kernel
theorem dX3_extend_95 : decode cX3_extend 95 = .ok (.iconst 1, 1) := by decide +kernel
theorem dX3_extend_96 : decode cX3_extend 96 = .ok (.invokevirtual 53, 3) := by decide +kernel
theorem dX3_extend_99 : decode cX3_extend 99 = .ok (.iinc 3 1, 3) := by decide +kernel
theorem dX3_extend_102 : decode cX3_extend 102 = .ok (.goto (-47), 3) := by decide +kernel
theorem dX3_extend_105 : decode cX3_extend 105 = .ok (.return_, 1) := by decide +kernel
theorem dX3_hasWordsFor_0 : decode cX3_hasWordsFor 0 = .ok (.iconst 0, 1) := by decide +kernel
theorem dX3_hasWordsFor_1 : decode cX3_hasWordsFor 1 = .ok (.istore_n 3, 1) := by decide +kernel
theorem dX3_hasWordsFor_2 : decode cX3_hasWordsFor 2 = .ok (.iload_n 3, 1) := by decide +kernel
theorem dX3_hasWordsFor_3 : decode cX3_hasWordsFor 3 = .ok (.iload_n 2, 1) := by decide +kernel
theorem dX3_hasWordsFor_4 : decode cX3_hasWordsFor 4 = .ok (.if_icmp .ge 27, 3) := by decide +kernel
theorem dX3_hasWordsFor_7 : decode cX3_hasWordsFor 7 = .ok (.aload_n 0, 1) := by decide +kernel
theorem dX3_hasWordsFor_8 : decode cX3_hasWordsFor 8 = .ok (.getfield 18, 3) := by decide +kernel
theorem dX3_hasWordsFor_11 : decode cX3_hasWordsFor 11 = .ok (.iload_n 1, 1) := by decide +kernel
theorem dX3_hasWordsFor_12 : decode cX3_hasWordsFor 12 = .ok (.aload_n 0, 1) := by decide +kernel
theorem dX3_hasWordsFor_13 : decode cX3_hasWordsFor 13 = .ok (.getfield 15, 3) := by decide +kernel
theorem dX3_hasWordsFor_16 : decode cX3_hasWordsFor 16 = .ok (.iload_n 3, 1) := by decide +kernel
theorem dX3_hasWordsFor_17 : decode cX3_hasWordsFor 17 = .ok (.iaload, 1) := by decide +kernel
theorem dX3_hasWordsFor_18 : decode cX3_hasWordsFor 18 = .ok (.isub, 1) := by decide +kernel
theorem dX3_hasWordsFor_19 : decode cX3_hasWordsFor 19 = .ok (.iaload, 1) := by decide +kernel
theorem dX3_hasWordsFor_20 : decode cX3_hasWordsFor 20 = .ok (.ifCond .ne 5, 3) := by decide +kernel
theorem dX3_hasWordsFor_23 : decode cX3_hasWordsFor 23 = .ok (.iconst 0, 1) := by decide +kernel
theorem dX3_hasWordsFor_24 : decode cX3_hasWordsFor 24 = .ok (.ireturn, 1) := by decide +kernel
theorem dX3_hasWordsFor_25 : decode cX3_hasWordsFor 25 = .ok (.iinc 3 1, 3) := by decide +kernel
theorem dX3_hasWordsFor_28 : decode cX3_hasWordsFor 28 = .ok (.goto (-26), 3) := by decide +kernel
theorem dX3_hasWordsFor_31 : decode cX3_hasWordsFor 31 = .ok (.iconst 1, 1) := by decide +kernel
theorem dX3_hasWordsFor_32 : decode cX3_hasWordsFor 32 = .ok (.ireturn, 1) := by decide +kernel
theorem dX3_changeLeft_0 : decode cX3_changeLeft 0 = .ok (.iconst 0, 1) := by decide +kernel
theorem dX3_changeLeft_1 : decode cX3_changeLeft 1 = .ok (.istore 4, 2) := by decide +kernel
theorem dX3_changeLeft_3 : decode cX3_changeLeft 3 = .ok (.iload 4, 2) := by decide +kernel
theorem dX3_changeLeft_5 : decode cX3_changeLeft 5 = .ok (.iload_n 2, 1) := by decide +kernel
theorem dX3_changeLeft_6 : decode cX3_changeLeft 6 = .ok (.if_icmp .ge 27, 3) := by decide +kernel
theorem dX3_changeLeft_9 : decode cX3_changeLeft 9 = .ok (.aload_n 0, 1) := by decide +kernel
theorem dX3_changeLeft_10 : decode cX3_changeLeft 10 = .ok (.getfield 18, 3) := by decide +kernel
theorem dX3_changeLeft_13 : decode cX3_changeLeft 13 = .ok (.iload_n 1, 1) := by decide +kernel
theorem dX3_changeLeft_14 : decode cX3_changeLeft 14 = .ok (.aload_n 0, 1) := by decide +kernel
theorem dX3_changeLeft_15 : decode cX3_changeLeft 15 = .ok (.getfield 15, 3) := by decide +kernel
theorem dX3_changeLeft_18 : decode cX3_changeLeft 18 = .ok (.iload 4, 2) := by decide +kernel
theorem dX3_changeLeft_20 : decode cX3_changeLeft 20 = .ok (.iaload, 1) := by decide +kernel
theorem dX3_changeLeft_21 : decode cX3_changeLeft 21 = .ok (.isub, 1) := by decide +kernel
theorem dX3_changeLeft_22 : decode cX3_changeLeft 22 = .ok (.dup2, 1) := by decide +kernel
theorem dX3_changeLeft_23 : decode cX3_changeLeft 23 = .ok (.iaload, 1) := by decide +kernel
theorem dX3_changeLeft_24 : decode cX3_changeLeft 24 = .ok (.iload_n 3, 1) := by decide +kernel
theorem dX3_changeLeft_25 : decode cX3_changeLeft 25 = .ok (.iadd, 1) := by decide +kernel
theorem dX3_changeLeft_26 : decode cX3_changeLeft 26 = .ok (.iastore, 1) := by decide +kernel
theorem dX3_changeLeft_27 : decode cX3_changeLeft 27 = .ok (.iinc 4 1, 3) := by decide +kernel
theorem dX3_changeLeft_30 : decode cX3_changeLeft 30 = .ok (.goto (-27), 3) := by decide +kernel
theorem dX3_changeLeft_33 : decode cX3_changeLeft 33 = .ok (.return_, 1) := by decide +kernel
theorem dX4_init_0 : decode cX4_init 0 = .ok (.aload_n 0, 1) := by decide +kernel
theorem dX4_init_1 : decode cX4_init 1 = .ok (.invokespecial 3, 3) := by decide +kernel
theorem dX4_init_4 : decode cX4_init 4 = .ok (.aload_n 0, 1) := by decide +kernel
theorem dX4_init_5 : decode cX4_init 5 = .ok (.bipush 16, 2) := by decide +kernel
theorem dX4_init_7 : decode cX4_init 7 = .ok (.newarray .int, 2) := by decide +kernel
theorem dX4_init_9 : decode cX4_init 9 = .ok (.putfield 9, 3) := by decide +kernel
theorem dX4_init_12 : decode cX4_init 12 = .ok (.aload_n 0, 1) := by decide +kernel
theorem dX4_init_13 : decode cX4_init 13 = .ok (.sipush 400, 3) := by decide +kernel
theorem dX4_init_16 : decode cX4_init 16 = .ok (.newarray .int, 2) := by decide +kernel
theorem dX4_init_18 : decode cX4_init 18 = .ok (.putfield 15, 3) := by decide +kernel
theorem dX4_init_21 : decode cX4_init 21 = .ok (.return_, 1) := by decide +kernel
theorem dX4_copyFrom_0 : decode cX4_copyFrom 0 = .ok (.aload_n 0, 1) := by decide +kernel
theorem dX4_copyFrom_1 : decode cX4_copyFrom 1 = .ok (.aload_n 1, 1) := by decide +kernel
theorem dX4_copyFrom_2 : decode cX4_copyFrom 2 = .ok (.getfield 18, 3) := by decide +kernel
theorem dX4_copyFrom_5 : decode cX4_copyFrom 5 = .ok (.putfield 18, 3) := by decide +kernel
theorem dX4_copyFrom_8 : decode cX4_copyFrom 8 = .ok (.aload_n 0, 1) := by decide +kernel
theorem dX4_copyFrom_9 : decode cX4_copyFrom 9 = .ok (.aload_n 1, 1) := by decide +kernel
theorem dX4_copyFrom_10 : decode cX4_copyFrom 10 = .ok (.getfield 22, 3) := by decide +kernel
theorem dX4_copyFrom_13 : decode cX4_copyFrom 13 = .ok (.putfield 22, 3) := by decide +kernel
theorem dX4_copyFrom_16 : decode cX4_copyFrom 16 = .ok (.aload_n 1, 1) := by decide +kernel
theorem dX4_copyFrom_17 : decode cX4_copyFrom 17 = .ok (.getfield 9, 3) := by decide +kernel
theorem dX4_copyFrom_20 : decode cX4_copyFrom 20 = .ok (.iconst 0, 1) := by decide +kernel
theorem dX4_copyFrom_21 : decode cX4_copyFrom 21 = .ok (.aload_n 0, 1) := by decide +kernel
theorem dX4_copyFrom_22 : decode cX4_copyFrom 22 = .ok (.getfield 9, 3) := by decide +kernel
theorem dX4_copyFrom_25 : decode cX4_copyFrom 25 = .ok (.iconst 0, 1) := by decide +kernel
theorem dX4_copyFrom_26 : decode cX4_copyFrom 26 = .ok (.bipush 16, 2) := by decide +kernel
theorem dX4_copyFrom_28 : decode cX4_copyFrom 28 = .ok (.invokestatic 25, 3) := by decide +kernel
theorem dX4_copyFrom_31 : decode cX4_copyFrom 31 = .ok (.aload_n 0, 1) := by decide +kernel
theorem dX4_copyFrom_32 : decode cX4_copyFrom 32 = .ok (.aload_n 1, 1) := by decide +kernel
theorem dX4_copyFrom_33 : decode cX4_copyFrom 33 = .ok (.getfield 31, 3) := by decide +kernel
theorem dX4_copyFrom_36 : decode cX4_copyFrom 36 = .ok (.putfield 31, 3) := by decide +kernel
theorem dX4_copyFrom_39 : decode cX4_copyFrom 39 = .ok (.aload_n 1, 1) := by decide +kernel
theorem dX4_copyFrom_40 : decode cX4_copyFrom 40 = .ok (.getfield 15, 3) := by decide +kernel
theorem dX4_copyFrom_43 : decode cX4_copyFrom 43 = .ok (.iconst 0, 1) := by decide +kernel
theorem dX4_copyFrom_44 : decode cX4_copyFrom 44 = .ok (.aload_n 0, 1) := by decide +kernel
theorem dX4_copyFrom_45 : decode cX4_copyFrom 45 = .ok (.getfield 15, 3) := by decide +kernel
theorem dX4_copyFrom_48 : decode cX4_copyFrom 48 = .ok (.iconst 0, 1) := by decide +kernel
theorem dX4_copyFrom_49 : decode cX4_copyFrom 49 = .ok (.aload_n 0, 1) := by decide +kernel
theorem dX4_copyFrom_50 : decode cX4_copyFrom 50 = .ok (.getfield 31, 3) := by decide +kernel
theorem dX4_copyFrom_53 : decode cX4_copyFrom 53 = .ok (.invokestatic 25, 3) := by decide +kernel
theorem dX4_copyFrom_56 : decode cX4_copyFrom 56 = .ok (.return_, 1) := by decide +kernel
theorem dX4_empty_0 : decode cX4_empty 0 = .ok (.aload_n 0, 1) := by decide +kernel
theorem dX4_empty_1 : decode cX4_empty 1 = .ok (.iconst 0, 1) := by decide +kernel
theorem dX4_empty_2 : decode cX4_empty 2 = .ok (.putfield 18, 3) := by decide +kernel
theorem dX4_empty_5 : decode cX4_empty 5 = .ok (.aload_n 0, 1) := by decide +kernel
theorem dX4_empty_6 : decode cX4_empty 6 = .ok (.iconst 0, 1) := by decide +kernel
theorem dX4_empty_7 : decode cX4_empty 7 = .ok (.putfield 22, 3) := by decide +kernel
theorem dX4_empty_10 : decode cX4_empty 10 = .ok (.aload_n 0, 1) := by decide +kernel
theorem dX4_empty_11 : decode cX4_empty 11 = .ok (.iconst 0, 1) := by decide +kernel
theorem dX4_empty_12 : decode cX4_empty 12 = .ok (.putfield 31, 3) := by decide +kernel
theorem dX4_empty_15 : decode cX4_empty 15 = .ok (.return_, 1) := by decide +kernel
theorem dX4_add_0 : decode cX4_add 0 = .ok (.aload_n 0, 1) := by decide +kernel
theorem dX4_add_1 : decode cX4_add 1 = .ok (.getfield 31, 3) := by decide +kernel
theorem dX4_add_4 : decode cX4_add 4 = .ok (.sipush 400, 3) := by decide +kernel
theorem dX4_add_7 : decode cX4_add 7 = .ok (.if_icmp .ge 23, 3) := by decide +kernel
theorem dX4_add_10 : decode cX4_add 10 = .ok (.aload_n 0, 1) := by decide +kernel
theorem dX4_add_11 : decode cX4_add 11 = .ok (.getfield 15, 3) := by decide +kernel
theorem dX4_add_14 : decode cX4_add 14 = .ok (.aload_n 0, 1) := by decide +kernel
theorem dX4_add_15 : decode cX4_add 15 = .ok (.getfield 31, 3) := by decide +kernel
theorem dX4_add_18 : decode cX4_add 18 = .ok (.iload_n 1, 1) := by decide +kernel
theorem dX4_add_19 : decode cX4_add 19 = .ok (.iastore, 1) := by decide +kernel
theorem dX4_add_20 : decode cX4_add 20 = .ok (.aload_n 0, 1) := by decide +kernel
theorem dX4_add_21 : decode cX4_add 21 = .ok (.dup, 1) := by decide +kernel
theorem dX4_add_22 : decode cX4_add 22 = .ok (.getfield 31, 3) := by decide +kernel
theorem dX4_add_25 : decode cX4_add 25 = .ok (.iconst 1, 1) := by decide +kernel
theorem dX4_add_26 : decode cX4_add 26 = .ok (.iadd, 1) := by decide +kernel
theorem dX4_add_27 : decode cX4_add 27 = .ok (.putfield 31, 3) := by decide +kernel
theorem dX4_add_30 : decode cX4_add 30 = .ok (.return_, 1) := by decide +kernel
theorem dX4_closeLine_0 : decode cX4_closeLine 0 = .ok (.aload_n 0, 1) := by decide +kernel
theorem dX4_closeLine_1 : decode cX4_closeLine 1 = .ok (.getfield 18, 3) := by decide +kernel
theorem dX4_closeLine_4 : decode cX4_closeLine 4 = .ok (.bipush 16, 2) := by decide +kernel
theorem dX4_closeLine_6 : decode cX4_closeLine 6 = .ok (.if_icmp .ge 49, 3) := by decide +kernel
theorem dX4_closeLine_9 : decode cX4_closeLine 9 = .ok (.aload_n 0, 1) := by decide +kernel
theorem dX4_closeLine_10 : decode cX4_closeLine 10 = .ok (.dup, 1) := by decide +kernel
theorem dX4_closeLine_11 : decode cX4_closeLine 11 = .ok (.getfield 22, 3) := by decide +kernel
theorem dX4_closeLine_14 : decode cX4_closeLine 14 = .ok (.iload_n 1, 1) := by decide +kernel
theorem dX4_closeLine_15 : decode cX4_closeLine 15 = .ok (.ifCond .eq 12, 3) := by decide +kernel
theorem dX4_closeLine_18 : decode cX4_closeLine 18 = .ok (.iconst 1, 1) := by decide +kernel
theorem dX4_closeLine_19 : decode cX4_closeLine 19 = .ok (.aload_n 0, 1) := by decide +kernel
theorem dX4_closeLine_20 : decode cX4_closeLine 20 = .ok (.getfield 18, 3) := by decide +kernel
theorem dX4_closeLine_23 : decode cX4_closeLine 23 = .ok (.ishl, 1) := by decide +kernel
theorem dX4_closeLine_24 : decode cX4_closeLine 24 = .ok (.goto 4, 3) := by decide +kernel
theorem dX4_closeLine_27 : decode cX4_closeLine 27 = .ok (.iconst 0, 1) := by decide +kernel
theorem dX4_closeLine_28 : decode cX4_closeLine 28 = .ok (.ior, 1) := by decide +kernel
theorem dX4_closeLine_29 : decode cX4_closeLine 29 = .ok (.putfield 22, 3) := by decide +kernel
theorem dX4_closeLine_32 : decode cX4_closeLine 32 = .ok (.aload_n 0, 1) := by decide +kernel
theorem dX4_closeLine_33 : decode cX4_closeLine 33 = .ok (.getfield 9, 3) := by decide +kernel
theorem dX4_closeLine_36 : decode cX4_closeLine 36 = .ok (.aload_n 0, 1) := by decide +kernel
theorem dX4_closeLine_37 : decode cX4_closeLine 37 = .ok (.getfield 18, 3) := by decide +kernel
theorem dX4_closeLine_40 : decode cX4_closeLine 40 = .ok (.aload_n 0, 1) := by decide +kernel
theorem dX4_closeLine_41 : decode cX4_closeLine 41 = .ok (.getfield 31, 3) := by decide +kernel
theorem dX4_closeLine_44 : decode cX4_closeLine 44 = .ok (.iastore, 1) := by decide +kernel
theorem dX4_closeLine_45 : decode cX4_closeLine 45 = .ok (.aload_n 0, 1) := by decide +kernel
theorem dX4_closeLine_46 : decode cX4_closeLine 46 = .ok (.dup, 1) := by decide +kernel
theorem dX4_closeLine_47 : decode cX4_closeLine 47 = .ok (.getfield 18, 3) := by decide +kernel
theorem dX4_closeLine_50 : decode cX4_closeLine 50 = .ok (.iconst 1, 1) := by decide +kernel
theorem dX4_closeLine_51 : decode cX4_closeLine 51 = .ok (.iadd, 1) := by decide +kernel
theorem dX4_closeLine_52 : decode cX4_closeLine 52 = .ok (.putfield 18, 3) := by decide +kernel
theorem dX4_closeLine_55 : decode cX4_closeLine 55 = .ok (.return_, 1) := by decide +kernel
theorem dX5_init_0 : decode cX5_init 0 = .ok (.aload_n 0, 1) := by decide +kernel
theorem dX5_init_1 : decode cX5_init 1 = .ok (.invokespecial 3, 3) := by decide +kernel
theorem dX5_init_4 : decode cX5_init 4 = .ok (.aload_n 0, 1) := by decide +kernel
theorem dX5_init_5 : decode cX5_init 5 = .ok (.bipush 80, 2) := by decide +kernel
theorem dX5_init_7 : decode cX5_init 7 = .ok (.newarray .int, 2) := by decide +kernel
theorem dX5_init_9 : decode cX5_init 9 = .ok (.putfield 9, 3) := by decide +kernel
theorem dX5_init_12 : decode cX5_init 12 = .ok (.aload_n 0, 1) := by decide +kernel
theorem dX5_init_13 : decode cX5_init 13 = .ok (.bipush 8, 2) := by decide +kernel
theorem dX5_init_15 : decode cX5_init 15 = .ok (.newarray .int, 2) := by decide +kernel
theorem dX5_init_17 : decode cX5_init 17 = .ok (.putfield 15, 3) := by decide +kernel
theorem dX5_init_20 : decode cX5_init 20 = .ok (.aload_n 0, 1) := by decide +kernel
theorem dX5_init_21 : decode cX5_init 21 = .ok (.bipush 8, 2) := by decide +kernel
theorem dX5_init_23 : decode cX5_init 23 = .ok (.newarray .int, 2) := by decide +kernel
theorem dX5_init_25 : decode cX5_init 25 = .ok (.putfield 18, 3) := by decide +kernel
theorem dX5_init_28 : decode cX5_init 28 = .ok (.aload_n 0, 1) := by decide +kernel
theorem dX5_init_29 : decode cX5_init 29 = .ok (.bipush 8, 2) := by decide +kernel
theorem dX5_init_31 : decode cX5_init 31 = .ok (.newarray .int, 2) := by decide +kernel
theorem dX5_init_33 : decode cX5_init 33 = .ok (.putfield 21, 3) := by decide +kernel
theorem dX5_init_36 : decode cX5_init 36 = .ok (.return_, 1) := by decide +kernel
theorem dX5_forget_0 : decode cX5_forget 0 = .ok (.aload_n 0, 1) := by decide +kernel
theorem dX5_forget_1 : decode cX5_forget 1 = .ok (.iconst 0, 1) := by decide +kernel
theorem dX5_forget_2 : decode cX5_forget 2 = .ok (.putfield 24, 3) := by decide +kernel
theorem dX5_forget_5 : decode cX5_forget 5 = .ok (.return_, 1) := by decide +kernel
theorem dX5_keep_0 : decode cX5_keep 0 = .ok (.aload_n 1, 1) := by decide +kernel
theorem dX5_keep_1 : decode cX5_keep 1 = .ok (.getfield 28, 3) := by decide +kernel
theorem dX5_keep_4 : decode cX5_keep 4 = .ok (.iconst 0, 1) := by decide +kernel
theorem dX5_keep_5 : decode cX5_keep 5 = .ok (.aload_n 0, 1) := by decide +kernel
theorem dX5_keep_6 : decode cX5_keep 6 = .ok (.getfield 9, 3) := by decide +kernel
theorem dX5_keep_9 : decode cX5_keep 9 = .ok (.aload_n 0, 1) := by decide +kernel
theorem dX5_keep_10 : decode cX5_keep 10 = .ok (.getfield 31, 3) := by decide +kernel
theorem dX5_keep_13 : decode cX5_keep 13 = .ok (.bipush 10, 2) := by decide +kernel
theorem dX5_keep_15 : decode cX5_keep 15 = .ok (.imul, 1) := by decide +kernel
theorem dX5_keep_16 : decode cX5_keep 16 = .ok (.bipush 10, 2) := by decide +kernel
theorem dX5_keep_18 : decode cX5_keep 18 = .ok (.invokestatic 34, 3) := by decide +kernel
theorem dX5_keep_21 : decode cX5_keep 21 = .ok (.aload_n 0, 1) := by decide +kernel
theorem dX5_keep_22 : decode cX5_keep 22 = .ok (.getfield 15, 3) := by decide +kernel
theorem dX5_keep_25 : decode cX5_keep 25 = .ok (.aload_n 0, 1) := by decide +kernel
theorem dX5_keep_26 : decode cX5_keep 26 = .ok (.getfield 31, 3) := by decide +kernel
theorem dX5_keep_29 : decode cX5_keep 29 = .ok (.aload_n 1, 1) := by decide +kernel
theorem dX5_keep_30 : decode cX5_keep 30 = .ok (.getfield 40, 3) := by decide +kernel
theorem dX5_keep_33 : decode cX5_keep 33 = .ok (.iastore, 1) := by decide +kernel
theorem dX5_keep_34 : decode cX5_keep 34 = .ok (.aload_n 0, 1) := by decide +kernel
theorem dX5_keep_35 : decode cX5_keep 35 = .ok (.getfield 18, 3) := by decide +kernel
theorem dX5_keep_38 : decode cX5_keep 38 = .ok (.aload_n 0, 1) := by decide +kernel
theorem dX5_keep_39 : decode cX5_keep 39 = .ok (.getfield 31, 3) := by decide +kernel
theorem dX5_keep_42 : decode cX5_keep 42 = .ok (.aload_n 1, 1) := by decide +kernel
theorem dX5_keep_43 : decode cX5_keep 43 = .ok (.getfield 42, 3) := by decide +kernel
theorem dX5_keep_46 : decode cX5_keep 46 = .ok (.iastore, 1) := by decide +kernel
theorem dX5_keep_47 : decode cX5_keep 47 = .ok (.aload_n 0, 1) := by decide +kernel
theorem dX5_keep_48 : decode cX5_keep 48 = .ok (.getfield 21, 3) := by decide +kernel
theorem dX5_keep_51 : decode cX5_keep 51 = .ok (.aload_n 0, 1) := by decide +kernel
theorem dX5_keep_52 : decode cX5_keep 52 = .ok (.getfield 31, 3) := by decide +kernel
theorem dX5_keep_55 : decode cX5_keep 55 = .ok (.aload_n 1, 1) := by decide +kernel
theorem dX5_keep_56 : decode cX5_keep 56 = .ok (.getfield 45, 3) := by decide +kernel
theorem dX5_keep_59 : decode cX5_keep 59 = .ok (.getfield 49, 3) := by decide +kernel
theorem dX5_keep_62 : decode cX5_keep 62 = .ok (.iastore, 1) := by decide +kernel
theorem dX5_keep_63 : decode cX5_keep 63 = .ok (.aload_n 0, 1) := by decide +kernel
theorem dX5_keep_64 : decode cX5_keep 64 = .ok (.aload_n 0, 1) := by decide +kernel
theorem dX5_keep_65 : decode cX5_keep 65 = .ok (.getfield 31, 3) := by decide +kernel
theorem dX5_keep_68 : decode cX5_keep 68 = .ok (.iconst 1, 1) := by decide +kernel
theorem dX5_keep_69 : decode cX5_keep 69 = .ok (.iadd, 1) := by decide +kernel
theorem dX5_keep_70 : decode cX5_keep 70 = .ok (.bipush 8, 2) := by decide +kernel
theorem dX5_keep_72 : decode cX5_keep 72 = .ok (.irem, 1) := by decide +kernel
theorem dX5_keep_73 : decode cX5_keep 73 = .ok (.putfield 31, 3) := by decide +kernel
theorem dX5_keep_76 : decode cX5_keep 76 = .ok (.aload_n 0, 1) := by decide +kernel
theorem dX5_keep_77 : decode cX5_keep 77 = .ok (.aload_n 0, 1) := by decide +kernel
theorem dX5_keep_78 : decode cX5_keep 78 = .ok (.getfield 24, 3) := by decide +kernel
theorem dX5_keep_81 : decode cX5_keep 81 = .ok (.iconst 1, 1) := by decide +kernel
theorem dX5_keep_82 : decode cX5_keep 82 = .ok (.iadd, 1) := by decide +kernel
theorem dX5_keep_83 : decode cX5_keep 83 = .ok (.bipush 8, 2) := by decide +kernel
theorem dX5_keep_85 : decode cX5_keep 85 = .ok (.invokestatic 54, 3) := by decide +kernel
theorem dX5_keep_88 : decode cX5_keep 88 = .ok (.putfield 24, 3) := by decide +kernel
theorem dX5_keep_91 : decode cX5_keep 91 = .ok (.return_, 1) := by decide +kernel
theorem dX5_goBack_0 : decode cX5_goBack 0 = .ok (.aload_n 0, 1) := by decide +kernel
theorem dX5_goBack_1 : decode cX5_goBack 1 = .ok (.getfield 24, 3) := by decide +kernel
theorem dX5_goBack_4 : decode cX5_goBack 4 = .ok (.ifCond .ne 5, 3) := by decide +kernel
theorem dX5_goBack_7 : decode cX5_goBack 7 = .ok (.iconst 0, 1) := by decide +kernel
theorem dX5_goBack_8 : decode cX5_goBack 8 = .ok (.ireturn, 1) := by decide +kernel
theorem dX5_goBack_9 : decode cX5_goBack 9 = .ok (.aload_n 0, 1) := by decide +kernel
theorem dX5_goBack_10 : decode cX5_goBack 10 = .ok (.aload_n 0, 1) := by decide +kernel
theorem dX5_goBack_11 : decode cX5_goBack 11 = .ok (.getfield 31, 3) := by decide +kernel
theorem dX5_goBack_14 : decode cX5_goBack 14 = .ok (.bipush 8, 2) := by decide +kernel
theorem dX5_goBack_16 : decode cX5_goBack 16 = .ok (.iadd, 1) := by decide +kernel
theorem dX5_goBack_17 : decode cX5_goBack 17 = .ok (.iconst 1, 1) := by decide +kernel
theorem dX5_goBack_18 : decode cX5_goBack 18 = .ok (.isub, 1) := by decide +kernel
theorem dX5_goBack_19 : decode cX5_goBack 19 = .ok (.bipush 8, 2) := by decide +kernel
theorem dX5_goBack_21 : decode cX5_goBack 21 = .ok (.irem, 1) := by decide +kernel
theorem dX5_goBack_22 : decode cX5_goBack 22 = .ok (.putfield 31, 3) := by decide +kernel
theorem dX5_goBack_25 : decode cX5_goBack 25 = .ok (.aload_n 0, 1) := by decide +kernel
theorem dX5_goBack_26 : decode cX5_goBack 26 = .ok (.dup, 1) := by decide +kernel
theorem dX5_goBack_27 : decode cX5_goBack 27 = .ok (.getfield 24, 3) := by decide +kernel
theorem dX5_goBack_30 : decode cX5_goBack 30 = .ok (.iconst 1, 1) := by decide +kernel
theorem dX5_goBack_31 : decode cX5_goBack 31 = .ok (.isub, 1) := by decide +kernel
theorem dX5_goBack_32 : decode cX5_goBack 32 = .ok (.putfield 24, 3) := by decide +kernel
theorem dX5_goBack_35 : decode cX5_goBack 35 = .ok (.aload_n 0, 1) := by decide +kernel
theorem dX5_goBack_36 : decode cX5_goBack 36 = .ok (.getfield 9, 3) := by decide +kernel
theorem dX5_goBack_39 : decode cX5_goBack 39 = .ok (.aload_n 0, 1) := by decide +kernel
theorem dX5_goBack_40 : decode cX5_goBack 40 = .ok (.getfield 31, 3) := by decide +kernel
theorem dX5_goBack_43 : decode cX5_goBack 43 = .ok (.bipush 10, 2) := by decide +kernel
theorem dX5_goBack_45 : decode cX5_goBack 45 = .ok (.imul, 1) := by decide +kernel
theorem dX5_goBack_46 : decode cX5_goBack 46 = .ok (.aload_n 1, 1) := by decide +kernel
theorem dX5_goBack_47 : decode cX5_goBack 47 = .ok (.getfield 28, 3) := by decide +kernel
theorem dX5_goBack_50 : decode cX5_goBack 50 = .ok (.iconst 0, 1) := by decide +kernel
theorem dX5_goBack_51 : decode cX5_goBack 51 = .ok (.bipush 10, 2) := by decide +kernel
theorem dX5_goBack_53 : decode cX5_goBack 53 = .ok (.invokestatic 34, 3) := by decide +kernel
theorem dX5_goBack_56 : decode cX5_goBack 56 = .ok (.aload_n 1, 1) := by decide +kernel
theorem dX5_goBack_57 : decode cX5_goBack 57 = .ok (.aload_n 0, 1) := by decide +kernel
theorem dX5_goBack_58 : decode cX5_goBack 58 = .ok (.getfield 15, 3) := by decide +kernel
theorem dX5_goBack_61 : decode cX5_goBack 61 = .ok (.aload_n 0, 1) := by decide +kernel
theorem dX5_goBack_62 : decode cX5_goBack 62 = .ok (.getfield 31, 3) := by decide +kernel
theorem dX5_goBack_65 : decode cX5_goBack 65 = .ok (.iaload, 1) := by decide +kernel
theorem dX5_goBack_66 : decode cX5_goBack 66 = .ok (.putfield 40, 3) := by decide +kernel
theorem dX5_goBack_69 : decode cX5_goBack 69 = .ok (.aload_n 1, 1) := by decide +kernel
theorem dX5_goBack_70 : decode cX5_goBack 70 = .ok (.aload_n 0, 1) := by decide +kernel
theorem dX5_goBack_71 : decode cX5_goBack 71 = .ok (.getfield 18, 3) := by decide +kernel
theorem dX5_goBack_74 : decode cX5_goBack 74 = .ok (.aload_n 0, 1) := by decide +kernel
theorem dX5_goBack_75 : decode cX5_goBack 75 = .ok (.getfield 31, 3) := by decide +kernel
theorem dX5_goBack_78 : decode cX5_goBack 78 = .ok (.iaload, 1) := by decide +kernel
theorem dX5_goBack_79 : decode cX5_goBack 79 = .ok (.putfield 42, 3) := by decide +kernel
theorem dX5_goBack_82 : decode cX5_goBack 82 = .ok (.aload_n 1, 1) := by decide +kernel
theorem dX5_goBack_83 : decode cX5_goBack 83 = .ok (.getfield 45, 3) := by decide +kernel
theorem dX5_goBack_86 : decode cX5_goBack 86 = .ok (.aload_n 0, 1) := by decide +kernel
theorem dX5_goBack_87 : decode cX5_goBack 87 = .ok (.getfield 21, 3) := by decide +kernel
theorem dX5_goBack_90 : decode cX5_goBack 90 = .ok (.aload_n 0, 1) := by decide +kernel
theorem dX5_goBack_91 : decode cX5_goBack 91 = .ok (.getfield 31, 3) := by decide +kernel
theorem dX5_goBack_94 : decode cX5_goBack 94 = .ok (.iaload, 1) := by decide +kernel
theorem dX5_goBack_95 : decode cX5_goBack 95 = .ok (.putfield 49, 3) := by decide +kernel
theorem dX5_goBack_98 : decode cX5_goBack 98 = .ok (.iconst 1, 1) := by decide +kernel
theorem dX5_goBack_99 : decode cX5_goBack 99 = .ok (.ireturn, 1) := by decide +kernel
theorem dX6_init_0 : decode cX6_init 0 = .ok (.aload_n 0, 1) := by decide +kernel
theorem dX6_init_1 : decode cX6_init 1 = .ok (.invokespecial 3, 3) := by decide +kernel
theorem dX6_init_4 : decode cX6_init 4 = .ok (.aload_n 0, 1) := by decide +kernel
theorem dX6_init_5 : decode cX6_init 5 = .ok (.sipush 400, 3) := by decide +kernel
theorem dX6_init_8 : decode cX6_init 8 = .ok (.newarray .byte, 2) := by decide +kernel
theorem dX6_init_10 : decode cX6_init 10 = .ok (.putfield 9, 3) := by decide +kernel
theorem dX6_init_13 : decode cX6_init 13 = .ok (.aload_n 0, 1) := by decide +kernel
theorem dX6_init_14 : decode cX6_init 14 = .ok (.new 15, 3) := by decide +kernel
theorem dX6_init_17 : decode cX6_init 17 = .ok (.dup, 1) := by decide +kernel
theorem dX6_init_18 : decode cX6_init 18 = .ok (.invokespecial 17, 3) := by decide +kernel
theorem dX6_init_21 : decode cX6_init 21 = .ok (.putfield 18, 3) := by decide +kernel
theorem dX6_init_24 : decode cX6_init 24 = .ok (.aload_n 0, 1) := by decide +kernel
theorem dX6_init_25 : decode cX6_init 25 = .ok (.bipush 32, 2) := by decide +kernel
theorem dX6_init_27 : decode cX6_init 27 = .ok (.newarray .int, 2) := by decide +kernel
theorem dX6_init_29 : decode cX6_init 29 = .ok (.putfield 22, 3) := by decide +kernel
theorem dX6_init_32 : decode cX6_init 32 = .ok (.aload_n 0, 1) := by decide +kernel
theorem dX6_init_33 : decode cX6_init 33 = .ok (.iconst (-1), 1) := by decide +kernel
theorem dX6_init_34 : decode cX6_init 34 = .ok (.putfield 26, 3) := by decide +kernel
theorem dX6_init_37 : decode cX6_init 37 = .ok (.return_, 1) := by decide +kernel
theorem dX6_readLaw_0 : decode cX6_readLaw 0 = .ok (.aload_n 0, 1) := by decide +kernel
theorem dX6_readLaw_1 : decode cX6_readLaw 1 = .ok (.iload_n 1, 1) := by decide +kernel
theorem dX6_readLaw_2 : decode cX6_readLaw 2 = .ok (.putfield 30, 3) := by decide +kernel
theorem dX6_readLaw_5 : decode cX6_readLaw 5 = .ok (.aload_n 0, 1) := by decide +kernel
theorem dX6_readLaw_6 : decode cX6_readLaw 6 = .ok (.iconst 0, 1) := by decide +kernel
theorem dX6_readLaw_7 : decode cX6_readLaw 7 = .ok (.putfield 33, 3) := by decide +kernel
theorem dX6_readLaw_10 : decode cX6_readLaw 10 = .ok (.aload_n 0, 1) := by decide +kernel
theorem dX6_readLaw_11 : decode cX6_readLaw 11 = .ok (.iconst 0, 1) := by decide +kernel
theorem dX6_readLaw_12 : decode cX6_readLaw 12 = .ok (.putfield 36, 3) := by decide +kernel
theorem dX6_readLaw_15 : decode cX6_readLaw 15 = .ok (.aload_n 0, 1) := by decide +kernel
theorem dX6_readLaw_16 : decode cX6_readLaw 16 = .ok (.iconst (-1), 1) := by decide +kernel
theorem dX6_readLaw_17 : decode cX6_readLaw 17 = .ok (.putfield 26, 3) := by decide +kernel
theorem dX6_readLaw_20 : decode cX6_readLaw 20 = .ok (.aload_n 0, 1) := by decide +kernel
theorem dX6_readLaw_21 : decode cX6_readLaw 21 = .ok (.iconst 0, 1) := by decide +kernel
theorem dX6_readLaw_22 : decode cX6_readLaw 22 = .ok (.putfield 39, 3) := by decide +kernel
theorem dX6_readLaw_25 : decode cX6_readLaw 25 = .ok (.aload_n 0, 1) := by decide +kernel
theorem dX6_readLaw_26 : decode cX6_readLaw 26 = .ok (.iconst 0, 1) := by decide +kernel
theorem dX6_readLaw_27 : decode cX6_readLaw 27 = .ok (.putfield 42, 3) := by decide +kernel
theorem dX6_readLaw_30 : decode cX6_readLaw 30 = .ok (.aload_n 0, 1) := by decide +kernel
theorem dX6_readLaw_31 : decode cX6_readLaw 31 = .ok (.iconst 0, 1) := by decide +kernel
theorem dX6_readLaw_32 : decode cX6_readLaw 32 = .ok (.putfield 45, 3) := by decide +kernel
theorem dX6_readLaw_35 : decode cX6_readLaw 35 = .ok (.aload_n 0, 1) := by decide +kernel
theorem dX6_readLaw_36 : decode cX6_readLaw 36 = .ok (.getfield 18, 3) := by decide +kernel
theorem dX6_readLaw_39 : decode cX6_readLaw 39 = .ok (.invokevirtual 48, 3) := by decide +kernel
theorem dX6_readLaw_42 : decode cX6_readLaw 42 = .ok (.iconst 0, 1) := by decide +kernel
theorem dX6_readLaw_43 : decode cX6_readLaw 43 = .ok (.istore_n 2, 1) := by decide +kernel
theorem dX6_readLaw_44 : decode cX6_readLaw 44 = .ok (.iload_n 2, 1) := by decide +kernel
theorem dX6_readLaw_45 : decode cX6_readLaw 45 = .ok (.sipush 400, 3) := by decide +kernel
theorem dX6_readLaw_48 : decode cX6_readLaw 48 = .ok (.if_icmp .gt 38, 3) := by decide +kernel
theorem dX6_readLaw_51 : decode cX6_readLaw 51 = .ok (.aload_n 0, 1) := by decide +kernel
theorem dX6_readLaw_52 : decode cX6_readLaw 52 = .ok (.invokevirtual 51, 3) := by decide +kernel
theorem dX6_readLaw_55 : decode cX6_readLaw 55 = .ok (.aload_n 0, 1) := by decide +kernel
theorem dX6_readLaw_56 : decode cX6_readLaw 56 = .ok (.getfield 54, 3) := by decide +kernel
theorem dX6_readLaw_59 : decode cX6_readLaw 59 = .ok (.ifCond .ne 12, 3) := by decide +kernel
theorem dX6_readLaw_62 : decode cX6_readLaw 62 = .ok (.aload_n 0, 1) := by decide +kernel
theorem dX6_readLaw_63 : decode cX6_readLaw 63 = .ok (.getfield 39, 3) := by decide +kernel
theorem dX6_readLaw_66 : decode cX6_readLaw 66 = .ok (.ifCond .ne 5, 3) := by decide +kernel
theorem dX6_readLaw_69 : decode cX6_readLaw 69 = .ok (.iconst 1, 1) := by decide +kernel
theorem dX6_readLaw_70 : decode cX6_readLaw 70 = .ok (.ireturn, 1) := by decide +kernel
theorem dX6_readLaw_71 : decode cX6_readLaw 71 = .ok (.aload_n 0, 1) := by decide +kernel
theorem dX6_readLaw_72 : decode cX6_readLaw 72 = .ok (.invokevirtual 57, 3) := by decide +kernel
theorem dX6_readLaw_75 : decode cX6_readLaw 75 = .ok (.ifCond .ne 5, 3) := by decide +kernel
theorem dX6_readLaw_78 : decode cX6_readLaw 78 = .ok (.iconst 0, 1) := by decide +kernel
theorem dX6_readLaw_79 : decode cX6_readLaw 79 = .ok (.ireturn, 1) := by decide +kernel
theorem dX6_readLaw_80 : decode cX6_readLaw 80 = .ok (.iinc 2 1, 3) := by decide +kernel
theorem dX6_readLaw_83 : decode cX6_readLaw 83 = .ok (.goto (-39), 3) := by decide +kernel
theorem dX6_readLaw_86 : decode cX6_readLaw 86 = .ok (.iconst 0, 1) := by decide +kernel
theorem dX6_readLaw_87 : decode cX6_readLaw 87 = .ok (.ireturn, 1) := by decide +kernel
theorem dX6_refuse_0 : decode cX6_refuse 0 = .ok (.aload_n 0, 1) := by decide +kernel
theorem dX6_refuse_1 : decode cX6_refuse 1 = .ok (.iload_n 1, 1) := by decide +kernel
theorem dX6_refuse_2 : decode cX6_refuse 2 = .ok (.putfield 36, 3) := by decide +kernel
theorem dX6_refuse_5 : decode cX6_refuse 5 = .ok (.aload_n 0, 1) := by decide +kernel
theorem dX6_refuse_6 : decode cX6_refuse 6 = .ok (.aload_n 0, 1) := by decide +kernel
theorem dX6_refuse_7 : decode cX6_refuse 7 = .ok (.getfield 61, 3) := by decide +kernel
theorem dX6_refuse_10 : decode cX6_refuse 10 = .ok (.putfield 26, 3) := by decide +kernel
theorem dX6_refuse_13 : decode cX6_refuse 13 = .ok (.iconst 0, 1) := by decide +kernel
theorem dX6_refuse_14 : decode cX6_refuse 14 = .ok (.ireturn, 1) := by decide +kernel
theorem dX6_accept_0 : decode cX6_accept 0 = .ok (.aload_n 0, 1) := by decide +kernel
theorem dX6_accept_1 : decode cX6_accept 1 = .ok (.getfield 39, 3) := by decide +kernel
theorem dX6_accept_4 : decode cX6_accept 4 = .ok (.tableswitch 70 0 5 #[40, 45, 50, 55, 60, 65], 40) := by decide +kernel
theorem dX6_accept_44 : decode cX6_accept 44 = .ok (.aload_n 0, 1) := by decide +kernel
theorem dX6_accept_45 : decode cX6_accept 45 = .ok (.invokevirtual 64, 3) := by decide +kernel
theorem dX6_accept_48 : decode cX6_accept 48 = .ok (.ireturn, 1) := by decide +kernel
theorem dX6_accept_49 : decode cX6_accept 49 = .ok (.aload_n 0, 1) := by decide +kernel
theorem dX6_accept_50 : decode cX6_accept 50 = .ok (.invokevirtual 67, 3) := by decide +kernel
theorem dX6_accept_53 : decode cX6_accept 53 = .ok (.ireturn, 1) := by decide +kernel
theorem dX6_accept_54 : decode cX6_accept 54 = .ok (.aload_n 0, 1) := by decide +kernel
theorem dX6_accept_55 : decode cX6_accept 55 = .ok (.invokevirtual 70, 3) := by decide +kernel
theorem dX6_accept_58 : decode cX6_accept 58 = .ok (.ireturn, 1) := by decide +kernel
theorem dX6_accept_59 : decode cX6_accept 59 = .ok (.aload_n 0, 1) := by decide +kernel
theorem dX6_accept_60 : decode cX6_accept 60 = .ok (.invokevirtual 73, 3) := by decide +kernel
theorem dX6_accept_63 : decode cX6_accept 63 = .ok (.ireturn, 1) := by decide +kernel
theorem dX6_accept_64 : decode cX6_accept 64 = .ok (.aload_n 0, 1) := by decide +kernel
theorem dX6_accept_65 : decode cX6_accept 65 = .ok (.invokevirtual 76, 3) := by decide +kernel
theorem dX6_accept_68 : decode cX6_accept 68 = .ok (.ireturn, 1) := by decide +kernel
theorem dX6_accept_69 : decode cX6_accept 69 = .ok (.aload_n 0, 1) := by decide +kernel
theorem dX6_accept_70 : decode cX6_accept 70 = .ok (.invokevirtual 79, 3) := by decide +kernel
theorem dX6_accept_73 : decode cX6_accept 73 = .ok (.ireturn, 1) := by decide +kernel
theorem dX6_accept_74 : decode cX6_accept 74 = .ok (.aload_n 0, 1) := by decide +kernel
theorem dX6_accept_75 : decode cX6_accept 75 = .ok (.invokevirtual 82, 3) := by decide +kernel
theorem dX6_accept_78 : decode cX6_accept 78 = .ok (.ireturn, 1) := by decide +kernel
theorem dX6_acceptLine_0 : decode cX6_acceptLine 0 = .ok (.aload_n 0, 1) := by decide +kernel
theorem dX6_acceptLine_1 : decode cX6_acceptLine 1 = .ok (.getfield 54, 3) := by decide +kernel
theorem dX6_acceptLine_4 : decode cX6_acceptLine 4 = .ok (.sipush 200, 3) := by decide +kernel
theorem dX6_acceptLine_7 : decode cX6_acceptLine 7 = .ok (.if_icmp .eq 19, 3) := by decide +kernel
theorem dX6_acceptLine_10 : decode cX6_acceptLine 10 = .ok (.aload_n 0, 1) := by decide +kernel
theorem dX6_acceptLine_11 : decode cX6_acceptLine 11 = .ok (.getfield 54, 3) := by decide +kernel
theorem dX6_acceptLine_14 : decode cX6_acceptLine 14 = .ok (.sipush 201, 3) := by decide +kernel
theorem dX6_acceptLine_17 : decode cX6_acceptLine 17 = .ok (.if_icmp .eq 9, 3) := by decide +kernel
theorem dX6_acceptLine_20 : decode cX6_acceptLine 20 = .ok (.aload_n 0, 1) := by decide +kernel
theorem dX6_acceptLine_21 : decode cX6_acceptLine 21 = .ok (.iconst 1, 1) := by decide +kernel
theorem dX6_acceptLine_22 : decode cX6_acceptLine 22 = .ok (.invokevirtual 85, 3) := by decide +kernel
theorem dX6_acceptLine_25 : decode cX6_acceptLine 25 = .ok (.ireturn, 1) := by decide +kernel
theorem dX6_acceptLine_26 : decode cX6_acceptLine 26 = .ok (.aload_n 0, 1) := by decide +kernel
theorem dX6_acceptLine_27 : decode cX6_acceptLine 27 = .ok (.getfield 18, 3) := by decide +kernel
theorem dX6_acceptLine_30 : decode cX6_acceptLine 30 = .ok (.getfield 89, 3) := by decide +kernel
theorem dX6_acceptLine_33 : decode cX6_acceptLine 33 = .ok (.bipush 16, 2) := by decide +kernel
theorem dX6_acceptLine_35 : decode cX6_acceptLine 35 = .ok (.if_icmp .lt 9, 3) := by decide +kernel
theorem dX6_acceptLine_38 : decode cX6_acceptLine 38 = .ok (.aload_n 0, 1) := by decide +kernel
theorem dX6_acceptLine_39 : decode cX6_acceptLine 39 = .ok (.iconst 3, 1) := by decide +kernel
theorem dX6_acceptLine_40 : decode cX6_acceptLine 40 = .ok (.invokevirtual 85, 3) := by decide +kernel
theorem dX6_acceptLine_43 : decode cX6_acceptLine 43 = .ok (.ireturn, 1) := by decide +kernel
theorem dX6_acceptLine_44 : decode cX6_acceptLine 44 = .ok (.aload_n 0, 1) := by decide +kernel
theorem dX6_acceptLine_45 : decode cX6_acceptLine 45 = .ok (.aload_n 0, 1) := by decide +kernel
theorem dX6_acceptLine_46 : decode cX6_acceptLine 46 = .ok (.getfield 54, 3) := by decide +kernel
theorem dX6_acceptLine_49 : decode cX6_acceptLine 49 = .ok (.sipush 200, 3) := by decide +kernel
theorem dX6_acceptLine_52 : decode cX6_acceptLine 52 = .ok (.if_icmp .ne 7, 3) := by decide +kernel
theorem dX6_acceptLine_55 : decode cX6_acceptLine 55 = .ok (.iconst 1, 1) := by decide +kernel
theorem dX6_acceptLine_56 : decode cX6_acceptLine 56 = .ok (.goto 4, 3) := by decide +kernel
theorem dX6_acceptLine_59 : decode cX6_acceptLine 59 = .ok (.iconst 0, 1) := by decide +kernel
theorem dX6_acceptLine_60 : decode cX6_acceptLine 60 = .ok (.putfield 92, 3) := by decide +kernel
theorem dX6_acceptLine_63 : decode cX6_acceptLine 63 = .ok (.aload_n 0, 1) := by decide +kernel
theorem dX6_acceptLine_64 : decode cX6_acceptLine 64 = .ok (.iconst 1, 1) := by decide +kernel
theorem dX6_acceptLine_65 : decode cX6_acceptLine 65 = .ok (.putfield 39, 3) := by decide +kernel
theorem dX6_acceptLine_68 : decode cX6_acceptLine 68 = .ok (.iconst 1, 1) := by decide +kernel
theorem dX6_acceptLine_69 : decode cX6_acceptLine 69 = .ok (.ireturn, 1) := by decide +kernel
theorem dX6_acceptLineTail_0 : decode cX6_acceptLineTail 0 = .ok (.aload_n 0, 1) := by decide +kernel
theorem dX6_acceptLineTail_1 : decode cX6_acceptLineTail 1 = .ok (.getfield 54, 3) := by decide +kernel
theorem dX6_acceptLineTail_4 : decode cX6_acceptLineTail 4 = .ok (.sipush 202, 3) := by decide +kernel
theorem dX6_acceptLineTail_7 : decode cX6_acceptLineTail 7 = .ok (.if_icmp .ne 10, 3) := by decide +kernel
theorem dX6_acceptLineTail_10 : decode cX6_acceptLineTail 10 = .ok (.aload_n 0, 1) := by decide +kernel
theorem dX6_acceptLineTail_11 : decode cX6_acceptLineTail 11 = .ok (.iconst 2, 1) := by decide +kernel
theorem dX6_acceptLineTail_12 : decode cX6_acceptLineTail 12 = .ok (.putfield 39, 3) := by decide +kernel
theorem dX6_acceptLineTail_15 : decode cX6_acceptLineTail 15 = .ok (.iconst 1, 1) := by decide +kernel
theorem dX6_acceptLineTail_16 : decode cX6_acceptLineTail 16 = .ok (.ireturn, 1) := by decide +kernel
theorem dX6_acceptLineTail_17 : decode cX6_acceptLineTail 17 = .ok (.aload_n 0, 1) := by decide +kernel
theorem dX6_acceptLineTail_18 : decode cX6_acceptLineTail 18 = .ok (.getfield 54, 3) := by decide +kernel
theorem dX6_acceptLineTail_21 : decode cX6_acceptLineTail 21 = .ok (.bipush 59, 2) := by decide +kernel
theorem dX6_acceptLineTail_23 : decode cX6_acceptLineTail 23 = .ok (.if_icmp .ne 10, 3) := by decide +kernel
theorem dX6_acceptLineTail_26 : decode cX6_acceptLineTail 26 = .ok (.aload_n 0, 1) := by decide +kernel
theorem dX6_acceptLineTail_27 : decode cX6_acceptLineTail 27 = .ok (.invokevirtual 96, 3) := by decide +kernel
theorem dX6_acceptLineTail_30 : decode cX6_acceptLineTail 30 = .ok (.goto 8, 3) := by decide +kernel
theorem dX6_acceptLineTail_33 : decode cX6_acceptLineTail 33 = .ok (.aload_n 0, 1) := by decide +kernel
theorem dX6_acceptLineTail_34 : decode cX6_acceptLineTail 34 = .ok (.iconst 1, 1) := by decide +kernel
theorem dX6_acceptLineTail_35 : decode cX6_acceptLineTail 35 = .ok (.invokevirtual 85, 3) := by decide +kernel
theorem dX6_acceptLineTail_38 : decode cX6_acceptLineTail 38 = .ok (.ireturn, 1) := by decide +kernel
theorem dX6_acceptCondition_0 : decode cX6_acceptCondition 0 = .ok (.aload_n 0, 1) := by decide +kernel
theorem dX6_acceptCondition_1 : decode cX6_acceptCondition 1 = .ok (.getfield 54, 3) := by decide +kernel
theorem dX6_acceptCondition_4 : decode cX6_acceptCondition 4 = .ok (.sipush 205, 3) := by decide +kernel
theorem dX6_acceptCondition_7 : decode cX6_acceptCondition 7 = .ok (.if_icmp .eq 22, 3) := by decide +kernel
theorem dX6_acceptCondition_10 : decode cX6_acceptCondition 10 = .ok (.aload_n 0, 1) := by decide +kernel
theorem dX6_acceptCondition_11 : decode cX6_acceptCondition 11 = .ok (.getfield 54, 3) := by decide +kernel
theorem dX6_acceptCondition_14 : decode cX6_acceptCondition 14 = .ok (.bipush 40, 2) := by decide +kernel
theorem dX6_acceptCondition_16 : decode cX6_acceptCondition 16 = .ok (.if_icmp .eq 13, 3) := by decide +kernel
theorem dX6_acceptCondition_19 : decode cX6_acceptCondition 19 = .ok (.aload_n 0, 1) := by decide +kernel
theorem dX6_acceptCondition_20 : decode cX6_acceptCondition 20 = .ok (.iconst 0, 1) := by decide +kernel
theorem dX6_acceptCondition_21 : decode cX6_acceptCondition 21 = .ok (.putfield 99, 3) := by decide +kernel
theorem dX6_acceptCondition_24 : decode cX6_acceptCondition 24 = .ok (.aload_n 0, 1) := by decide +kernel
theorem dX6_acceptCondition_25 : decode cX6_acceptCondition 25 = .ok (.invokevirtual 73, 3) := by decide +kernel
theorem dX6_acceptCondition_28 : decode cX6_acceptCondition 28 = .ok (.ireturn, 1) := by decide +kernel
theorem dX6_acceptCondition_29 : decode cX6_acceptCondition 29 = .ok (.aload_n 0, 1) := by decide +kernel
theorem dX6_acceptCondition_30 : decode cX6_acceptCondition 30 = .ok (.getfield 45, 3) := by decide +kernel
theorem dX6_acceptCondition_33 : decode cX6_acceptCondition 33 = .ok (.bipush 8, 2) := by decide +kernel
theorem dX6_acceptCondition_35 : decode cX6_acceptCondition 35 = .ok (.if_icmp .lt 9, 3) := by decide +kernel
theorem dX6_acceptCondition_38 : decode cX6_acceptCondition 38 = .ok (.aload_n 0, 1) := by decide +kernel
theorem dX6_acceptCondition_39 : decode cX6_acceptCondition 39 = .ok (.iconst 3, 1) := by decide +kernel
theorem dX6_acceptCondition_40 : decode cX6_acceptCondition 40 = .ok (.invokevirtual 85, 3) := by decide +kernel
theorem dX6_acceptCondition_43 : decode cX6_acceptCondition 43 = .ok (.ireturn, 1) := by decide +kernel
theorem dX6_acceptCondition_44 : decode cX6_acceptCondition 44 = .ok (.aload_n 0, 1) := by decide +kernel
theorem dX6_acceptCondition_45 : decode cX6_acceptCondition 45 = .ok (.dup, 1) := by decide +kernel
theorem dX6_acceptCondition_46 : decode cX6_acceptCondition 46 = .ok (.getfield 45, 3) := by decide +kernel
theorem dX6_acceptCondition_49 : decode cX6_acceptCondition 49 = .ok (.iconst 1, 1) := by decide +kernel
theorem dX6_acceptCondition_50 : decode cX6_acceptCondition 50 = .ok (.iadd, 1) := by decide +kernel
theorem dX6_acceptCondition_51 : decode cX6_acceptCondition 51 = .ok (.putfield 45, 3) := by decide +kernel
theorem dX6_acceptCondition_54 : decode cX6_acceptCondition 54 = .ok (.aload_n 0, 1) := by decide +kernel
theorem dX6_acceptCondition_55 : decode cX6_acceptCondition 55 = .ok (.aload_n 0, 1) := by decide +kernel
theorem dX6_acceptCondition_56 : decode cX6_acceptCondition 56 = .ok (.getfield 54, 3) := by decide +kernel
theorem dX6_acceptCondition_59 : decode cX6_acceptCondition 59 = .ok (.iconst 2, 1) := by decide +kernel
theorem dX6_acceptCondition_60 : decode cX6_acceptCondition 60 = .ok (.invokevirtual 102, 3) := by decide +kernel
theorem dX6_acceptCondition_63 : decode cX6_acceptCondition 63 = .ok (.ireturn, 1) := by decide +kernel
theorem dX6_acceptValue_0 : decode cX6_acceptValue 0 = .ok (.aload_n 0, 1) := by decide +kernel
theorem dX6_acceptValue_1 : decode cX6_acceptValue 1 = .ok (.getfield 54, 3) := by decide +kernel
theorem dX6_acceptValue_4 : decode cX6_acceptValue 4 = .ok (.iconst 2, 1) := by decide +kernel
theorem dX6_acceptValue_5 : decode cX6_acceptValue 5 = .ok (.if_icmp .ne 17, 3) := by decide +kernel
theorem dX6_acceptValue_8 : decode cX6_acceptValue 8 = .ok (.aload_n 0, 1) := by decide +kernel
theorem dX6_acceptValue_9 : decode cX6_acceptValue 9 = .ok (.getfield 18, 3) := by decide +kernel
theorem dX6_acceptValue_12 : decode cX6_acceptValue 12 = .ok (.aload_n 0, 1) := by decide +kernel
theorem dX6_acceptValue_13 : decode cX6_acceptValue 13 = .ok (.getfield 106, 3) := by decide +kernel
theorem dX6_acceptValue_16 : decode cX6_acceptValue 16 = .ok (.invokevirtual 109, 3) := by decide +kernel
theorem dX6_acceptValue_19 : decode cX6_acceptValue 19 = .ok (.goto 44, 3) := by decide +kernel
theorem dX6_acceptValue_22 : decode cX6_acceptValue 22 = .ok (.aload_n 0, 1) := by decide +kernel
theorem dX6_acceptValue_23 : decode cX6_acceptValue 23 = .ok (.getfield 54, 3) := by decide +kernel
theorem dX6_acceptValue_26 : decode cX6_acceptValue 26 = .ok (.sipush 206, 3) := by decide +kernel
theorem dX6_acceptValue_29 : decode cX6_acceptValue 29 = .ok (.if_icmp .lt 28, 3) := by decide +kernel
theorem dX6_acceptValue_32 : decode cX6_acceptValue 32 = .ok (.aload_n 0, 1) := by decide +kernel
theorem dX6_acceptValue_33 : decode cX6_acceptValue 33 = .ok (.getfield 54, 3) := by decide +kernel
theorem dX6_acceptValue_36 : decode cX6_acceptValue 36 = .ok (.sipush 214, 3) := by decide +kernel
theorem dX6_acceptValue_39 : decode cX6_acceptValue 39 = .ok (.if_icmp .gt 18, 3) := by decide +kernel
theorem dX6_acceptValue_42 : decode cX6_acceptValue 42 = .ok (.aload_n 0, 1) := by decide +kernel
theorem dX6_acceptValue_43 : decode cX6_acceptValue 43 = .ok (.getfield 18, 3) := by decide +kernel
theorem dX6_acceptValue_46 : decode cX6_acceptValue 46 = .ok (.aload_n 0, 1) := by decide +kernel
theorem dX6_acceptValue_47 : decode cX6_acceptValue 47 = .ok (.getfield 54, 3) := by decide +kernel
theorem dX6_acceptValue_50 : decode cX6_acceptValue 50 = .ok (.ineg, 1) := by decide +kernel
theorem dX6_acceptValue_51 : decode cX6_acceptValue 51 = .ok (.invokevirtual 109, 3) := by decide +kernel
theorem dX6_acceptValue_54 : decode cX6_acceptValue 54 = .ok (.goto 9, 3) := by decide +kernel
theorem dX6_acceptValue_57 : decode cX6_acceptValue 57 = .ok (.aload_n 0, 1) := by decide +kernel
theorem dX6_acceptValue_58 : decode cX6_acceptValue 58 = .ok (.iconst 1, 1) := by decide +kernel
theorem dX6_acceptValue_59 : decode cX6_acceptValue 59 = .ok (.invokevirtual 85, 3) := by decide +kernel
theorem dX6_acceptValue_62 : decode cX6_acceptValue 62 = .ok (.ireturn, 1) := by decide +kernel
theorem dX6_acceptValue_63 : decode cX6_acceptValue 63 = .ok (.aload_n 0, 1) := by decide +kernel
theorem dX6_acceptValue_64 : decode cX6_acceptValue 64 = .ok (.iconst 5, 1) := by decide +kernel
theorem dX6_acceptValue_65 : decode cX6_acceptValue 65 = .ok (.putfield 39, 3) := by decide +kernel
theorem dX6_acceptValue_68 : decode cX6_acceptValue 68 = .ok (.iconst 1, 1) := by decide +kernel
theorem dX6_acceptValue_69 : decode cX6_acceptValue 69 = .ok (.ireturn, 1) := by decide +kernel
theorem dX6_acceptDivisor_0 : decode cX6_acceptDivisor 0 = .ok (.aload_n 0, 1) := by decide +kernel
theorem dX6_acceptDivisor_1 : decode cX6_acceptDivisor 1 = .ok (.getfield 54, 3) := by decide +kernel
theorem dX6_acceptDivisor_4 : decode cX6_acceptDivisor 4 = .ok (.iconst 2, 1) := by decide +kernel
theorem dX6_acceptDivisor_5 : decode cX6_acceptDivisor 5 = .ok (.if_icmp .eq 9, 3) := by decide +kernel
theorem dX6_acceptDivisor_8 : decode cX6_acceptDivisor 8 = .ok (.aload_n 0, 1) := by decide +kernel
theorem dX6_acceptDivisor_9 : decode cX6_acceptDivisor 9 = .ok (.iconst 1, 1) := by decide +kernel
theorem dX6_acceptDivisor_10 : decode cX6_acceptDivisor 10 = .ok (.invokevirtual 85, 3) := by decide +kernel
theorem dX6_acceptDivisor_13 : decode cX6_acceptDivisor 13 = .ok (.ireturn, 1) := by decide +kernel
theorem dX6_acceptDivisor_14 : decode cX6_acceptDivisor 14 = .ok (.aload_n 0, 1) := by decide +kernel
theorem dX6_acceptDivisor_15 : decode cX6_acceptDivisor 15 = .ok (.getfield 106, 3) := by decide +kernel
theorem dX6_acceptDivisor_18 : decode cX6_acceptDivisor 18 = .ok (.ifCond .ne 11, 3) := by decide +kernel
theorem dX6_acceptDivisor_21 : decode cX6_acceptDivisor 21 = .ok (.aload_n 0, 1) := by decide +kernel
theorem dX6_acceptDivisor_22 : decode cX6_acceptDivisor 22 = .ok (.iconst 2, 1) := by decide +kernel
theorem dX6_acceptDivisor_23 : decode cX6_acceptDivisor 23 = .ok (.invokevirtual 85, 3) := by decide +kernel
theorem dX6_acceptDivisor_26 : decode cX6_acceptDivisor 26 = .ok (.goto 7, 3) := by decide +kernel
theorem dX6_acceptDivisor_29 : decode cX6_acceptDivisor 29 = .ok (.aload_n 0, 1) := by decide +kernel
theorem dX6_acceptDivisor_30 : decode cX6_acceptDivisor 30 = .ok (.invokevirtual 73, 3) := by decide +kernel
theorem dX6_acceptDivisor_33 : decode cX6_acceptDivisor 33 = .ok (.ireturn, 1) := by decide +kernel
theorem dX6_acceptValueTail_0 : decode cX6_acceptValueTail 0 = .ok (.aload_n 0, 1) := by decide +kernel
theorem dX6_acceptValueTail_1 : decode cX6_acceptValueTail 1 = .ok (.getfield 54, 3) := by decide +kernel
theorem dX6_acceptValueTail_4 : decode cX6_acceptValueTail 4 = .ok (.invokestatic 113, 3) := by decide +kernel
theorem dX6_acceptValueTail_7 : decode cX6_acceptValueTail 7 = .ok (.istore_n 1, 1) := by decide +kernel
theorem dX6_acceptValueTail_8 : decode cX6_acceptValueTail 8 = .ok (.iload_n 1, 1) := by decide +kernel
theorem dX6_acceptValueTail_9 : decode cX6_acceptValueTail 9 = .ok (.bipush 43, 2) := by decide +kernel
theorem dX6_acceptValueTail_11 : decode cX6_acceptValueTail 11 = .ok (.invokestatic 113, 3) := by decide +kernel
theorem dX6_acceptValueTail_14 : decode cX6_acceptValueTail 14 = .ok (.if_icmp .lt 31, 3) := by decide +kernel
theorem dX6_acceptValueTail_17 : decode cX6_acceptValueTail 17 = .ok (.aload_n 0, 1) := by decide +kernel
theorem dX6_acceptValueTail_18 : decode cX6_acceptValueTail 18 = .ok (.iload_n 1, 1) := by decide +kernel
theorem dX6_acceptValueTail_19 : decode cX6_acceptValueTail 19 = .ok (.invokevirtual 117, 3) := by decide +kernel
theorem dX6_acceptValueTail_22 : decode cX6_acceptValueTail 22 = .ok (.aload_n 0, 1) := by decide +kernel
theorem dX6_acceptValueTail_23 : decode cX6_acceptValueTail 23 = .ok (.aload_n 0, 1) := by decide +kernel
theorem dX6_acceptValueTail_24 : decode cX6_acceptValueTail 24 = .ok (.getfield 54, 3) := by decide +kernel
theorem dX6_acceptValueTail_27 : decode cX6_acceptValueTail 27 = .ok (.aload_n 0, 1) := by decide +kernel
theorem dX6_acceptValueTail_28 : decode cX6_acceptValueTail 28 = .ok (.getfield 54, 3) := by decide +kernel
theorem dX6_acceptValueTail_31 : decode cX6_acceptValueTail 31 = .ok (.bipush 47, 2) := by decide +kernel
theorem dX6_acceptValueTail_33 : decode cX6_acceptValueTail 33 = .ok (.if_icmp .ne 7, 3) := by decide +kernel
theorem dX6_acceptValueTail_36 : decode cX6_acceptValueTail 36 = .ok (.iconst 4, 1) := by decide +kernel
theorem dX6_acceptValueTail_37 : decode cX6_acceptValueTail 37 = .ok (.goto 4, 3) := by decide +kernel
theorem dX6_acceptValueTail_40 : decode cX6_acceptValueTail 40 = .ok (.iconst 3, 1) := by decide +kernel
theorem dX6_acceptValueTail_41 : decode cX6_acceptValueTail 41 = .ok (.invokevirtual 102, 3) := by decide +kernel
theorem dX6_acceptValueTail_44 : decode cX6_acceptValueTail 44 = .ok (.ireturn, 1) := by decide +kernel
theorem dX6_acceptValueTail_45 : decode cX6_acceptValueTail 45 = .ok (.aload_n 0, 1) := by decide +kernel
theorem dX6_acceptValueTail_46 : decode cX6_acceptValueTail 46 = .ok (.getfield 99, 3) := by decide +kernel
theorem dX6_acceptValueTail_49 : decode cX6_acceptValueTail 49 = .ok (.ifCond .eq 8, 3) := by decide +kernel
theorem dX6_acceptValueTail_52 : decode cX6_acceptValueTail 52 = .ok (.aload_n 0, 1) := by decide +kernel
theorem dX6_acceptValueTail_53 : decode cX6_acceptValueTail 53 = .ok (.invokevirtual 82, 3) := by decide +kernel
theorem dX6_acceptValueTail_56 : decode cX6_acceptValueTail 56 = .ok (.ireturn, 1) := by decide +kernel
theorem dX6_acceptValueTail_57 : decode cX6_acceptValueTail 57 = .ok (.iload_n 1, 1) := by decide +kernel
theorem dX6_acceptValueTail_58 : decode cX6_acceptValueTail 58 = .ok (.bipush 61, 2) := by decide +kernel
theorem dX6_acceptValueTail_60 : decode cX6_acceptValueTail 60 = .ok (.invokestatic 113, 3) := by decide +kernel
theorem dX6_acceptValueTail_63 : decode cX6_acceptValueTail 63 = .ok (.if_icmp .eq 9, 3) := by decide +kernel
theorem dX6_acceptValueTail_66 : decode cX6_acceptValueTail 66 = .ok (.aload_n 0, 1) := by decide +kernel
theorem dX6_acceptValueTail_67 : decode cX6_acceptValueTail 67 = .ok (.iconst 1, 1) := by decide +kernel
theorem dX6_acceptValueTail_68 : decode cX6_acceptValueTail 68 = .ok (.invokevirtual 85, 3) := by decide +kernel
theorem dX6_acceptValueTail_71 : decode cX6_acceptValueTail 71 = .ok (.ireturn, 1) := by decide +kernel
theorem dX6_acceptValueTail_72 : decode cX6_acceptValueTail 72 = .ok (.aload_n 0, 1) := by decide +kernel
theorem dX6_acceptValueTail_73 : decode cX6_acceptValueTail 73 = .ok (.iload_n 1, 1) := by decide +kernel
theorem dX6_acceptValueTail_74 : decode cX6_acceptValueTail 74 = .ok (.invokevirtual 117, 3) := by decide +kernel
theorem dX6_acceptValueTail_77 : decode cX6_acceptValueTail 77 = .ok (.aload_n 0, 1) := by decide +kernel
theorem dX6_acceptValueTail_78 : decode cX6_acceptValueTail 78 = .ok (.iconst 1, 1) := by decide +kernel
theorem dX6_acceptValueTail_79 : decode cX6_acceptValueTail 79 = .ok (.putfield 99, 3) := by decide +kernel
theorem dX6_acceptValueTail_82 : decode cX6_acceptValueTail 82 = .ok (.aload_n 0, 1) := by decide +kernel
theorem dX6_acceptValueTail_83 : decode cX6_acceptValueTail 83 = .ok (.aload_n 0, 1) := by decide +kernel
theorem dX6_acceptValueTail_84 : decode cX6_acceptValueTail 84 = .ok (.getfield 54, 3) := by decide +kernel
theorem dX6_acceptValueTail_87 : decode cX6_acceptValueTail 87 = .ok (.iconst 3, 1) := by decide +kernel
theorem dX6_acceptValueTail_88 : decode cX6_acceptValueTail 88 = .ok (.invokevirtual 102, 3) := by decide +kernel
theorem dX6_acceptValueTail_91 : decode cX6_acceptValueTail 91 = .ok (.ireturn, 1) := by decide +kernel
theorem dX6_acceptConditionTail_0 : decode cX6_acceptConditionTail 0 = .ok (.aload_n 0, 1) := by decide +kernel
theorem dX6_acceptConditionTail_1 : decode cX6_acceptConditionTail 1 = .ok (.getfield 54, 3) := by decide +kernel
theorem dX6_acceptConditionTail_4 : decode cX6_acceptConditionTail 4 = .ok (.sipush 204, 3) := by decide +kernel
theorem dX6_acceptConditionTail_7 : decode cX6_acceptConditionTail 7 = .ok (.if_icmp .eq 13, 3) := by decide +kernel
theorem dX6_acceptConditionTail_10 : decode cX6_acceptConditionTail 10 = .ok (.aload_n 0, 1) := by decide +kernel
theorem dX6_acceptConditionTail_11 : decode cX6_acceptConditionTail 11 = .ok (.getfield 54, 3) := by decide +kernel
theorem dX6_acceptConditionTail_14 : decode cX6_acceptConditionTail 14 = .ok (.sipush 203, 3) := by decide +kernel
theorem dX6_acceptConditionTail_17 : decode cX6_acceptConditionTail 17 = .ok (.if_icmp .ne 24, 3) := by decide +kernel
theorem dX6_acceptConditionTail_20 : decode cX6_acceptConditionTail 20 = .ok (.aload_n 0, 1) := by decide +kernel
theorem dX6_acceptConditionTail_21 : decode cX6_acceptConditionTail 21 = .ok (.aload_n 0, 1) := by decide +kernel
theorem dX6_acceptConditionTail_22 : decode cX6_acceptConditionTail 22 = .ok (.getfield 54, 3) := by decide +kernel
theorem dX6_acceptConditionTail_25 : decode cX6_acceptConditionTail 25 = .ok (.invokestatic 113, 3) := by decide +kernel
theorem dX6_acceptConditionTail_28 : decode cX6_acceptConditionTail 28 = .ok (.invokevirtual 117, 3) := by decide +kernel
theorem dX6_acceptConditionTail_31 : decode cX6_acceptConditionTail 31 = .ok (.aload_n 0, 1) := by decide +kernel
theorem dX6_acceptConditionTail_32 : decode cX6_acceptConditionTail 32 = .ok (.aload_n 0, 1) := by decide +kernel
theorem dX6_acceptConditionTail_33 : decode cX6_acceptConditionTail 33 = .ok (.getfield 54, 3) := by decide +kernel
theorem dX6_acceptConditionTail_36 : decode cX6_acceptConditionTail 36 = .ok (.iconst 2, 1) := by decide +kernel
theorem dX6_acceptConditionTail_37 : decode cX6_acceptConditionTail 37 = .ok (.invokevirtual 102, 3) := by decide +kernel
theorem dX6_acceptConditionTail_40 : decode cX6_acceptConditionTail 40 = .ok (.ireturn, 1) := by decide +kernel
theorem dX6_acceptConditionTail_41 : decode cX6_acceptConditionTail 41 = .ok (.aload_n 0, 1) := by decide +kernel
theorem dX6_acceptConditionTail_42 : decode cX6_acceptConditionTail 42 = .ok (.getfield 54, 3) := by decide +kernel
theorem dX6_acceptConditionTail_45 : decode cX6_acceptConditionTail 45 = .ok (.bipush 41, 2) := by decide +kernel
theorem dX6_acceptConditionTail_47 : decode cX6_acceptConditionTail 47 = .ok (.if_icmp .eq 18, 3) := by decide +kernel
theorem dX6_acceptConditionTail_50 : decode cX6_acceptConditionTail 50 = .ok (.aload_n 0, 1) := by decide +kernel
theorem dX6_acceptConditionTail_51 : decode cX6_acceptConditionTail 51 = .ok (.getfield 54, 3) := by decide +kernel
theorem dX6_acceptConditionTail_54 : decode cX6_acceptConditionTail 54 = .ok (.bipush 59, 2) := by decide +kernel
theorem dX6_acceptConditionTail_56 : decode cX6_acceptConditionTail 56 = .ok (.if_icmp .eq 9, 3) := by decide +kernel
theorem dX6_acceptConditionTail_59 : decode cX6_acceptConditionTail 59 = .ok (.aload_n 0, 1) := by decide +kernel
theorem dX6_acceptConditionTail_60 : decode cX6_acceptConditionTail 60 = .ok (.iconst 1, 1) := by decide +kernel
theorem dX6_acceptConditionTail_61 : decode cX6_acceptConditionTail 61 = .ok (.invokevirtual 85, 3) := by decide +kernel
theorem dX6_acceptConditionTail_64 : decode cX6_acceptConditionTail 64 = .ok (.ireturn, 1) := by decide +kernel
theorem dX6_acceptConditionTail_65 : decode cX6_acceptConditionTail 65 = .ok (.aload_n 0, 1) := by decide +kernel
theorem dX6_acceptConditionTail_66 : decode cX6_acceptConditionTail 66 = .ok (.sipush 203, 3) := by decide +kernel
theorem dX6_acceptConditionTail_69 : decode cX6_acceptConditionTail 69 = .ok (.invokestatic 113, 3) := by decide +kernel
theorem dX6_acceptConditionTail_72 : decode cX6_acceptConditionTail 72 = .ok (.invokevirtual 117, 3) := by decide +kernel
theorem dX6_acceptConditionTail_75 : decode cX6_acceptConditionTail 75 = .ok (.aload_n 0, 1) := by decide +kernel
theorem dX6_acceptConditionTail_76 : decode cX6_acceptConditionTail 76 = .ok (.getfield 42, 3) := by decide +kernel
theorem dX6_acceptConditionTail_79 : decode cX6_acceptConditionTail 79 = .ok (.ifCond .le 7, 3) := by decide +kernel
theorem dX6_acceptConditionTail_82 : decode cX6_acceptConditionTail 82 = .ok (.iconst 1, 1) := by decide +kernel
theorem dX6_acceptConditionTail_83 : decode cX6_acceptConditionTail 83 = .ok (.goto 4, 3) := by decide +kernel
theorem dX6_acceptConditionTail_86 : decode cX6_acceptConditionTail 86 = .ok (.iconst 0, 1) := by decide +kernel
theorem dX6_acceptConditionTail_87 : decode cX6_acceptConditionTail 87 = .ok (.istore_n 1, 1) := by decide +kernel
theorem dX6_acceptConditionTail_88 : decode cX6_acceptConditionTail 88 = .ok (.iload_n 1, 1) := by decide +kernel
theorem dX6_acceptConditionTail_89 : decode cX6_acceptConditionTail 89 = .ok (.aload_n 0, 1) := by decide +kernel
theorem dX6_acceptConditionTail_90 : decode cX6_acceptConditionTail 90 = .ok (.getfield 54, 3) := by decide +kernel
theorem dX6_acceptConditionTail_93 : decode cX6_acceptConditionTail 93 = .ok (.bipush 41, 2) := by decide +kernel
theorem dX6_acceptConditionTail_95 : decode cX6_acceptConditionTail 95 = .ok (.if_icmp .ne 7, 3) := by decide +kernel
theorem dX6_acceptConditionTail_98 : decode cX6_acceptConditionTail 98 = .ok (.iconst 1, 1) := by decide +kernel
theorem dX6_acceptConditionTail_99 : decode cX6_acceptConditionTail 99 = .ok (.goto 4, 3) := by decide +kernel
theorem dX6_acceptConditionTail_102 : decode cX6_acceptConditionTail 102 = .ok (.iconst 0, 1) := by decide +kernel
theorem dX6_acceptConditionTail_103 : decode cX6_acceptConditionTail 103 = .ok (.if_icmp .eq 9, 3) := by decide +kernel
theorem dX6_acceptConditionTail_106 : decode cX6_acceptConditionTail 106 = .ok (.aload_n 0, 1) := by decide +kernel
theorem dX6_acceptConditionTail_107 : decode cX6_acceptConditionTail 107 = .ok (.iconst 1, 1) := by decide +kernel
theorem dX6_acceptConditionTail_108 : decode cX6_acceptConditionTail 108 = .ok (.invokevirtual 85, 3) := by decide +kernel
theorem dX6_acceptConditionTail_111 : decode cX6_acceptConditionTail 111 = .ok (.ireturn, 1) := by decide +kernel
theorem dX6_acceptConditionTail_112 : decode cX6_acceptConditionTail 112 = .ok (.iload_n 1, 1) := by decide +kernel
theorem dX6_acceptConditionTail_113 : decode cX6_acceptConditionTail 113 = .ok (.ifCond .eq 10, 3) := by decide +kernel
theorem dX6_acceptConditionTail_116 : decode cX6_acceptConditionTail 116 = .ok (.aload_n 0, 1) := by decide +kernel
theorem dX6_acceptConditionTail_117 : decode cX6_acceptConditionTail 117 = .ok (.invokevirtual 120, 3) := by decide +kernel
theorem dX6_acceptConditionTail_120 : decode cX6_acceptConditionTail 120 = .ok (.goto 7, 3) := by decide +kernel
theorem dX6_acceptConditionTail_123 : decode cX6_acceptConditionTail 123 = .ok (.aload_n 0, 1) := by decide +kernel
theorem dX6_acceptConditionTail_124 : decode cX6_acceptConditionTail 124 = .ok (.invokevirtual 96, 3) := by decide +kernel
theorem dX6_acceptConditionTail_127 : decode cX6_acceptConditionTail 127 = .ok (.ireturn, 1) := by decide +kernel
theorem dX6_closeBracket_0 : decode cX6_closeBracket 0 = .ok (.aload_n 0, 1) := by decide +kernel
theorem dX6_closeBracket_1 : decode cX6_closeBracket 1 = .ok (.dup, 1) := by decide +kernel
theorem dX6_closeBracket_2 : decode cX6_closeBracket 2 = .ok (.getfield 42, 3) := by decide +kernel
theorem dX6_closeBracket_5 : decode cX6_closeBracket 5 = .ok (.iconst 1, 1) := by decide +kernel
theorem dX6_closeBracket_6 : decode cX6_closeBracket 6 = .ok (.isub, 1) := by decide +kernel
theorem dX6_closeBracket_7 : decode cX6_closeBracket 7 = .ok (.putfield 42, 3) := by decide +kernel
theorem dX6_closeBracket_10 : decode cX6_closeBracket 10 = .ok (.aload_n 0, 1) := by decide +kernel
theorem dX6_closeBracket_11 : decode cX6_closeBracket 11 = .ok (.dup, 1) := by decide +kernel
theorem dX6_closeBracket_12 : decode cX6_closeBracket 12 = .ok (.getfield 45, 3) := by decide +kernel
theorem dX6_closeBracket_15 : decode cX6_closeBracket 15 = .ok (.iconst 1, 1) := by decide +kernel
theorem dX6_closeBracket_16 : decode cX6_closeBracket 16 = .ok (.isub, 1) := by decide +kernel
theorem dX6_closeBracket_17 : decode cX6_closeBracket 17 = .ok (.putfield 45, 3) := by decide +kernel
theorem dX6_closeBracket_20 : decode cX6_closeBracket 20 = .ok (.aload_n 0, 1) := by decide +kernel
theorem dX6_closeBracket_21 : decode cX6_closeBracket 21 = .ok (.bipush 6, 2) := by decide +kernel
theorem dX6_closeBracket_23 : decode cX6_closeBracket 23 = .ok (.putfield 39, 3) := by decide +kernel
theorem dX6_closeBracket_26 : decode cX6_closeBracket 26 = .ok (.iconst 1, 1) := by decide +kernel
theorem dX6_closeBracket_27 : decode cX6_closeBracket 27 = .ok (.ireturn, 1) := by decide +kernel
theorem dX6_closeLine_0 : decode cX6_closeLine 0 = .ok (.aload_n 0, 1) := by decide +kernel
theorem dX6_closeLine_1 : decode cX6_closeLine 1 = .ok (.getfield 18, 3) := by decide +kernel
theorem dX6_closeLine_4 : decode cX6_closeLine 4 = .ok (.aload_n 0, 1) := by decide +kernel
theorem dX6_closeLine_5 : decode cX6_closeLine 5 = .ok (.getfield 92, 3) := by decide +kernel
theorem dX6_closeLine_8 : decode cX6_closeLine 8 = .ok (.invokevirtual 123, 3) := by decide +kernel
theorem dX6_closeLine_11 : decode cX6_closeLine 11 = .ok (.aload_n 0, 1) := by decide +kernel
theorem dX6_closeLine_12 : decode cX6_closeLine 12 = .ok (.iconst 0, 1) := by decide +kernel
theorem dX6_closeLine_13 : decode cX6_closeLine 13 = .ok (.putfield 39, 3) := by decide +kernel
theorem dX6_closeLine_16 : decode cX6_closeLine 16 = .ok (.iconst 1, 1) := by decide +kernel
theorem dX6_closeLine_17 : decode cX6_closeLine 17 = .ok (.ireturn, 1) := by decide +kernel
theorem dX6_holdSign_0 : decode cX6_holdSign 0 = .ok (.aload_n 0, 1) := by decide +kernel
theorem dX6_holdSign_1 : decode cX6_holdSign 1 = .ok (.getfield 42, 3) := by decide +kernel
theorem dX6_holdSign_4 : decode cX6_holdSign 4 = .ok (.bipush 32, 2) := by decide +kernel
theorem dX6_holdSign_6 : decode cX6_holdSign 6 = .ok (.if_icmp .lt 9, 3) := by decide +kernel
theorem dX6_holdSign_9 : decode cX6_holdSign 9 = .ok (.aload_n 0, 1) := by decide +kernel
theorem dX6_holdSign_10 : decode cX6_holdSign 10 = .ok (.iconst 3, 1) := by decide +kernel
theorem dX6_holdSign_11 : decode cX6_holdSign 11 = .ok (.invokevirtual 85, 3) := by decide +kernel
theorem dX6_holdSign_14 : decode cX6_holdSign 14 = .ok (.ireturn, 1) := by decide +kernel
theorem dX6_holdSign_15 : decode cX6_holdSign 15 = .ok (.aload_n 0, 1) := by decide +kernel
theorem dX6_holdSign_16 : decode cX6_holdSign 16 = .ok (.getfield 22, 3) := by decide +kernel
theorem dX6_holdSign_19 : decode cX6_holdSign 19 = .ok (.aload_n 0, 1) := by decide +kernel
theorem dX6_holdSign_20 : decode cX6_holdSign 20 = .ok (.getfield 42, 3) := by decide +kernel
theorem dX6_holdSign_23 : decode cX6_holdSign 23 = .ok (.iload_n 1, 1) := by decide +kernel
theorem dX6_holdSign_24 : decode cX6_holdSign 24 = .ok (.iastore, 1) := by decide +kernel
theorem dX6_holdSign_25 : decode cX6_holdSign 25 = .ok (.aload_n 0, 1) := by decide +kernel
theorem dX6_holdSign_26 : decode cX6_holdSign 26 = .ok (.dup, 1) := by decide +kernel
theorem dX6_holdSign_27 : decode cX6_holdSign 27 = .ok (.getfield 42, 3) := by decide +kernel
theorem dX6_holdSign_30 : decode cX6_holdSign 30 = .ok (.iconst 1, 1) := by decide +kernel
theorem dX6_holdSign_31 : decode cX6_holdSign 31 = .ok (.iadd, 1) := by decide +kernel
theorem dX6_holdSign_32 : decode cX6_holdSign 32 = .ok (.putfield 42, 3) := by decide +kernel
theorem dX6_holdSign_35 : decode cX6_holdSign 35 = .ok (.aload_n 0, 1) := by decide +kernel
theorem dX6_holdSign_36 : decode cX6_holdSign 36 = .ok (.iload_n 2, 1) := by decide +kernel
theorem dX6_holdSign_37 : decode cX6_holdSign 37 = .ok (.putfield 39, 3) := by decide +kernel
theorem dX6_holdSign_40 : decode cX6_holdSign 40 = .ok (.iconst 1, 1) := by decide +kernel
theorem dX6_holdSign_41 : decode cX6_holdSign 41 = .ok (.ireturn, 1) := by decide +kernel
theorem dX6_settle_0 : decode cX6_settle 0 = .ok (.aload_n 0, 1) := by decide +kernel
theorem dX6_settle_1 : decode cX6_settle 1 = .ok (.getfield 42, 3) := by decide +kernel
theorem dX6_settle_4 : decode cX6_settle 4 = .ok (.iconst 1, 1) := by decide +kernel
theorem dX6_settle_5 : decode cX6_settle 5 = .ok (.isub, 1) := by decide +kernel
theorem dX6_settle_6 : decode cX6_settle 6 = .ok (.istore_n 2, 1) := by decide +kernel
theorem dX6_settle_7 : decode cX6_settle 7 = .ok (.iload_n 2, 1) := by decide +kernel
theorem dX6_settle_8 : decode cX6_settle 8 = .ok (.ifCond .lt 63, 3) := by decide +kernel
theorem dX6_settle_11 : decode cX6_settle 11 = .ok (.aload_n 0, 1) := by decide +kernel
theorem dX6_settle_12 : decode cX6_settle 12 = .ok (.getfield 22, 3) := by decide +kernel
theorem dX6_settle_15 : decode cX6_settle 15 = .ok (.iload_n 2, 1) := by decide +kernel
theorem dX6_settle_16 : decode cX6_settle 16 = .ok (.iaload, 1) := by decide +kernel
theorem dX6_settle_17 : decode cX6_settle 17 = .ok (.invokestatic 113, 3) := by decide +kernel
theorem dX6_settle_20 : decode cX6_settle 20 = .ok (.iload_n 1, 1) := by decide +kernel
theorem dX6_settle_21 : decode cX6_settle 21 = .ok (.if_icmp .lt 50, 3) := by decide +kernel
theorem dX6_settle_24 : decode cX6_settle 24 = .ok (.aload_n 0, 1) := by decide +kernel
theorem dX6_settle_25 : decode cX6_settle 25 = .ok (.getfield 18, 3) := by decide +kernel
theorem dX6_settle_28 : decode cX6_settle 28 = .ok (.aload_n 0, 1) := by decide +kernel
theorem dX6_settle_29 : decode cX6_settle 29 = .ok (.getfield 22, 3) := by decide +kernel
theorem dX6_settle_32 : decode cX6_settle 32 = .ok (.iload_n 2, 1) := by decide +kernel
theorem dX6_settle_33 : decode cX6_settle 33 = .ok (.iaload, 1) := by decide +kernel
theorem dX6_settle_34 : decode cX6_settle 34 = .ok (.ineg, 1) := by decide +kernel
theorem dX6_settle_35 : decode cX6_settle 35 = .ok (.invokevirtual 109, 3) := by decide +kernel
theorem dX6_settle_38 : decode cX6_settle 38 = .ok (.aload_n 0, 1) := by decide +kernel
theorem dX6_settle_39 : decode cX6_settle 39 = .ok (.getfield 22, 3) := by decide +kernel
theorem dX6_settle_42 : decode cX6_settle 42 = .ok (.iload_n 2, 1) := by decide +kernel
theorem dX6_settle_43 : decode cX6_settle 43 = .ok (.iaload, 1) := by decide +kernel
theorem dX6_settle_44 : decode cX6_settle 44 = .ok (.sipush 205, 3) := by decide +kernel
theorem dX6_settle_47 : decode cX6_settle 47 = .ok (.if_icmp .ne 13, 3) := by decide +kernel
theorem dX6_settle_50 : decode cX6_settle 50 = .ok (.aload_n 0, 1) := by decide +kernel
theorem dX6_settle_51 : decode cX6_settle 51 = .ok (.dup, 1) := by decide +kernel
theorem dX6_settle_52 : decode cX6_settle 52 = .ok (.getfield 45, 3) := by decide +kernel
theorem dX6_settle_55 : decode cX6_settle 55 = .ok (.iconst 1, 1) := by decide +kernel
theorem dX6_settle_56 : decode cX6_settle 56 = .ok (.isub, 1) := by decide +kernel
theorem dX6_settle_57 : decode cX6_settle 57 = .ok (.putfield 45, 3) := by decide +kernel
theorem dX6_settle_60 : decode cX6_settle 60 = .ok (.aload_n 0, 1) := by decide +kernel
theorem dX6_settle_61 : decode cX6_settle 61 = .ok (.iload_n 2, 1) := by decide +kernel
theorem dX6_settle_62 : decode cX6_settle 62 = .ok (.putfield 42, 3) := by decide +kernel
theorem dX6_settle_65 : decode cX6_settle 65 = .ok (.iinc 2 (-1), 3) := by decide +kernel
theorem dX6_settle_68 : decode cX6_settle 68 = .ok (.goto (-61), 3) := by decide +kernel
theorem dX6_settle_71 : decode cX6_settle 71 = .ok (.return_, 1) := by decide +kernel
theorem dX6_rankOf_0 : decode cX6_rankOf 0 = .ok (.iload_n 0, 1) := by decide +kernel
theorem dX6_rankOf_1 : decode cX6_rankOf 1 = .ok (.lookupswitch 104 #[(42, 101), (43, 99), (45, 99), (47, 101), (60, 97), (61, 97), (62, 97), (203, 91), (204, 93), (205, 95)], 91) := by decide +kernel
theorem dX6_rankOf_92 : decode cX6_rankOf 92 = .ok (.iconst 1, 1) := by decide +kernel
theorem dX6_rankOf_93 : decode cX6_rankOf 93 = .ok (.ireturn, 1) := by decide +kernel
theorem dX6_rankOf_94 : decode cX6_rankOf 94 = .ok (.iconst 2, 1) := by decide +kernel
theorem dX6_rankOf_95 : decode cX6_rankOf 95 = .ok (.ireturn, 1) := by decide +kernel
theorem dX6_rankOf_96 : decode cX6_rankOf 96 = .ok (.iconst 3, 1) := by decide +kernel
theorem dX6_rankOf_97 : decode cX6_rankOf 97 = .ok (.ireturn, 1) := by decide +kernel
theorem dX6_rankOf_98 : decode cX6_rankOf 98 = .ok (.iconst 4, 1) := by decide +kernel
theorem dX6_rankOf_99 : decode cX6_rankOf 99 = .ok (.ireturn, 1) := by decide +kernel
theorem dX6_rankOf_100 : decode cX6_rankOf 100 = .ok (.iconst 5, 1) := by decide +kernel
theorem dX6_rankOf_101 : decode cX6_rankOf 101 = .ok (.ireturn, 1) := by decide +kernel
theorem dX6_rankOf_102 : decode cX6_rankOf 102 = .ok (.bipush 6, 2) := by decide +kernel
theorem dX6_rankOf_104 : decode cX6_rankOf 104 = .ok (.ireturn, 1) := by decide +kernel
theorem dX6_rankOf_105 : decode cX6_rankOf 105 = .ok (.iconst 0, 1) := by decide +kernel
theorem dX6_rankOf_106 : decode cX6_rankOf 106 = .ok (.ireturn, 1) := by decide +kernel
theorem dX6_step_0 : decode cX6_step 0 = .ok (.aload_n 0, 1) := by decide +kernel
theorem dX6_step_1 : decode cX6_step 1 = .ok (.aload_n 0, 1) := by decide +kernel
theorem dX6_step_2 : decode cX6_step 2 = .ok (.getfield 33, 3) := by decide +kernel
theorem dX6_step_5 : decode cX6_step 5 = .ok (.putfield 61, 3) := by decide +kernel
theorem dX6_step_8 : decode cX6_step 8 = .ok (.aload_n 0, 1) := by decide +kernel
theorem dX6_step_9 : decode cX6_step 9 = .ok (.getfield 33, 3) := by decide +kernel
theorem dX6_step_12 : decode cX6_step 12 = .ok (.istore_n 1, 1) := by decide +kernel
theorem dX6_step_13 : decode cX6_step 13 = .ok (.iload_n 1, 1) := by decide +kernel
theorem dX6_step_14 : decode cX6_step 14 = .ok (.aload_n 0, 1) := by decide +kernel
theorem dX6_step_15 : decode cX6_step 15 = .ok (.getfield 30, 3) := by decide +kernel
theorem dX6_step_18 : decode cX6_step 18 = .ok (.if_icmp .ge 27, 3) := by decide +kernel
theorem dX6_step_21 : decode cX6_step 21 = .ok (.aload_n 0, 1) := by decide +kernel
theorem dX6_step_22 : decode cX6_step 22 = .ok (.iload_n 1, 1) := by decide +kernel
theorem dX6_step_23 : decode cX6_step 23 = .ok (.invokevirtual 126, 3) := by decide +kernel
theorem dX6_step_26 : decode cX6_step 26 = .ok (.invokestatic 129, 3) := by decide +kernel
theorem dX6_step_29 : decode cX6_step 29 = .ok (.ifCond .eq 16, 3) := by decide +kernel
theorem dX6_step_32 : decode cX6_step 32 = .ok (.aload_n 0, 1) := by decide +kernel
theorem dX6_step_33 : decode cX6_step 33 = .ok (.iload_n 1, 1) := by decide +kernel
theorem dX6_step_34 : decode cX6_step 34 = .ok (.iconst 1, 1) := by decide +kernel
theorem dX6_step_35 : decode cX6_step 35 = .ok (.iadd, 1) := by decide +kernel
theorem dX6_step_36 : decode cX6_step 36 = .ok (.putfield 61, 3) := by decide +kernel
theorem dX6_step_39 : decode cX6_step 39 = .ok (.iinc 1 1, 3) := by decide +kernel
theorem dX6_step_42 : decode cX6_step 42 = .ok (.goto (-29), 3) := by decide +kernel
theorem dX6_step_45 : decode cX6_step 45 = .ok (.aload_n 0, 1) := by decide +kernel
theorem dX6_step_46 : decode cX6_step 46 = .ok (.aload_n 0, 1) := by decide +kernel
theorem dX6_step_47 : decode cX6_step 47 = .ok (.getfield 61, 3) := by decide +kernel
theorem dX6_step_50 : decode cX6_step 50 = .ok (.iconst 1, 1) := by decide +kernel
theorem dX6_step_51 : decode cX6_step 51 = .ok (.iadd, 1) := by decide +kernel
theorem dX6_step_52 : decode cX6_step 52 = .ok (.putfield 33, 3) := by decide +kernel
theorem dX6_step_55 : decode cX6_step 55 = .ok (.aload_n 0, 1) := by decide +kernel
theorem dX6_step_56 : decode cX6_step 56 = .ok (.aload_n 0, 1) := by decide +kernel
theorem dX6_step_57 : decode cX6_step 57 = .ok (.getfield 61, 3) := by decide +kernel
theorem dX6_step_60 : decode cX6_step 60 = .ok (.invokevirtual 126, 3) := by decide +kernel
theorem dX6_step_63 : decode cX6_step 63 = .ok (.istore_n 1, 1) := by decide +kernel
theorem dX6_step_64 : decode cX6_step 64 = .ok (.aload_n 0, 1) := by decide +kernel
theorem dX6_step_65 : decode cX6_step 65 = .ok (.getfield 61, 3) := by decide +kernel
theorem dX6_step_68 : decode cX6_step 68 = .ok (.aload_n 0, 1) := by decide +kernel
theorem dX6_step_69 : decode cX6_step 69 = .ok (.getfield 30, 3) := by decide +kernel
theorem dX6_step_72 : decode cX6_step 72 = .ok (.if_icmp .lt 19, 3) := by decide +kernel
theorem dX6_step_75 : decode cX6_step 75 = .ok (.aload_n 0, 1) := by decide +kernel
theorem dX6_step_76 : decode cX6_step 76 = .ok (.aload_n 0, 1) := by decide +kernel
theorem dX6_step_77 : decode cX6_step 77 = .ok (.getfield 30, 3) := by decide +kernel
theorem dX6_step_80 : decode cX6_step 80 = .ok (.putfield 33, 3) := by decide +kernel
theorem dX6_step_83 : decode cX6_step 83 = .ok (.aload_n 0, 1) := by decide +kernel
theorem dX6_step_84 : decode cX6_step 84 = .ok (.iconst 0, 1) := by decide +kernel
theorem dX6_step_85 : decode cX6_step 85 = .ok (.putfield 54, 3) := by decide +kernel
theorem dX6_step_88 : decode cX6_step 88 = .ok (.goto 47, 3) := by decide +kernel
theorem dX6_step_91 : decode cX6_step 91 = .ok (.iload_n 1, 1) := by decide +kernel
theorem dX6_step_92 : decode cX6_step 92 = .ok (.invokestatic 132, 3) := by decide +kernel
theorem dX6_step_95 : decode cX6_step 95 = .ok (.ifCond .eq 10, 3) := by decide +kernel
theorem dX6_step_98 : decode cX6_step 98 = .ok (.aload_n 0, 1) := by decide +kernel
theorem dX6_step_99 : decode cX6_step 99 = .ok (.invokevirtual 135, 3) := by decide +kernel
theorem dX6_step_102 : decode cX6_step 102 = .ok (.goto 33, 3) := by decide +kernel
theorem dX6_step_105 : decode cX6_step 105 = .ok (.iload_n 1, 1) := by decide +kernel
theorem dX6_step_106 : decode cX6_step 106 = .ok (.invokestatic 138, 3) := by decide +kernel
theorem dX6_step_109 : decode cX6_step 109 = .ok (.ifCond .eq 10, 3) := by decide +kernel
theorem dX6_step_112 : decode cX6_step 112 = .ok (.aload_n 0, 1) := by decide +kernel
theorem dX6_step_113 : decode cX6_step 113 = .ok (.invokevirtual 141, 3) := by decide +kernel
theorem dX6_step_116 : decode cX6_step 116 = .ok (.goto 19, 3) := by decide +kernel
theorem dX6_step_119 : decode cX6_step 119 = .ok (.aload_n 0, 1) := by decide +kernel
theorem dX6_step_120 : decode cX6_step 120 = .ok (.iload_n 1, 1) := by decide +kernel
theorem dX6_step_121 : decode cX6_step 121 = .ok (.invokestatic 144, 3) := by decide +kernel
theorem dX6_step_124 : decode cX6_step 124 = .ok (.ifCond .eq 7, 3) := by decide +kernel
theorem dX6_step_127 : decode cX6_step 127 = .ok (.iload_n 1, 1) := by decide +kernel
theorem dX6_step_128 : decode cX6_step 128 = .ok (.goto 4, 3) := by decide +kernel
theorem dX6_step_131 : decode cX6_step 131 = .ok (.iconst 1, 1) := by decide +kernel
theorem dX6_step_132 : decode cX6_step 132 = .ok (.putfield 54, 3) := by decide +kernel
theorem dX6_step_135 : decode cX6_step 135 = .ok (.return_, 1) := by decide +kernel
theorem dX6_takeLetters_0 : decode cX6_takeLetters 0 = .ok (.aload_n 0, 1) := by decide +kernel
theorem dX6_takeLetters_1 : decode cX6_takeLetters 1 = .ok (.getfield 33, 3) := by decide +kernel
theorem dX6_takeLetters_4 : decode cX6_takeLetters 4 = .ok (.istore_n 1, 1) := by decide +kernel
theorem dX6_takeLetters_5 : decode cX6_takeLetters 5 = .ok (.iload_n 1, 1) := by decide +kernel
theorem dX6_takeLetters_6 : decode cX6_takeLetters 6 = .ok (.aload_n 0, 1) := by decide +kernel
theorem dX6_takeLetters_7 : decode cX6_takeLetters 7 = .ok (.getfield 30, 3) := by decide +kernel
theorem dX6_takeLetters_10 : decode cX6_takeLetters 10 = .ok (.if_icmp .ge 27, 3) := by decide +kernel
theorem dX6_takeLetters_13 : decode cX6_takeLetters 13 = .ok (.aload_n 0, 1) := by decide +kernel
theorem dX6_takeLetters_14 : decode cX6_takeLetters 14 = .ok (.iload_n 1, 1) := by decide +kernel
theorem dX6_takeLetters_15 : decode cX6_takeLetters 15 = .ok (.invokevirtual 126, 3) := by decide +kernel
theorem dX6_takeLetters_18 : decode cX6_takeLetters 18 = .ok (.invokestatic 132, 3) := by decide +kernel
theorem dX6_takeLetters_21 : decode cX6_takeLetters 21 = .ok (.ifCond .eq 16, 3) := by decide +kernel
theorem dX6_takeLetters_24 : decode cX6_takeLetters 24 = .ok (.aload_n 0, 1) := by decide +kernel
theorem dX6_takeLetters_25 : decode cX6_takeLetters 25 = .ok (.iload_n 1, 1) := by decide +kernel
theorem dX6_takeLetters_26 : decode cX6_takeLetters 26 = .ok (.iconst 1, 1) := by decide +kernel
theorem dX6_takeLetters_27 : decode cX6_takeLetters 27 = .ok (.iadd, 1) := by decide +kernel
theorem dX6_takeLetters_28 : decode cX6_takeLetters 28 = .ok (.putfield 33, 3) := by decide +kernel
theorem dX6_takeLetters_31 : decode cX6_takeLetters 31 = .ok (.iinc 1 1, 3) := by decide +kernel
theorem dX6_takeLetters_34 : decode cX6_takeLetters 34 = .ok (.goto (-29), 3) := by decide +kernel
theorem dX6_takeLetters_37 : decode cX6_takeLetters 37 = .ok (.aload_n 0, 1) := by decide +kernel
theorem dX6_takeLetters_38 : decode cX6_takeLetters 38 = .ok (.iconst 1, 1) := by decide +kernel
theorem dX6_takeLetters_39 : decode cX6_takeLetters 39 = .ok (.putfield 54, 3) := by decide +kernel
theorem dX6_takeLetters_42 : decode cX6_takeLetters 42 = .ok (.sipush 200, 3) := by decide +kernel
theorem dX6_takeLetters_45 : decode cX6_takeLetters 45 = .ok (.istore_n 1, 1) := by decide +kernel
theorem dX6_takeLetters_46 : decode cX6_takeLetters 46 = .ok (.iload_n 1, 1) := by decide +kernel
theorem dX6_takeLetters_47 : decode cX6_takeLetters 47 = .ok (.sipush 214, 3) := by decide +kernel
theorem dX6_takeLetters_50 : decode cX6_takeLetters 50 = .ok (.if_icmp .gt 25, 3) := by decide +kernel
theorem dX6_takeLetters_53 : decode cX6_takeLetters 53 = .ok (.aload_n 0, 1) := by decide +kernel
theorem dX6_takeLetters_54 : decode cX6_takeLetters 54 = .ok (.iload_n 1, 1) := by decide +kernel
theorem dX6_takeLetters_55 : decode cX6_takeLetters 55 = .ok (.invokestatic 147, 3) := by decide +kernel
theorem dX6_takeLetters_58 : decode cX6_takeLetters 58 = .ok (.invokevirtual 151, 3) := by decide +kernel
theorem dX6_takeLetters_61 : decode cX6_takeLetters 61 = .ok (.ifCond .eq 8, 3) := by decide +kernel
theorem dX6_takeLetters_64 : decode cX6_takeLetters 64 = .ok (.aload_n 0, 1) := by decide +kernel
theorem dX6_takeLetters_65 : decode cX6_takeLetters 65 = .ok (.iload_n 1, 1) := by decide +kernel
theorem dX6_takeLetters_66 : decode cX6_takeLetters 66 = .ok (.putfield 54, 3) := by decide +kernel
theorem dX6_takeLetters_69 : decode cX6_takeLetters 69 = .ok (.iinc 1 1, 3) := by decide +kernel
theorem dX6_takeLetters_72 : decode cX6_takeLetters 72 = .ok (.goto (-26), 3) := by decide +kernel
theorem dX6_takeLetters_75 : decode cX6_takeLetters 75 = .ok (.return_, 1) := by decide +kernel
theorem dX6_takeDigits_0 : decode cX6_takeDigits 0 = .ok (.aload_n 0, 1) := by decide +kernel
theorem dX6_takeDigits_1 : decode cX6_takeDigits 1 = .ok (.aload_n 0, 1) := by decide +kernel
theorem dX6_takeDigits_2 : decode cX6_takeDigits 2 = .ok (.aload_n 0, 1) := by decide +kernel
theorem dX6_takeDigits_3 : decode cX6_takeDigits 3 = .ok (.getfield 61, 3) := by decide +kernel
theorem dX6_takeDigits_6 : decode cX6_takeDigits 6 = .ok (.invokevirtual 126, 3) := by decide +kernel
theorem dX6_takeDigits_9 : decode cX6_takeDigits 9 = .ok (.bipush 48, 2) := by decide +kernel
theorem dX6_takeDigits_11 : decode cX6_takeDigits 11 = .ok (.isub, 1) := by decide +kernel
theorem dX6_takeDigits_12 : decode cX6_takeDigits 12 = .ok (.putfield 106, 3) := by decide +kernel
theorem dX6_takeDigits_15 : decode cX6_takeDigits 15 = .ok (.aload_n 0, 1) := by decide +kernel
theorem dX6_takeDigits_16 : decode cX6_takeDigits 16 = .ok (.getfield 33, 3) := by decide +kernel
theorem dX6_takeDigits_19 : decode cX6_takeDigits 19 = .ok (.istore_n 1, 1) := by decide +kernel
theorem dX6_takeDigits_20 : decode cX6_takeDigits 20 = .ok (.iload_n 1, 1) := by decide +kernel
theorem dX6_takeDigits_21 : decode cX6_takeDigits 21 = .ok (.aload_n 0, 1) := by decide +kernel
theorem dX6_takeDigits_22 : decode cX6_takeDigits 22 = .ok (.getfield 30, 3) := by decide +kernel
theorem dX6_takeDigits_25 : decode cX6_takeDigits 25 = .ok (.if_icmp .ge 47, 3) := by decide +kernel
theorem dX6_takeDigits_28 : decode cX6_takeDigits 28 = .ok (.aload_n 0, 1) := by decide +kernel
theorem dX6_takeDigits_29 : decode cX6_takeDigits 29 = .ok (.iload_n 1, 1) := by decide +kernel
theorem dX6_takeDigits_30 : decode cX6_takeDigits 30 = .ok (.invokevirtual 126, 3) := by decide +kernel
theorem dX6_takeDigits_33 : decode cX6_takeDigits 33 = .ok (.invokestatic 138, 3) := by decide +kernel
theorem dX6_takeDigits_36 : decode cX6_takeDigits 36 = .ok (.ifCond .eq 36, 3) := by decide +kernel
theorem dX6_takeDigits_39 : decode cX6_takeDigits 39 = .ok (.aload_n 0, 1) := by decide +kernel
theorem dX6_takeDigits_40 : decode cX6_takeDigits 40 = .ok (.aload_n 0, 1) := by decide +kernel
theorem dX6_takeDigits_41 : decode cX6_takeDigits 41 = .ok (.getfield 106, 3) := by decide +kernel
theorem dX6_takeDigits_44 : decode cX6_takeDigits 44 = .ok (.bipush 10, 2) := by decide +kernel
theorem dX6_takeDigits_46 : decode cX6_takeDigits 46 = .ok (.imul, 1) := by decide +kernel
theorem dX6_takeDigits_47 : decode cX6_takeDigits 47 = .ok (.aload_n 0, 1) := by decide +kernel
theorem dX6_takeDigits_48 : decode cX6_takeDigits 48 = .ok (.iload_n 1, 1) := by decide +kernel
theorem dX6_takeDigits_49 : decode cX6_takeDigits 49 = .ok (.invokevirtual 126, 3) := by decide +kernel
theorem dX6_takeDigits_52 : decode cX6_takeDigits 52 = .ok (.iadd, 1) := by decide +kernel
theorem dX6_takeDigits_53 : decode cX6_takeDigits 53 = .ok (.bipush 48, 2) := by decide +kernel
theorem dX6_takeDigits_55 : decode cX6_takeDigits 55 = .ok (.isub, 1) := by decide +kernel
theorem dX6_takeDigits_56 : decode cX6_takeDigits 56 = .ok (.putfield 106, 3) := by decide +kernel
theorem dX6_takeDigits_59 : decode cX6_takeDigits 59 = .ok (.aload_n 0, 1) := by decide +kernel
theorem dX6_takeDigits_60 : decode cX6_takeDigits 60 = .ok (.iload_n 1, 1) := by decide +kernel
theorem dX6_takeDigits_61 : decode cX6_takeDigits 61 = .ok (.iconst 1, 1) := by decide +kernel
theorem dX6_takeDigits_62 : decode cX6_takeDigits 62 = .ok (.iadd, 1) := by decide +kernel
theorem dX6_takeDigits_63 : decode cX6_takeDigits 63 = .ok (.putfield 33, 3) := by decide +kernel
theorem dX6_takeDigits_66 : decode cX6_takeDigits 66 = .ok (.iinc 1 1, 3) := by decide +kernel
theorem dX6_takeDigits_69 : decode cX6_takeDigits 69 = .ok (.goto (-49), 3) := by decide +kernel
theorem dX6_takeDigits_72 : decode cX6_takeDigits 72 = .ok (.aload_n 0, 1) := by decide +kernel
theorem dX6_takeDigits_73 : decode cX6_takeDigits 73 = .ok (.aload_n 0, 1) := by decide +kernel
theorem dX6_takeDigits_74 : decode cX6_takeDigits 74 = .ok (.getfield 33, 3) := by decide +kernel
theorem dX6_takeDigits_77 : decode cX6_takeDigits 77 = .ok (.aload_n 0, 1) := by decide +kernel
theorem dX6_takeDigits_78 : decode cX6_takeDigits 78 = .ok (.getfield 61, 3) := by decide +kernel
theorem dX6_takeDigits_81 : decode cX6_takeDigits 81 = .ok (.isub, 1) := by decide +kernel
theorem dX6_takeDigits_82 : decode cX6_takeDigits 82 = .ok (.iconst 4, 1) := by decide +kernel
theorem dX6_takeDigits_83 : decode cX6_takeDigits 83 = .ok (.if_icmp .gt 7, 3) := by decide +kernel
theorem dX6_takeDigits_86 : decode cX6_takeDigits 86 = .ok (.iconst 2, 1) := by decide +kernel
theorem dX6_takeDigits_87 : decode cX6_takeDigits 87 = .ok (.goto 4, 3) := by decide +kernel
theorem dX6_takeDigits_90 : decode cX6_takeDigits 90 = .ok (.iconst 1, 1) := by decide +kernel
theorem dX6_takeDigits_91 : decode cX6_takeDigits 91 = .ok (.putfield 54, 3) := by decide +kernel
theorem dX6_takeDigits_94 : decode cX6_takeDigits 94 = .ok (.return_, 1) := by decide +kernel
theorem dX6_isSpelt_0 : decode cX6_isSpelt 0 = .ok (.aload_n 1, 1) := by decide +kernel
theorem dX6_isSpelt_1 : decode cX6_isSpelt 1 = .ok (.invokevirtual 155, 3) := by decide +kernel
theorem dX6_isSpelt_4 : decode cX6_isSpelt 4 = .ok (.aload_n 0, 1) := by decide +kernel
theorem dX6_isSpelt_5 : decode cX6_isSpelt 5 = .ok (.getfield 33, 3) := by decide +kernel
theorem dX6_isSpelt_8 : decode cX6_isSpelt 8 = .ok (.aload_n 0, 1) := by decide +kernel
theorem dX6_isSpelt_9 : decode cX6_isSpelt 9 = .ok (.getfield 61, 3) := by decide +kernel
theorem dX6_isSpelt_12 : decode cX6_isSpelt 12 = .ok (.isub, 1) := by decide +kernel
theorem dX6_isSpelt_13 : decode cX6_isSpelt 13 = .ok (.if_icmp .eq 5, 3) := by decide +kernel
theorem dX6_isSpelt_16 : decode cX6_isSpelt 16 = .ok (.iconst 0, 1) := by decide +kernel
theorem dX6_isSpelt_17 : decode cX6_isSpelt 17 = .ok (.ireturn, 1) := by decide +kernel
theorem dX6_isSpelt_18 : decode cX6_isSpelt 18 = .ok (.iconst 0, 1) := by decide +kernel
theorem dX6_isSpelt_19 : decode cX6_isSpelt 19 = .ok (.istore_n 2, 1) := by decide +kernel
theorem dX6_isSpelt_20 : decode cX6_isSpelt 20 = .ok (.iload_n 2, 1) := by decide +kernel
theorem dX6_isSpelt_21 : decode cX6_isSpelt 21 = .ok (.aload_n 1, 1) := by decide +kernel
theorem dX6_isSpelt_22 : decode cX6_isSpelt 22 = .ok (.invokevirtual 155, 3) := by decide +kernel
theorem dX6_isSpelt_25 : decode cX6_isSpelt 25 = .ok (.if_icmp .ge 29, 3) := by decide +kernel
theorem dX6_isSpelt_28 : decode cX6_isSpelt 28 = .ok (.aload_n 1, 1) := by decide +kernel
theorem dX6_isSpelt_29 : decode cX6_isSpelt 29 = .ok (.iload_n 2, 1) := by decide +kernel
theorem dX6_isSpelt_30 : decode cX6_isSpelt 30 = .ok (.invokevirtual 160, 3) := by decide +kernel
theorem dX6_isSpelt_33 : decode cX6_isSpelt 33 = .ok (.aload_n 0, 1) := by decide +kernel
theorem dX6_isSpelt_34 : decode cX6_isSpelt 34 = .ok (.aload_n 0, 1) := by decide +kernel
theorem dX6_isSpelt_35 : decode cX6_isSpelt 35 = .ok (.getfield 61, 3) := by decide +kernel
theorem dX6_isSpelt_38 : decode cX6_isSpelt 38 = .ok (.iload_n 2, 1) := by decide +kernel
theorem dX6_isSpelt_39 : decode cX6_isSpelt 39 = .ok (.iadd, 1) := by decide +kernel
theorem dX6_isSpelt_40 : decode cX6_isSpelt 40 = .ok (.invokevirtual 126, 3) := by decide +kernel
theorem dX6_isSpelt_43 : decode cX6_isSpelt 43 = .ok (.if_icmp .eq 5, 3) := by decide +kernel
theorem dX6_isSpelt_46 : decode cX6_isSpelt 46 = .ok (.iconst 0, 1) := by decide +kernel
theorem dX6_isSpelt_47 : decode cX6_isSpelt 47 = .ok (.ireturn, 1) := by decide +kernel
theorem dX6_isSpelt_48 : decode cX6_isSpelt 48 = .ok (.iinc 2 1, 3) := by decide +kernel
theorem dX6_isSpelt_51 : decode cX6_isSpelt 51 = .ok (.goto (-31), 3) := by decide +kernel
theorem dX6_isSpelt_54 : decode cX6_isSpelt 54 = .ok (.iconst 1, 1) := by decide +kernel
theorem dX6_isSpelt_55 : decode cX6_isSpelt 55 = .ok (.ireturn, 1) := by decide +kernel
theorem dX6_signAt_0 : decode cX6_signAt 0 = .ok (.iload_n 1, 1) := by decide +kernel
theorem dX6_signAt_1 : decode cX6_signAt 1 = .ok (.ifCond .lt 33, 3) := by decide +kernel
theorem dX6_signAt_4 : decode cX6_signAt 4 = .ok (.iload_n 1, 1) := by decide +kernel
theorem dX6_signAt_5 : decode cX6_signAt 5 = .ok (.aload_n 0, 1) := by decide +kernel
theorem dX6_signAt_6 : decode cX6_signAt 6 = .ok (.getfield 30, 3) := by decide +kernel
theorem dX6_signAt_9 : decode cX6_signAt 9 = .ok (.if_icmp .ge 25, 3) := by decide +kernel
theorem dX6_signAt_12 : decode cX6_signAt 12 = .ok (.iload_n 1, 1) := by decide +kernel
theorem dX6_signAt_13 : decode cX6_signAt 13 = .ok (.aload_n 0, 1) := by decide +kernel
theorem dX6_signAt_14 : decode cX6_signAt 14 = .ok (.getfield 9, 3) := by decide +kernel
theorem dX6_signAt_17 : decode cX6_signAt 17 = .ok (.arraylength, 1) := by decide +kernel
theorem dX6_signAt_18 : decode cX6_signAt 18 = .ok (.if_icmp .ge 16, 3) := by decide +kernel
theorem dX6_signAt_21 : decode cX6_signAt 21 = .ok (.aload_n 0, 1) := by decide +kernel
theorem dX6_signAt_22 : decode cX6_signAt 22 = .ok (.getfield 9, 3) := by decide +kernel
theorem dX6_signAt_25 : decode cX6_signAt 25 = .ok (.iload_n 1, 1) := by decide +kernel
theorem dX6_signAt_26 : decode cX6_signAt 26 = .ok (.baload, 1) := by decide +kernel
theorem dX6_signAt_27 : decode cX6_signAt 27 = .ok (.sipush 255, 3) := by decide +kernel
theorem dX6_signAt_30 : decode cX6_signAt 30 = .ok (.iand, 1) := by decide +kernel
theorem dX6_signAt_31 : decode cX6_signAt 31 = .ok (.goto 4, 3) := by decide +kernel
theorem dX6_signAt_34 : decode cX6_signAt 34 = .ok (.iconst 0, 1) := by decide +kernel
theorem dX6_signAt_35 : decode cX6_signAt 35 = .ok (.ireturn, 1) := by decide +kernel
theorem dX6_isBlank_0 : decode cX6_isBlank 0 = .ok (.iload_n 0, 1) := by decide +kernel
theorem dX6_isBlank_1 : decode cX6_isBlank 1 = .ok (.bipush 32, 2) := by decide +kernel
theorem dX6_isBlank_3 : decode cX6_isBlank 3 = .ok (.if_icmp .eq 9, 3) := by decide +kernel
theorem dX6_isBlank_6 : decode cX6_isBlank 6 = .ok (.iload_n 0, 1) := by decide +kernel
theorem dX6_isBlank_7 : decode cX6_isBlank 7 = .ok (.bipush 10, 2) := by decide +kernel
theorem dX6_isBlank_9 : decode cX6_isBlank 9 = .ok (.if_icmp .ne 7, 3) := by decide +kernel
theorem dX6_isBlank_12 : decode cX6_isBlank 12 = .ok (.iconst 1, 1) := by decide +kernel
theorem dX6_isBlank_13 : decode cX6_isBlank 13 = .ok (.goto 4, 3) := by decide +kernel
theorem dX6_isBlank_16 : decode cX6_isBlank 16 = .ok (.iconst 0, 1) := by decide +kernel
theorem dX6_isBlank_17 : decode cX6_isBlank 17 = .ok (.ireturn, 1) := by decide +kernel
theorem dX6_isLetter_0 : decode cX6_isLetter 0 = .ok (.iload_n 0, 1) := by decide +kernel
theorem dX6_isLetter_1 : decode cX6_isLetter 1 = .ok (.bipush 97, 2) := by decide +kernel
theorem dX6_isLetter_3 : decode cX6_isLetter 3 = .ok (.if_icmp .lt 9, 3) := by decide +kernel
theorem dX6_isLetter_6 : decode cX6_isLetter 6 = .ok (.iload_n 0, 1) := by decide +kernel
theorem dX6_isLetter_7 : decode cX6_isLetter 7 = .ok (.bipush 122, 2) := by decide +kernel
theorem dX6_isLetter_9 : decode cX6_isLetter 9 = .ok (.if_icmp .le 15, 3) := by decide +kernel
theorem dX6_isLetter_12 : decode cX6_isLetter 12 = .ok (.iload_n 0, 1) := by decide +kernel
theorem dX6_isLetter_13 : decode cX6_isLetter 13 = .ok (.bipush 65, 2) := by decide +kernel
theorem dX6_isLetter_15 : decode cX6_isLetter 15 = .ok (.if_icmp .lt 13, 3) := by decide +kernel
theorem dX6_isLetter_18 : decode cX6_isLetter 18 = .ok (.iload_n 0, 1) := by decide +kernel
theorem dX6_isLetter_19 : decode cX6_isLetter 19 = .ok (.bipush 90, 2) := by decide +kernel
theorem dX6_isLetter_21 : decode cX6_isLetter 21 = .ok (.if_icmp .gt 7, 3) := by decide +kernel
theorem dX6_isLetter_24 : decode cX6_isLetter 24 = .ok (.iconst 1, 1) := by decide +kernel
theorem dX6_isLetter_25 : decode cX6_isLetter 25 = .ok (.goto 4, 3) := by decide +kernel
theorem dX6_isLetter_28 : decode cX6_isLetter 28 = .ok (.iconst 0, 1) := by decide +kernel
theorem dX6_isLetter_29 : decode cX6_isLetter 29 = .ok (.ireturn, 1) := by decide +kernel
theorem dX6_isDigit_0 : decode cX6_isDigit 0 = .ok (.iload_n 0, 1) := by decide +kernel
theorem dX6_isDigit_1 : decode cX6_isDigit 1 = .ok (.bipush 48, 2) := by decide +kernel
theorem dX6_isDigit_3 : decode cX6_isDigit 3 = .ok (.if_icmp .lt 13, 3) := by decide +kernel
theorem dX6_isDigit_6 : decode cX6_isDigit 6 = .ok (.iload_n 0, 1) := by decide +kernel
theorem dX6_isDigit_7 : decode cX6_isDigit 7 = .ok (.bipush 57, 2) := by decide +kernel
theorem dX6_isDigit_9 : decode cX6_isDigit 9 = .ok (.if_icmp .gt 7, 3) := by decide +kernel
theorem dX6_isDigit_12 : decode cX6_isDigit 12 = .ok (.iconst 1, 1) := by decide +kernel
theorem dX6_isDigit_13 : decode cX6_isDigit 13 = .ok (.goto 4, 3) := by decide +kernel
theorem dX6_isDigit_16 : decode cX6_isDigit 16 = .ok (.iconst 0, 1) := by decide +kernel
theorem dX6_isDigit_17 : decode cX6_isDigit 17 = .ok (.ireturn, 1) := by decide +kernel
theorem dX6_isSign_0 : decode cX6_isSign 0 = .ok (.ldc 164, 2) := by decide +kernel
theorem dX6_isSign_2 : decode cX6_isSign 2 = .ok (.iload_n 0, 1) := by decide +kernel
theorem dX6_isSign_3 : decode cX6_isSign 3 = .ok (.i2c, 1) := by decide +kernel
theorem dX6_isSign_4 : decode cX6_isSign 4 = .ok (.invokevirtual 166, 3) := by decide +kernel
theorem dX6_isSign_7 : decode cX6_isSign 7 = .ok (.ifCond .lt 7, 3) := by decide +kernel
theorem dX6_isSign_10 : decode cX6_isSign 10 = .ok (.iconst 1, 1) := by decide +kernel
theorem dX6_isSign_11 : decode cX6_isSign 11 = .ok (.goto 4, 3) := by decide +kernel
theorem dX6_isSign_14 : decode cX6_isSign 14 = .ok (.iconst 0, 1) := by decide +kernel
theorem dX6_isSign_15 : decode cX6_isSign 15 = .ok (.ireturn, 1) := by decide +kernel
theorem dX6_nameOf_0 : decode cX6_nameOf 0 = .ok (.iload_n 0, 1) := by decide +kernel
theorem dX6_nameOf_1 : decode cX6_nameOf 1 = .ok (.tableswitch 120 200 214 #[75, 78, 81, 84, 87, 90, 93, 96, 99, 102, 105, 108, 111, 114, 117], 75) := by decide +kernel
theorem dX6_nameOf_76 : decode cX6_nameOf 76 = .ok (.ldc 169, 2) := by decide +kernel
theorem dX6_nameOf_78 : decode cX6_nameOf 78 = .ok (.areturn, 1) := by decide +kernel
theorem dX6_nameOf_79 : decode cX6_nameOf 79 = .ok (.ldc 171, 2) := by decide +kernel
theorem dX6_nameOf_81 : decode cX6_nameOf 81 = .ok (.areturn, 1) := by decide +kernel
theorem dX6_nameOf_82 : decode cX6_nameOf 82 = .ok (.ldc 173, 2) := by decide +kernel
theorem dX6_nameOf_84 : decode cX6_nameOf 84 = .ok (.areturn, 1) := by decide +kernel
theorem dX6_nameOf_85 : decode cX6_nameOf 85 = .ok (.ldc 175, 2) := by decide +kernel
theorem dX6_nameOf_87 : decode cX6_nameOf 87 = .ok (.areturn, 1) := by decide +kernel
theorem dX6_nameOf_88 : decode cX6_nameOf 88 = .ok (.ldc 177, 2) := by decide +kernel
theorem dX6_nameOf_90 : decode cX6_nameOf 90 = .ok (.areturn, 1) := by decide +kernel
theorem dX6_nameOf_91 : decode cX6_nameOf 91 = .ok (.ldc 179, 2) := by decide +kernel
theorem dX6_nameOf_93 : decode cX6_nameOf 93 = .ok (.areturn, 1) := by decide +kernel
theorem dX6_nameOf_94 : decode cX6_nameOf 94 = .ok (.ldc 181, 2) := by decide +kernel
theorem dX6_nameOf_96 : decode cX6_nameOf 96 = .ok (.areturn, 1) := by decide +kernel
theorem dX6_nameOf_97 : decode cX6_nameOf 97 = .ok (.ldc 183, 2) := by decide +kernel
theorem dX6_nameOf_99 : decode cX6_nameOf 99 = .ok (.areturn, 1) := by decide +kernel
theorem dX6_nameOf_100 : decode cX6_nameOf 100 = .ok (.ldc 185, 2) := by decide +kernel
theorem dX6_nameOf_102 : decode cX6_nameOf 102 = .ok (.areturn, 1) := by decide +kernel
theorem dX6_nameOf_103 : decode cX6_nameOf 103 = .ok (.ldc 187, 2) := by decide +kernel
theorem dX6_nameOf_105 : decode cX6_nameOf 105 = .ok (.areturn, 1) := by decide +kernel
theorem dX6_nameOf_106 : decode cX6_nameOf 106 = .ok (.ldc 189, 2) := by decide +kernel
theorem dX6_nameOf_108 : decode cX6_nameOf 108 = .ok (.areturn, 1) := by decide +kernel
theorem dX6_nameOf_109 : decode cX6_nameOf 109 = .ok (.ldc 191, 2) := by decide +kernel
theorem dX6_nameOf_111 : decode cX6_nameOf 111 = .ok (.areturn, 1) := by decide +kernel
theorem dX6_nameOf_112 : decode cX6_nameOf 112 = .ok (.ldc 193, 2) := by decide +kernel
theorem dX6_nameOf_114 : decode cX6_nameOf 114 = .ok (.areturn, 1) := by decide +kernel
theorem dX6_nameOf_115 : decode cX6_nameOf 115 = .ok (.ldc 195, 2) := by decide +kernel
theorem dX6_nameOf_117 : decode cX6_nameOf 117 = .ok (.areturn, 1) := by decide +kernel
theorem dX6_nameOf_118 : decode cX6_nameOf 118 = .ok (.ldc 197, 2) := by decide +kernel
theorem dX6_nameOf_120 : decode cX6_nameOf 120 = .ok (.areturn, 1) := by decide +kernel
theorem dX6_nameOf_121 : decode cX6_nameOf 121 = .ok (.ldc 199, 2) := by decide +kernel
theorem dX6_nameOf_123 : decode cX6_nameOf 123 = .ok (.areturn, 1) := by decide +kernel
theorem dX7_init_0 : decode cX7_init 0 = .ok (.aload_n 0, 1) := by decide +kernel
theorem dX7_init_1 : decode cX7_init 1 = .ok (.invokespecial 3, 3) := by decide +kernel
theorem dX7_init_4 : decode cX7_init 4 = .ok (.aload_n 0, 1) := by decide +kernel
theorem dX7_init_5 : decode cX7_init 5 = .ok (.bipush 8, 2) := by decide +kernel
theorem dX7_init_7 : decode cX7_init 7 = .ok (.newarray .int, 2) := by decide +kernel
theorem dX7_init_9 : decode cX7_init 9 = .ok (.putfield 9, 3) := by decide +kernel
theorem dX7_init_12 : decode cX7_init 12 = .ok (.aload_n 0, 1) := by decide +kernel
theorem dX7_init_13 : decode cX7_init 13 = .ok (.bipush 8, 2) := by decide +kernel
theorem dX7_init_15 : decode cX7_init 15 = .ok (.newarray .int, 2) := by decide +kernel
theorem dX7_init_17 : decode cX7_init 17 = .ok (.putfield 15, 3) := by decide +kernel
theorem dX7_init_20 : decode cX7_init 20 = .ok (.return_, 1) := by decide +kernel
theorem dX7_arrange_0 : decode cX7_arrange 0 = .ok (.iconst 0, 1) := by decide +kernel
theorem dX7_arrange_1 : decode cX7_arrange 1 = .ok (.istore_n 2, 1) := by decide +kernel
theorem dX7_arrange_2 : decode cX7_arrange 2 = .ok (.iload_n 2, 1) := by decide +kernel
theorem dX7_arrange_3 : decode cX7_arrange 3 = .ok (.aload_n 1, 1) := by decide +kernel
theorem dX7_arrange_4 : decode cX7_arrange 4 = .ok (.getfield 18, 3) := by decide +kernel
theorem dX7_arrange_7 : decode cX7_arrange 7 = .ok (.if_icmp .ge 50, 3) := by decide +kernel
theorem dX7_arrange_10 : decode cX7_arrange 10 = .ok (.aload_n 0, 1) := by decide +kernel
theorem dX7_arrange_11 : decode cX7_arrange 11 = .ok (.getfield 15, 3) := by decide +kernel
theorem dX7_arrange_14 : decode cX7_arrange 14 = .ok (.iload_n 2, 1) := by decide +kernel
theorem dX7_arrange_15 : decode cX7_arrange 15 = .ok (.iconst 0, 1) := by decide +kernel
theorem dX7_arrange_16 : decode cX7_arrange 16 = .ok (.iastore, 1) := by decide +kernel
theorem dX7_arrange_17 : decode cX7_arrange 17 = .ok (.iconst 0, 1) := by decide +kernel
theorem dX7_arrange_18 : decode cX7_arrange 18 = .ok (.istore_n 3, 1) := by decide +kernel
theorem dX7_arrange_19 : decode cX7_arrange 19 = .ok (.iload_n 3, 1) := by decide +kernel
theorem dX7_arrange_20 : decode cX7_arrange 20 = .ok (.iload_n 2, 1) := by decide +kernel
theorem dX7_arrange_21 : decode cX7_arrange 21 = .ok (.if_icmp .ge 30, 3) := by decide +kernel
theorem dX7_arrange_24 : decode cX7_arrange 24 = .ok (.aload_n 1, 1) := by decide +kernel
theorem dX7_arrange_25 : decode cX7_arrange 25 = .ok (.iload_n 2, 1) := by decide +kernel
theorem dX7_arrange_26 : decode cX7_arrange 26 = .ok (.iload_n 3, 1) := by decide +kernel
theorem dX7_arrange_27 : decode cX7_arrange 27 = .ok (.invokestatic 24, 3) := by decide +kernel
theorem dX7_arrange_30 : decode cX7_arrange 30 = .ok (.ifCond .eq 15, 3) := by decide +kernel
theorem dX7_arrange_33 : decode cX7_arrange 33 = .ok (.aload_n 0, 1) := by decide +kernel
theorem dX7_arrange_34 : decode cX7_arrange 34 = .ok (.getfield 15, 3) := by decide +kernel
theorem dX7_arrange_37 : decode cX7_arrange 37 = .ok (.iload_n 2, 1) := by decide +kernel
theorem dX7_arrange_38 : decode cX7_arrange 38 = .ok (.dup2, 1) := by decide +kernel
theorem dX7_arrange_39 : decode cX7_arrange 39 = .ok (.iaload, 1) := by decide +kernel
theorem dX7_arrange_40 : decode cX7_arrange 40 = .ok (.iconst 1, 1) := by decide +kernel
theorem dX7_arrange_41 : decode cX7_arrange 41 = .ok (.iload_n 3, 1) := by decide +kernel
theorem dX7_arrange_42 : decode cX7_arrange 42 = .ok (.ishl, 1) := by decide +kernel
theorem dX7_arrange_43 : decode cX7_arrange 43 = .ok (.ior, 1) := by decide +kernel
theorem dX7_arrange_44 : decode cX7_arrange 44 = .ok (.iastore, 1) := by decide +kernel
theorem dX7_arrange_45 : decode cX7_arrange 45 = .ok (.iinc 3 1, 3) := by decide +kernel
theorem dX7_arrange_48 : decode cX7_arrange 48 = .ok (.goto (-29), 3) := by decide +kernel
theorem dX7_arrange_51 : decode cX7_arrange 51 = .ok (.iinc 2 1, 3) := by decide +kernel
theorem dX7_arrange_54 : decode cX7_arrange 54 = .ok (.goto (-52), 3) := by decide +kernel
theorem dX7_arrange_57 : decode cX7_arrange 57 = .ok (.iconst 0, 1) := by decide +kernel
theorem dX7_arrange_58 : decode cX7_arrange 58 = .ok (.istore_n 2, 1) := by decide +kernel
theorem dX7_arrange_59 : decode cX7_arrange 59 = .ok (.iload_n 2, 1) := by decide +kernel
theorem dX7_arrange_60 : decode cX7_arrange 60 = .ok (.aload_n 1, 1) := by decide +kernel
theorem dX7_arrange_61 : decode cX7_arrange 61 = .ok (.getfield 18, 3) := by decide +kernel
theorem dX7_arrange_64 : decode cX7_arrange 64 = .ok (.if_icmp .gt 25, 3) := by decide +kernel
theorem dX7_arrange_67 : decode cX7_arrange 67 = .ok (.aload_n 0, 1) := by decide +kernel
theorem dX7_arrange_68 : decode cX7_arrange 68 = .ok (.iconst 0, 1) := by decide +kernel
theorem dX7_arrange_69 : decode cX7_arrange 69 = .ok (.aload_n 1, 1) := by decide +kernel
theorem dX7_arrange_70 : decode cX7_arrange 70 = .ok (.getfield 18, 3) := by decide +kernel
theorem dX7_arrange_73 : decode cX7_arrange 73 = .ok (.iconst 0, 1) := by decide +kernel
theorem dX7_arrange_74 : decode cX7_arrange 74 = .ok (.iload_n 2, 1) := by decide +kernel
theorem dX7_arrange_75 : decode cX7_arrange 75 = .ok (.invokevirtual 28, 3) := by decide +kernel
theorem dX7_arrange_78 : decode cX7_arrange 78 = .ok (.ifCond .eq 5, 3) := by decide +kernel
theorem dX7_arrange_81 : decode cX7_arrange 81 = .ok (.iload_n 2, 1) := by decide +kernel
theorem dX7_arrange_82 : decode cX7_arrange 82 = .ok (.ireturn, 1) := by decide +kernel
theorem dX7_arrange_83 : decode cX7_arrange 83 = .ok (.iinc 2 1, 3) := by decide +kernel
theorem dX7_arrange_86 : decode cX7_arrange 86 = .ok (.goto (-27), 3) := by decide +kernel
theorem dX7_arrange_89 : decode cX7_arrange 89 = .ok (.iconst (-1), 1) := by decide +kernel
theorem dX7_arrange_90 : decode cX7_arrange 90 = .ok (.ireturn, 1) := by decide +kernel
theorem dX7_clash_0 : decode cX7_clash 0 = .ok (.aload_n 0, 1) := by decide +kernel
theorem dX7_clash_1 : decode cX7_clash 1 = .ok (.getfield 32, 3) := by decide +kernel
theorem dX7_clash_4 : decode cX7_clash 4 = .ok (.iload_n 1, 1) := by decide +kernel
theorem dX7_clash_5 : decode cX7_clash 5 = .ok (.iaload, 1) := by decide +kernel
theorem dX7_clash_6 : decode cX7_clash 6 = .ok (.istore_n 3, 1) := by decide +kernel
theorem dX7_clash_7 : decode cX7_clash 7 = .ok (.aload_n 0, 1) := by decide +kernel
theorem dX7_clash_8 : decode cX7_clash 8 = .ok (.getfield 35, 3) := by decide +kernel
theorem dX7_clash_11 : decode cX7_clash 11 = .ok (.iload_n 1, 1) := by decide +kernel
theorem dX7_clash_12 : decode cX7_clash 12 = .ok (.iaload, 1) := by decide +kernel
theorem dX7_clash_13 : decode cX7_clash 13 = .ok (.istore 4, 2) := by decide +kernel
theorem dX7_clash_15 : decode cX7_clash 15 = .ok (.aload_n 0, 1) := by decide +kernel
theorem dX7_clash_16 : decode cX7_clash 16 = .ok (.getfield 32, 3) := by decide +kernel
theorem dX7_clash_19 : decode cX7_clash 19 = .ok (.iload_n 2, 1) := by decide +kernel
theorem dX7_clash_20 : decode cX7_clash 20 = .ok (.iaload, 1) := by decide +kernel
theorem dX7_clash_21 : decode cX7_clash 21 = .ok (.istore 5, 2) := by decide +kernel
theorem dX7_clash_23 : decode cX7_clash 23 = .ok (.aload_n 0, 1) := by decide +kernel
theorem dX7_clash_24 : decode cX7_clash 24 = .ok (.getfield 35, 3) := by decide +kernel
theorem dX7_clash_27 : decode cX7_clash 27 = .ok (.iload_n 2, 1) := by decide +kernel
theorem dX7_clash_28 : decode cX7_clash 28 = .ok (.iaload, 1) := by decide +kernel
theorem dX7_clash_29 : decode cX7_clash 29 = .ok (.istore 6, 2) := by decide +kernel
theorem dX7_clash_31 : decode cX7_clash 31 = .ok (.iload_n 3, 1) := by decide +kernel
theorem dX7_clash_32 : decode cX7_clash 32 = .ok (.iload 5, 2) := by decide +kernel
theorem dX7_clash_34 : decode cX7_clash 34 = .ok (.if_icmp .eq 23, 3) := by decide +kernel
theorem dX7_clash_37 : decode cX7_clash 37 = .ok (.iload_n 3, 1) := by decide +kernel
theorem dX7_clash_38 : decode cX7_clash 38 = .ok (.iload 6, 2) := by decide +kernel
theorem dX7_clash_40 : decode cX7_clash 40 = .ok (.if_icmp .eq 17, 3) := by decide +kernel
theorem dX7_clash_43 : decode cX7_clash 43 = .ok (.iload 4, 2) := by decide +kernel
theorem dX7_clash_45 : decode cX7_clash 45 = .ok (.iload 5, 2) := by decide +kernel
theorem dX7_clash_47 : decode cX7_clash 47 = .ok (.if_icmp .eq 10, 3) := by decide +kernel
theorem dX7_clash_50 : decode cX7_clash 50 = .ok (.iload 4, 2) := by decide +kernel
theorem dX7_clash_52 : decode cX7_clash 52 = .ok (.iload 6, 2) := by decide +kernel
theorem dX7_clash_54 : decode cX7_clash 54 = .ok (.if_icmp .ne 5, 3) := by decide +kernel
theorem dX7_clash_57 : decode cX7_clash 57 = .ok (.iconst 1, 1) := by decide +kernel
theorem dX7_clash_58 : decode cX7_clash 58 = .ok (.ireturn, 1) := by decide +kernel
theorem dX7_clash_59 : decode cX7_clash 59 = .ok (.aload_n 0, 1) := by decide +kernel
theorem dX7_clash_60 : decode cX7_clash 60 = .ok (.iload_n 3, 1) := by decide +kernel
theorem dX7_clash_61 : decode cX7_clash 61 = .ok (.invokevirtual 38, 3) := by decide +kernel
theorem dX7_clash_64 : decode cX7_clash 64 = .ok (.ifCond .eq 52, 3) := by decide +kernel
theorem dX7_clash_67 : decode cX7_clash 67 = .ok (.aload_n 0, 1) := by decide +kernel
theorem dX7_clash_68 : decode cX7_clash 68 = .ok (.iload 4, 2) := by decide +kernel
theorem dX7_clash_70 : decode cX7_clash 70 = .ok (.invokevirtual 38, 3) := by decide +kernel
theorem dX7_clash_73 : decode cX7_clash 73 = .ok (.ifCond .eq 43, 3) := by decide +kernel
theorem dX7_clash_76 : decode cX7_clash 76 = .ok (.aload_n 0, 1) := by decide +kernel
theorem dX7_clash_77 : decode cX7_clash 77 = .ok (.iload 5, 2) := by decide +kernel
theorem dX7_clash_79 : decode cX7_clash 79 = .ok (.invokevirtual 38, 3) := by decide +kernel
theorem dX7_clash_82 : decode cX7_clash 82 = .ok (.ifCond .eq 34, 3) := by decide +kernel
theorem dX7_clash_85 : decode cX7_clash 85 = .ok (.aload_n 0, 1) := by decide +kernel
theorem dX7_clash_86 : decode cX7_clash 86 = .ok (.iload 6, 2) := by decide +kernel
theorem dX7_clash_88 : decode cX7_clash 88 = .ok (.invokevirtual 38, 3) := by decide +kernel
theorem dX7_clash_91 : decode cX7_clash 91 = .ok (.ifCond .eq 25, 3) := by decide +kernel
theorem dX7_clash_94 : decode cX7_clash 94 = .ok (.aload_n 0, 1) := by decide +kernel
theorem dX7_clash_95 : decode cX7_clash 95 = .ok (.iload_n 3, 1) := by decide +kernel
theorem dX7_clash_96 : decode cX7_clash 96 = .ok (.iload 4, 2) := by decide +kernel
theorem dX7_clash_98 : decode cX7_clash 98 = .ok (.invokevirtual 42, 3) := by decide +kernel
theorem dX7_clash_101 : decode cX7_clash 101 = .ok (.aload_n 0, 1) := by decide +kernel
theorem dX7_clash_102 : decode cX7_clash 102 = .ok (.iload 5, 2) := by decide +kernel
theorem dX7_clash_104 : decode cX7_clash 104 = .ok (.iload 6, 2) := by decide +kernel
theorem dX7_clash_106 : decode cX7_clash 106 = .ok (.invokevirtual 42, 3) := by decide +kernel
theorem dX7_clash_109 : decode cX7_clash 109 = .ok (.if_icmp .ne 7, 3) := by decide +kernel
theorem dX7_clash_112 : decode cX7_clash 112 = .ok (.iconst 1, 1) := by decide +kernel
theorem dX7_clash_113 : decode cX7_clash 113 = .ok (.goto 4, 3) := by decide +kernel
theorem dX7_clash_116 : decode cX7_clash 116 = .ok (.iconst 0, 1) := by decide +kernel
theorem dX7_clash_117 : decode cX7_clash 117 = .ok (.ireturn, 1) := by decide +kernel
theorem dX7_place_0 : decode cX7_place 0 = .ok (.iload_n 1, 1) := by decide +kernel
theorem dX7_place_1 : decode cX7_place 1 = .ok (.iload_n 2, 1) := by decide +kernel
theorem dX7_place_2 : decode cX7_place 2 = .ok (.if_icmp .ge 9, 3) := by decide +kernel
theorem dX7_place_5 : decode cX7_place 5 = .ok (.iload_n 1, 1) := by decide +kernel
theorem dX7_place_6 : decode cX7_place 6 = .ok (.bipush 8, 2) := by decide +kernel
theorem dX7_place_8 : decode cX7_place 8 = .ok (.if_icmp .lt 5, 3) := by decide +kernel
theorem dX7_place_11 : decode cX7_place 11 = .ok (.iconst 1, 1) := by decide +kernel
theorem dX7_place_12 : decode cX7_place 12 = .ok (.ireturn, 1) := by decide +kernel
theorem dX7_place_13 : decode cX7_place 13 = .ok (.iconst 1, 1) := by decide +kernel
theorem dX7_place_14 : decode cX7_place 14 = .ok (.istore 5, 2) := by decide +kernel
theorem dX7_place_16 : decode cX7_place 16 = .ok (.iload 5, 2) := by decide +kernel
theorem dX7_place_18 : decode cX7_place 18 = .ok (.iload 4, 2) := by decide +kernel
theorem dX7_place_20 : decode cX7_place 20 = .ok (.if_icmp .gt 56, 3) := by decide +kernel
theorem dX7_place_23 : decode cX7_place 23 = .ok (.iload 5, 2) := by decide +kernel
theorem dX7_place_25 : decode cX7_place 25 = .ok (.iload_n 3, 1) := by decide +kernel
theorem dX7_place_26 : decode cX7_place 26 = .ok (.iconst 1, 1) := by decide +kernel
theorem dX7_place_27 : decode cX7_place 27 = .ok (.iadd, 1) := by decide +kernel
theorem dX7_place_28 : decode cX7_place 28 = .ok (.if_icmp .gt 48, 3) := by decide +kernel
theorem dX7_place_31 : decode cX7_place 31 = .ok (.aload_n 0, 1) := by decide +kernel
theorem dX7_place_32 : decode cX7_place 32 = .ok (.iload_n 1, 1) := by decide +kernel
theorem dX7_place_33 : decode cX7_place 33 = .ok (.iload 5, 2) := by decide +kernel
theorem dX7_place_35 : decode cX7_place 35 = .ok (.invokevirtual 46, 3) := by decide +kernel
theorem dX7_place_38 : decode cX7_place 38 = .ok (.ifCond .eq 32, 3) := by decide +kernel
theorem dX7_place_41 : decode cX7_place 41 = .ok (.aload_n 0, 1) := by decide +kernel
theorem dX7_place_42 : decode cX7_place 42 = .ok (.getfield 9, 3) := by decide +kernel
theorem dX7_place_45 : decode cX7_place 45 = .ok (.iload_n 1, 1) := by decide +kernel
theorem dX7_place_46 : decode cX7_place 46 = .ok (.iload 5, 2) := by decide +kernel
theorem dX7_place_48 : decode cX7_place 48 = .ok (.iastore, 1) := by decide +kernel
theorem dX7_place_49 : decode cX7_place 49 = .ok (.aload_n 0, 1) := by decide +kernel
theorem dX7_place_50 : decode cX7_place 50 = .ok (.iload_n 1, 1) := by decide +kernel
theorem dX7_place_51 : decode cX7_place 51 = .ok (.iconst 1, 1) := by decide +kernel
theorem dX7_place_52 : decode cX7_place 52 = .ok (.iadd, 1) := by decide +kernel
theorem dX7_place_53 : decode cX7_place 53 = .ok (.iload_n 2, 1) := by decide +kernel
theorem dX7_place_54 : decode cX7_place 54 = .ok (.iload_n 3, 1) := by decide +kernel
theorem dX7_place_55 : decode cX7_place 55 = .ok (.iload 5, 2) := by decide +kernel
theorem dX7_place_57 : decode cX7_place 57 = .ok (.invokestatic 50, 3) := by decide +kernel
theorem dX7_place_60 : decode cX7_place 60 = .ok (.iload 4, 2) := by decide +kernel
theorem dX7_place_62 : decode cX7_place 62 = .ok (.invokevirtual 28, 3) := by decide +kernel
theorem dX7_place_65 : decode cX7_place 65 = .ok (.ifCond .eq 5, 3) := by decide +kernel
theorem dX7_place_68 : decode cX7_place 68 = .ok (.iconst 1, 1) := by decide +kernel
theorem dX7_place_69 : decode cX7_place 69 = .ok (.ireturn, 1) := by decide +kernel
theorem dX7_place_70 : decode cX7_place 70 = .ok (.iinc 5 1, 3) := by decide +kernel
theorem dX7_place_73 : decode cX7_place 73 = .ok (.goto (-57), 3) := by decide +kernel
theorem dX7_place_76 : decode cX7_place 76 = .ok (.iconst 0, 1) := by decide +kernel
theorem dX7_place_77 : decode cX7_place 77 = .ok (.ireturn, 1) := by decide +kernel
theorem dX7_isFree_0 : decode cX7_isFree 0 = .ok (.iconst 0, 1) := by decide +kernel
theorem dX7_isFree_1 : decode cX7_isFree 1 = .ok (.istore_n 3, 1) := by decide +kernel
theorem dX7_isFree_2 : decode cX7_isFree 2 = .ok (.iload_n 3, 1) := by decide +kernel
theorem dX7_isFree_3 : decode cX7_isFree 3 = .ok (.iload_n 1, 1) := by decide +kernel
theorem dX7_isFree_4 : decode cX7_isFree 4 = .ok (.if_icmp .ge 35, 3) := by decide +kernel
theorem dX7_isFree_7 : decode cX7_isFree 7 = .ok (.aload_n 0, 1) := by decide +kernel
theorem dX7_isFree_8 : decode cX7_isFree 8 = .ok (.getfield 15, 3) := by decide +kernel
theorem dX7_isFree_11 : decode cX7_isFree 11 = .ok (.iload_n 1, 1) := by decide +kernel
theorem dX7_isFree_12 : decode cX7_isFree 12 = .ok (.iaload, 1) := by decide +kernel
theorem dX7_isFree_13 : decode cX7_isFree 13 = .ok (.iload_n 3, 1) := by decide +kernel
theorem dX7_isFree_14 : decode cX7_isFree 14 = .ok (.ishr, 1) := by decide +kernel
theorem dX7_isFree_15 : decode cX7_isFree 15 = .ok (.iconst 1, 1) := by decide +kernel
theorem dX7_isFree_16 : decode cX7_isFree 16 = .ok (.iand, 1) := by decide +kernel
theorem dX7_isFree_17 : decode cX7_isFree 17 = .ok (.iconst 1, 1) := by decide +kernel
theorem dX7_isFree_18 : decode cX7_isFree 18 = .ok (.if_icmp .ne 15, 3) := by decide +kernel
theorem dX7_isFree_21 : decode cX7_isFree 21 = .ok (.aload_n 0, 1) := by decide +kernel
theorem dX7_isFree_22 : decode cX7_isFree 22 = .ok (.getfield 9, 3) := by decide +kernel
theorem dX7_isFree_25 : decode cX7_isFree 25 = .ok (.iload_n 3, 1) := by decide +kernel
theorem dX7_isFree_26 : decode cX7_isFree 26 = .ok (.iaload, 1) := by decide +kernel
theorem dX7_isFree_27 : decode cX7_isFree 27 = .ok (.iload_n 2, 1) := by decide +kernel
theorem dX7_isFree_28 : decode cX7_isFree 28 = .ok (.if_icmp .ne 5, 3) := by decide +kernel
theorem dX7_isFree_31 : decode cX7_isFree 31 = .ok (.iconst 0, 1) := by decide +kernel
theorem dX7_isFree_32 : decode cX7_isFree 32 = .ok (.ireturn, 1) := by decide +kernel
theorem dX7_isFree_33 : decode cX7_isFree 33 = .ok (.iinc 3 1, 3) := by decide +kernel
theorem dX7_isFree_36 : decode cX7_isFree 36 = .ok (.goto (-34), 3) := by decide +kernel
theorem dX7_isFree_39 : decode cX7_isFree 39 = .ok (.iconst 1, 1) := by decide +kernel
theorem dX7_isFree_40 : decode cX7_isFree 40 = .ok (.ireturn, 1) := by decide +kernel
theorem dX8_init_0 : decode cX8_init 0 = .ok (.aload_n 0, 1) := by decide +kernel
theorem dX8_init_1 : decode cX8_init 1 = .ok (.invokespecial 3, 3) := by decide +kernel
theorem dX8_init_4 : decode cX8_init 4 = .ok (.aload_n 0, 1) := by decide +kernel
theorem dX8_init_5 : decode cX8_init 5 = .ok (.bipush 10, 2) := by decide +kernel
theorem dX8_init_7 : decode cX8_init 7 = .ok (.newarray .int, 2) := by decide +kernel
theorem dX8_init_9 : decode cX8_init 9 = .ok (.putfield 9, 3) := by decide +kernel
theorem dX8_init_12 : decode cX8_init 12 = .ok (.aload_n 0, 1) := by decide +kernel
theorem dX8_init_13 : decode cX8_init 13 = .ok (.bipush 10, 2) := by decide +kernel
theorem dX8_init_15 : decode cX8_init 15 = .ok (.newarray .int, 2) := by decide +kernel
theorem dX8_init_17 : decode cX8_init 17 = .ok (.putfield 15, 3) := by decide +kernel
theorem dX8_init_20 : decode cX8_init 20 = .ok (.aload_n 0, 1) := by decide +kernel
theorem dX8_init_21 : decode cX8_init 21 = .ok (.getfield 9, 3) := by decide +kernel
theorem dX8_init_24 : decode cX8_init 24 = .ok (.iconst (-1), 1) := by decide +kernel
theorem dX8_init_25 : decode cX8_init 25 = .ok (.invokestatic 18, 3) := by decide +kernel
theorem dX8_init_28 : decode cX8_init 28 = .ok (.aload_n 0, 1) := by decide +kernel
theorem dX8_init_29 : decode cX8_init 29 = .ok (.getfield 15, 3) := by decide +kernel
theorem dX8_init_32 : decode cX8_init 32 = .ok (.iconst 5, 1) := by decide +kernel
theorem dX8_init_33 : decode cX8_init 33 = .ok (.invokestatic 18, 3) := by decide +kernel
theorem dX8_init_36 : decode cX8_init 36 = .ok (.aload_n 0, 1) := by decide +kernel
theorem dX8_init_37 : decode cX8_init 37 = .ok (.bipush 48, 2) := by decide +kernel
theorem dX8_init_39 : decode cX8_init 39 = .ok (.newarray .int, 2) := by decide +kernel
theorem dX8_init_41 : decode cX8_init 41 = .ok (.putfield 24, 3) := by decide +kernel
theorem dX8_init_44 : decode cX8_init 44 = .ok (.aload_n 0, 1) := by decide +kernel
theorem dX8_init_45 : decode cX8_init 45 = .ok (.iconst 4, 1) := by decide +kernel
theorem dX8_init_46 : decode cX8_init 46 = .ok (.newarray .int, 2) := by decide +kernel
theorem dX8_init_48 : decode cX8_init 48 = .ok (.putfield 27, 3) := by decide +kernel
theorem dX8_init_51 : decode cX8_init 51 = .ok (.aload_n 0, 1) := by decide +kernel
theorem dX8_init_52 : decode cX8_init 52 = .ok (.bipush 8, 2) := by decide +kernel
theorem dX8_init_54 : decode cX8_init 54 = .ok (.newarray .int, 2) := by decide +kernel
theorem dX8_init_56 : decode cX8_init 56 = .ok (.putfield 30, 3) := by decide +kernel
theorem dX8_init_59 : decode cX8_init 59 = .ok (.aload_n 0, 1) := by decide +kernel
theorem dX8_init_60 : decode cX8_init 60 = .ok (.bipush 8, 2) := by decide +kernel
theorem dX8_init_62 : decode cX8_init 62 = .ok (.newarray .int, 2) := by decide +kernel
theorem dX8_init_64 : decode cX8_init 64 = .ok (.putfield 33, 3) := by decide +kernel
theorem dX8_init_67 : decode cX8_init 67 = .ok (.aload_n 0, 1) := by decide +kernel
theorem dX8_init_68 : decode cX8_init 68 = .ok (.bipush 15, 2) := by decide +kernel
theorem dX8_init_70 : decode cX8_init 70 = .ok (.newarray .int, 2) := by decide +kernel
theorem dX8_init_72 : decode cX8_init 72 = .ok (.putfield 36, 3) := by decide +kernel
theorem dX8_init_75 : decode cX8_init 75 = .ok (.aload_n 0, 1) := by decide +kernel
theorem dX8_init_76 : decode cX8_init 76 = .ok (.new 39, 3) := by decide +kernel
theorem dX8_init_79 : decode cX8_init 79 = .ok (.dup, 1) := by decide +kernel
theorem dX8_init_80 : decode cX8_init 80 = .ok (.invokespecial 41, 3) := by decide +kernel
theorem dX8_init_83 : decode cX8_init 83 = .ok (.putfield 42, 3) := by decide +kernel
theorem dX8_init_86 : decode cX8_init 86 = .ok (.aload_n 0, 1) := by decide +kernel
theorem dX8_init_87 : decode cX8_init 87 = .ok (.new 46, 3) := by decide +kernel
theorem dX8_init_90 : decode cX8_init 90 = .ok (.dup, 1) := by decide +kernel
theorem dX8_init_91 : decode cX8_init 91 = .ok (.invokespecial 48, 3) := by decide +kernel
theorem dX8_init_94 : decode cX8_init 94 = .ok (.putfield 49, 3) := by decide +kernel
theorem dX8_init_97 : decode cX8_init 97 = .ok (.return_, 1) := by decide +kernel
theorem dX8_copyFrom_0 : decode cX8_copyFrom 0 = .ok (.aload_n 0, 1) := by decide +kernel
theorem dX8_copyFrom_1 : decode cX8_copyFrom 1 = .ok (.aload_n 1, 1) := by decide +kernel
theorem dX8_copyFrom_2 : decode cX8_copyFrom 2 = .ok (.getfield 53, 3) := by decide +kernel
theorem dX8_copyFrom_5 : decode cX8_copyFrom 5 = .ok (.putfield 53, 3) := by decide +kernel
theorem dX8_copyFrom_8 : decode cX8_copyFrom 8 = .ok (.aload_n 0, 1) := by decide +kernel
theorem dX8_copyFrom_9 : decode cX8_copyFrom 9 = .ok (.aload_n 1, 1) := by decide +kernel
theorem dX8_copyFrom_10 : decode cX8_copyFrom 10 = .ok (.getfield 57, 3) := by decide +kernel
theorem dX8_copyFrom_13 : decode cX8_copyFrom 13 = .ok (.putfield 57, 3) := by decide +kernel
theorem dX8_copyFrom_16 : decode cX8_copyFrom 16 = .ok (.aload_n 1, 1) := by decide +kernel
theorem dX8_copyFrom_17 : decode cX8_copyFrom 17 = .ok (.getfield 9, 3) := by decide +kernel
theorem dX8_copyFrom_20 : decode cX8_copyFrom 20 = .ok (.iconst 0, 1) := by decide +kernel
theorem dX8_copyFrom_21 : decode cX8_copyFrom 21 = .ok (.aload_n 0, 1) := by decide +kernel
theorem dX8_copyFrom_22 : decode cX8_copyFrom 22 = .ok (.getfield 9, 3) := by decide +kernel
theorem dX8_copyFrom_25 : decode cX8_copyFrom 25 = .ok (.iconst 0, 1) := by decide +kernel
theorem dX8_copyFrom_26 : decode cX8_copyFrom 26 = .ok (.bipush 10, 2) := by decide +kernel
theorem dX8_copyFrom_28 : decode cX8_copyFrom 28 = .ok (.invokestatic 60, 3) := by decide +kernel
theorem dX8_copyFrom_31 : decode cX8_copyFrom 31 = .ok (.aload_n 1, 1) := by decide +kernel
theorem dX8_copyFrom_32 : decode cX8_copyFrom 32 = .ok (.getfield 15, 3) := by decide +kernel
theorem dX8_copyFrom_35 : decode cX8_copyFrom 35 = .ok (.iconst 0, 1) := by decide +kernel
theorem dX8_copyFrom_36 : decode cX8_copyFrom 36 = .ok (.aload_n 0, 1) := by decide +kernel
theorem dX8_copyFrom_37 : decode cX8_copyFrom 37 = .ok (.getfield 15, 3) := by decide +kernel
theorem dX8_copyFrom_40 : decode cX8_copyFrom 40 = .ok (.iconst 0, 1) := by decide +kernel
theorem dX8_copyFrom_41 : decode cX8_copyFrom 41 = .ok (.bipush 10, 2) := by decide +kernel
theorem dX8_copyFrom_43 : decode cX8_copyFrom 43 = .ok (.invokestatic 60, 3) := by decide +kernel
theorem dX8_copyFrom_46 : decode cX8_copyFrom 46 = .ok (.aload_n 0, 1) := by decide +kernel
theorem dX8_copyFrom_47 : decode cX8_copyFrom 47 = .ok (.aload_n 1, 1) := by decide +kernel
theorem dX8_copyFrom_48 : decode cX8_copyFrom 48 = .ok (.getfield 66, 3) := by decide +kernel
theorem dX8_copyFrom_51 : decode cX8_copyFrom 51 = .ok (.putfield 66, 3) := by decide +kernel
theorem dX8_copyFrom_54 : decode cX8_copyFrom 54 = .ok (.aload_n 0, 1) := by decide +kernel
theorem dX8_copyFrom_55 : decode cX8_copyFrom 55 = .ok (.aload_n 1, 1) := by decide +kernel
theorem dX8_copyFrom_56 : decode cX8_copyFrom 56 = .ok (.getfield 69, 3) := by decide +kernel
theorem dX8_copyFrom_59 : decode cX8_copyFrom 59 = .ok (.putfield 69, 3) := by decide +kernel
theorem dX8_copyFrom_62 : decode cX8_copyFrom 62 = .ok (.aload_n 0, 1) := by decide +kernel
theorem dX8_copyFrom_63 : decode cX8_copyFrom 63 = .ok (.aload_n 1, 1) := by decide +kernel
theorem dX8_copyFrom_64 : decode cX8_copyFrom 64 = .ok (.getfield 72, 3) := by decide +kernel
theorem dX8_copyFrom_67 : decode cX8_copyFrom 67 = .ok (.putfield 72, 3) := by decide +kernel
theorem dX8_copyFrom_70 : decode cX8_copyFrom 70 = .ok (.aload_n 1, 1) := by decide +kernel
theorem dX8_copyFrom_71 : decode cX8_copyFrom 71 = .ok (.getfield 24, 3) := by decide +kernel
theorem dX8_copyFrom_74 : decode cX8_copyFrom 74 = .ok (.iconst 0, 1) := by decide +kernel
theorem dX8_copyFrom_75 : decode cX8_copyFrom 75 = .ok (.aload_n 0, 1) := by decide +kernel
theorem dX8_copyFrom_76 : decode cX8_copyFrom 76 = .ok (.getfield 24, 3) := by decide +kernel
theorem dX8_copyFrom_79 : decode cX8_copyFrom 79 = .ok (.iconst 0, 1) := by decide +kernel
theorem dX8_copyFrom_80 : decode cX8_copyFrom 80 = .ok (.bipush 48, 2) := by decide +kernel
theorem dX8_copyFrom_82 : decode cX8_copyFrom 82 = .ok (.invokestatic 60, 3) := by decide +kernel
theorem dX8_copyFrom_85 : decode cX8_copyFrom 85 = .ok (.aload_n 1, 1) := by decide +kernel
theorem dX8_copyFrom_86 : decode cX8_copyFrom 86 = .ok (.getfield 27, 3) := by decide +kernel
theorem dX8_copyFrom_89 : decode cX8_copyFrom 89 = .ok (.iconst 0, 1) := by decide +kernel
theorem dX8_copyFrom_90 : decode cX8_copyFrom 90 = .ok (.aload_n 0, 1) := by decide +kernel
theorem dX8_copyFrom_91 : decode cX8_copyFrom 91 = .ok (.getfield 27, 3) := by decide +kernel
theorem dX8_copyFrom_94 : decode cX8_copyFrom 94 = .ok (.iconst 0, 1) := by decide +kernel
theorem dX8_copyFrom_95 : decode cX8_copyFrom 95 = .ok (.iconst 4, 1) := by decide +kernel
theorem dX8_copyFrom_96 : decode cX8_copyFrom 96 = .ok (.invokestatic 60, 3) := by decide +kernel
theorem dX8_copyFrom_99 : decode cX8_copyFrom 99 = .ok (.aload_n 0, 1) := by decide +kernel
theorem dX8_copyFrom_100 : decode cX8_copyFrom 100 = .ok (.aload_n 1, 1) := by decide +kernel
theorem dX8_copyFrom_101 : decode cX8_copyFrom 101 = .ok (.getfield 75, 3) := by decide +kernel
theorem dX8_copyFrom_104 : decode cX8_copyFrom 104 = .ok (.putfield 75, 3) := by decide +kernel
theorem dX8_copyFrom_107 : decode cX8_copyFrom 107 = .ok (.aload_n 1, 1) := by decide +kernel
theorem dX8_copyFrom_108 : decode cX8_copyFrom 108 = .ok (.getfield 30, 3) := by decide +kernel
theorem dX8_copyFrom_111 : decode cX8_copyFrom 111 = .ok (.iconst 0, 1) := by decide +kernel
theorem dX8_copyFrom_112 : decode cX8_copyFrom 112 = .ok (.aload_n 0, 1) := by decide +kernel
theorem dX8_copyFrom_113 : decode cX8_copyFrom 113 = .ok (.getfield 30, 3) := by decide +kernel
theorem dX8_copyFrom_116 : decode cX8_copyFrom 116 = .ok (.iconst 0, 1) := by decide +kernel
theorem dX8_copyFrom_117 : decode cX8_copyFrom 117 = .ok (.bipush 8, 2) := by decide +kernel
theorem dX8_copyFrom_119 : decode cX8_copyFrom 119 = .ok (.invokestatic 60, 3) := by decide +kernel
theorem dX8_copyFrom_122 : decode cX8_copyFrom 122 = .ok (.aload_n 1, 1) := by decide +kernel
theorem dX8_copyFrom_123 : decode cX8_copyFrom 123 = .ok (.getfield 33, 3) := by decide +kernel
theorem dX8_copyFrom_126 : decode cX8_copyFrom 126 = .ok (.iconst 0, 1) := by decide +kernel
theorem dX8_copyFrom_127 : decode cX8_copyFrom 127 = .ok (.aload_n 0, 1) := by decide +kernel
theorem dX8_copyFrom_128 : decode cX8_copyFrom 128 = .ok (.getfield 33, 3) := by decide +kernel
theorem dX8_copyFrom_131 : decode cX8_copyFrom 131 = .ok (.iconst 0, 1) := by decide +kernel
theorem dX8_copyFrom_132 : decode cX8_copyFrom 132 = .ok (.bipush 8, 2) := by decide +kernel
theorem dX8_copyFrom_134 : decode cX8_copyFrom 134 = .ok (.invokestatic 60, 3) := by decide +kernel
theorem dX8_copyFrom_137 : decode cX8_copyFrom 137 = .ok (.aload_n 0, 1) := by decide +kernel
theorem dX8_copyFrom_138 : decode cX8_copyFrom 138 = .ok (.aload_n 1, 1) := by decide +kernel
theorem dX8_copyFrom_139 : decode cX8_copyFrom 139 = .ok (.getfield 78, 3) := by decide +kernel
theorem dX8_copyFrom_142 : decode cX8_copyFrom 142 = .ok (.putfield 78, 3) := by decide +kernel
theorem dX8_copyFrom_145 : decode cX8_copyFrom 145 = .ok (.aload_n 1, 1) := by decide +kernel
theorem dX8_copyFrom_146 : decode cX8_copyFrom 146 = .ok (.getfield 36, 3) := by decide +kernel
theorem dX8_copyFrom_149 : decode cX8_copyFrom 149 = .ok (.iconst 0, 1) := by decide +kernel
theorem dX8_copyFrom_150 : decode cX8_copyFrom 150 = .ok (.aload_n 0, 1) := by decide +kernel
theorem dX8_copyFrom_151 : decode cX8_copyFrom 151 = .ok (.getfield 36, 3) := by decide +kernel
theorem dX8_copyFrom_154 : decode cX8_copyFrom 154 = .ok (.iconst 0, 1) := by decide +kernel
theorem dX8_copyFrom_155 : decode cX8_copyFrom 155 = .ok (.bipush 15, 2) := by decide +kernel
theorem dX8_copyFrom_157 : decode cX8_copyFrom 157 = .ok (.invokestatic 60, 3) := by decide +kernel
theorem dX8_copyFrom_160 : decode cX8_copyFrom 160 = .ok (.aload_n 0, 1) := by decide +kernel
theorem dX8_copyFrom_161 : decode cX8_copyFrom 161 = .ok (.getfield 42, 3) := by decide +kernel
theorem dX8_copyFrom_164 : decode cX8_copyFrom 164 = .ok (.aload_n 1, 1) := by decide +kernel
theorem dX8_copyFrom_165 : decode cX8_copyFrom 165 = .ok (.getfield 42, 3) := by decide +kernel
theorem dX8_copyFrom_168 : decode cX8_copyFrom 168 = .ok (.invokevirtual 81, 3) := by decide +kernel
theorem dX8_copyFrom_171 : decode cX8_copyFrom 171 = .ok (.aload_n 0, 1) := by decide +kernel
theorem dX8_copyFrom_172 : decode cX8_copyFrom 172 = .ok (.getfield 49, 3) := by decide +kernel
theorem dX8_copyFrom_175 : decode cX8_copyFrom 175 = .ok (.aload_n 1, 1) := by decide +kernel
theorem dX8_copyFrom_176 : decode cX8_copyFrom 176 = .ok (.getfield 49, 3) := by decide +kernel
theorem dX8_copyFrom_179 : decode cX8_copyFrom 179 = .ok (.invokevirtual 85, 3) := by decide +kernel
theorem dX8_copyFrom_182 : decode cX8_copyFrom 182 = .ok (.return_, 1) := by decide +kernel
theorem dX8_isPerson_0 : decode cX8_isPerson 0 = .ok (.iload_n 1, 1) := by decide +kernel
theorem dX8_isPerson_1 : decode cX8_isPerson 1 = .ok (.ifCond .lt 21, 3) := by decide +kernel
theorem dX8_isPerson_4 : decode cX8_isPerson 4 = .ok (.iload_n 1, 1) := by decide +kernel
theorem dX8_isPerson_5 : decode cX8_isPerson 5 = .ok (.aload_n 0, 1) := by decide +kernel
theorem dX8_isPerson_6 : decode cX8_isPerson 6 = .ok (.getfield 57, 3) := by decide +kernel
theorem dX8_isPerson_9 : decode cX8_isPerson 9 = .ok (.if_icmp .ge 13, 3) := by decide +kernel
theorem dX8_isPerson_12 : decode cX8_isPerson 12 = .ok (.iload_n 1, 1) := by decide +kernel
theorem dX8_isPerson_13 : decode cX8_isPerson 13 = .ok (.bipush 10, 2) := by decide +kernel
theorem dX8_isPerson_15 : decode cX8_isPerson 15 = .ok (.if_icmp .ge 7, 3) := by decide +kernel
theorem dX8_isPerson_18 : decode cX8_isPerson 18 = .ok (.iconst 1, 1) := by decide +kernel
theorem dX8_isPerson_19 : decode cX8_isPerson 19 = .ok (.goto 4, 3) := by decide +kernel
theorem dX8_isPerson_22 : decode cX8_isPerson 22 = .ok (.iconst 0, 1) := by decide +kernel
theorem dX8_isPerson_23 : decode cX8_isPerson 23 = .ok (.ireturn, 1) := by decide +kernel
theorem dX8_hasHum_0 : decode cX8_hasHum 0 = .ok (.aload_n 0, 1) := by decide +kernel
theorem dX8_hasHum_1 : decode cX8_hasHum 1 = .ok (.iload_n 1, 1) := by decide +kernel
theorem dX8_hasHum_2 : decode cX8_hasHum 2 = .ok (.invokevirtual 88, 3) := by decide +kernel
theorem dX8_hasHum_5 : decode cX8_hasHum 5 = .ok (.ifCond .eq 17, 3) := by decide +kernel
theorem dX8_hasHum_8 : decode cX8_hasHum 8 = .ok (.aload_n 0, 1) := by decide +kernel
theorem dX8_hasHum_9 : decode cX8_hasHum 9 = .ok (.getfield 9, 3) := by decide +kernel
theorem dX8_hasHum_12 : decode cX8_hasHum 12 = .ok (.iload_n 1, 1) := by decide +kernel
theorem dX8_hasHum_13 : decode cX8_hasHum 13 = .ok (.iaload, 1) := by decide +kernel
theorem dX8_hasHum_14 : decode cX8_hasHum 14 = .ok (.iconst (-1), 1) := by decide +kernel
theorem dX8_hasHum_15 : decode cX8_hasHum 15 = .ok (.if_icmp .eq 7, 3) := by decide +kernel
theorem dX8_hasHum_18 : decode cX8_hasHum 18 = .ok (.iconst 1, 1) := by decide +kernel
theorem dX8_hasHum_19 : decode cX8_hasHum 19 = .ok (.goto 4, 3) := by decide +kernel
theorem dX8_hasHum_22 : decode cX8_hasHum 22 = .ok (.iconst 0, 1) := by decide +kernel
theorem dX8_hasHum_23 : decode cX8_hasHum 23 = .ok (.ireturn, 1) := by decide +kernel
theorem dX8_wordOf_0 : decode cX8_wordOf 0 = .ok (.aload_n 0, 1) := by decide +kernel
theorem dX8_wordOf_1 : decode cX8_wordOf 1 = .ok (.getfield 9, 3) := by decide +kernel
theorem dX8_wordOf_4 : decode cX8_wordOf 4 = .ok (.iload_n 1, 1) := by decide +kernel
theorem dX8_wordOf_5 : decode cX8_wordOf 5 = .ok (.iaload, 1) := by decide +kernel
theorem dX8_wordOf_6 : decode cX8_wordOf 6 = .ok (.aload_n 0, 1) := by decide +kernel
theorem dX8_wordOf_7 : decode cX8_wordOf 7 = .ok (.getfield 9, 3) := by decide +kernel
theorem dX8_wordOf_10 : decode cX8_wordOf 10 = .ok (.iload_n 2, 1) := by decide +kernel
theorem dX8_wordOf_11 : decode cX8_wordOf 11 = .ok (.iaload, 1) := by decide +kernel
theorem dX8_wordOf_12 : decode cX8_wordOf 12 = .ok (.isub, 1) := by decide +kernel
theorem dX8_wordOf_13 : decode cX8_wordOf 13 = .ok (.invokestatic 92, 3) := by decide +kernel
theorem dX8_wordOf_16 : decode cX8_wordOf 16 = .ok (.ireturn, 1) := by decide +kernel
theorem dX8_toneOf_0 : decode cX8_toneOf 0 = .ok (.aload_n 0, 1) := by decide +kernel
theorem dX8_toneOf_1 : decode cX8_toneOf 1 = .ok (.getfield 24, 3) := by decide +kernel
theorem dX8_toneOf_4 : decode cX8_toneOf 4 = .ok (.iload_n 1, 1) := by decide +kernel
theorem dX8_toneOf_5 : decode cX8_toneOf 5 = .ok (.bipush 12, 2) := by decide +kernel
theorem dX8_toneOf_7 : decode cX8_toneOf 7 = .ok (.imul, 1) := by decide +kernel
theorem dX8_toneOf_8 : decode cX8_toneOf 8 = .ok (.iload_n 2, 1) := by decide +kernel
theorem dX8_toneOf_9 : decode cX8_toneOf 9 = .ok (.iadd, 1) := by decide +kernel
theorem dX8_toneOf_10 : decode cX8_toneOf 10 = .ok (.iaload, 1) := by decide +kernel
theorem dX8_toneOf_11 : decode cX8_toneOf 11 = .ok (.ireturn, 1) := by decide +kernel
theorem dX8_toldSet_0 : decode cX8_toldSet 0 = .ok (.iconst 0, 1) := by decide +kernel
theorem dX8_toldSet_1 : decode cX8_toldSet 1 = .ok (.istore_n 1, 1) := by decide +kernel
theorem dX8_toldSet_2 : decode cX8_toldSet 2 = .ok (.iconst 0, 1) := by decide +kernel
theorem dX8_toldSet_3 : decode cX8_toldSet 3 = .ok (.istore_n 2, 1) := by decide +kernel
theorem dX8_toldSet_4 : decode cX8_toldSet 4 = .ok (.iload_n 2, 1) := by decide +kernel
theorem dX8_toldSet_5 : decode cX8_toldSet 5 = .ok (.aload_n 0, 1) := by decide +kernel
theorem dX8_toldSet_6 : decode cX8_toldSet 6 = .ok (.getfield 78, 3) := by decide +kernel
theorem dX8_toldSet_9 : decode cX8_toldSet 9 = .ok (.if_icmp .ge 20, 3) := by decide +kernel
theorem dX8_toldSet_12 : decode cX8_toldSet 12 = .ok (.iload_n 1, 1) := by decide +kernel
theorem dX8_toldSet_13 : decode cX8_toldSet 13 = .ok (.iconst 1, 1) := by decide +kernel
theorem dX8_toldSet_14 : decode cX8_toldSet 14 = .ok (.aload_n 0, 1) := by decide +kernel
theorem dX8_toldSet_15 : decode cX8_toldSet 15 = .ok (.getfield 36, 3) := by decide +kernel
theorem dX8_toldSet_18 : decode cX8_toldSet 18 = .ok (.iload_n 2, 1) := by decide +kernel
theorem dX8_toldSet_19 : decode cX8_toldSet 19 = .ok (.iaload, 1) := by decide +kernel
theorem dX8_toldSet_20 : decode cX8_toldSet 20 = .ok (.ishl, 1) := by decide +kernel
theorem dX8_toldSet_21 : decode cX8_toldSet 21 = .ok (.ior, 1) := by decide +kernel
theorem dX8_toldSet_22 : decode cX8_toldSet 22 = .ok (.istore_n 1, 1) := by decide +kernel
theorem dX8_toldSet_23 : decode cX8_toldSet 23 = .ok (.iinc 2 1, 3) := by decide +kernel
theorem dX8_toldSet_26 : decode cX8_toldSet 26 = .ok (.goto (-22), 3) := by decide +kernel
theorem dX8_toldSet_29 : decode cX8_toldSet 29 = .ok (.iload_n 1, 1) := by decide +kernel
theorem dX8_toldSet_30 : decode cX8_toldSet 30 = .ok (.ireturn, 1) := by decide +kernel
theorem dX8_wordsSayable_0 : decode cX8_wordsSayable 0 = .ok (.iconst 0, 1) := by decide +kernel
theorem dX8_wordsSayable_1 : decode cX8_wordsSayable 1 = .ok (.istore_n 1, 1) := by decide +kernel
theorem dX8_wordsSayable_2 : decode cX8_wordsSayable 2 = .ok (.iconst 0, 1) := by decide +kernel
theorem dX8_wordsSayable_3 : decode cX8_wordsSayable 3 = .ok (.istore_n 2, 1) := by decide +kernel
theorem dX8_wordsSayable_4 : decode cX8_wordsSayable 4 = .ok (.iload_n 2, 1) := by decide +kernel
theorem dX8_wordsSayable_5 : decode cX8_wordsSayable 5 = .ok (.aload_n 0, 1) := by decide +kernel
theorem dX8_wordsSayable_6 : decode cX8_wordsSayable 6 = .ok (.getfield 57, 3) := by decide +kernel
theorem dX8_wordsSayable_9 : decode cX8_wordsSayable 9 = .ok (.if_icmp .ge 66, 3) := by decide +kernel
theorem dX8_wordsSayable_12 : decode cX8_wordsSayable 12 = .ok (.iconst 0, 1) := by decide +kernel
theorem dX8_wordsSayable_13 : decode cX8_wordsSayable 13 = .ok (.istore_n 3, 1) := by decide +kernel
theorem dX8_wordsSayable_14 : decode cX8_wordsSayable 14 = .ok (.iload_n 3, 1) := by decide +kernel
theorem dX8_wordsSayable_15 : decode cX8_wordsSayable 15 = .ok (.iload_n 2, 1) := by decide +kernel
theorem dX8_wordsSayable_16 : decode cX8_wordsSayable 16 = .ok (.if_icmp .ge 53, 3) := by decide +kernel
theorem dX8_wordsSayable_19 : decode cX8_wordsSayable 19 = .ok (.aload_n 0, 1) := by decide +kernel
theorem dX8_wordsSayable_20 : decode cX8_wordsSayable 20 = .ok (.iload_n 2, 1) := by decide +kernel
theorem dX8_wordsSayable_21 : decode cX8_wordsSayable 21 = .ok (.iload_n 3, 1) := by decide +kernel
theorem dX8_wordsSayable_22 : decode cX8_wordsSayable 22 = .ok (.invokevirtual 98, 3) := by decide +kernel
theorem dX8_wordsSayable_25 : decode cX8_wordsSayable 25 = .ok (.istore 4, 2) := by decide +kernel
theorem dX8_wordsSayable_27 : decode cX8_wordsSayable 27 = .ok (.aload_n 0, 1) := by decide +kernel
theorem dX8_wordsSayable_28 : decode cX8_wordsSayable 28 = .ok (.iload_n 2, 1) := by decide +kernel
theorem dX8_wordsSayable_29 : decode cX8_wordsSayable 29 = .ok (.invokevirtual 102, 3) := by decide +kernel
theorem dX8_wordsSayable_32 : decode cX8_wordsSayable 32 = .ok (.ifCond .eq 31, 3) := by decide +kernel
theorem dX8_wordsSayable_35 : decode cX8_wordsSayable 35 = .ok (.aload_n 0, 1) := by decide +kernel
theorem dX8_wordsSayable_36 : decode cX8_wordsSayable 36 = .ok (.iload_n 3, 1) := by decide +kernel
theorem dX8_wordsSayable_37 : decode cX8_wordsSayable 37 = .ok (.invokevirtual 102, 3) := by decide +kernel
theorem dX8_wordsSayable_40 : decode cX8_wordsSayable 40 = .ok (.ifCond .eq 23, 3) := by decide +kernel
theorem dX8_wordsSayable_43 : decode cX8_wordsSayable 43 = .ok (.iload 4, 2) := by decide +kernel
theorem dX8_wordsSayable_45 : decode cX8_wordsSayable 45 = .ok (.iconst 1, 1) := by decide +kernel
theorem dX8_wordsSayable_46 : decode cX8_wordsSayable 46 = .ok (.if_icmp .lt 17, 3) := by decide +kernel
theorem dX8_wordsSayable_49 : decode cX8_wordsSayable 49 = .ok (.iload 4, 2) := by decide +kernel
theorem dX8_wordsSayable_51 : decode cX8_wordsSayable 51 = .ok (.bipush 24, 2) := by decide +kernel
theorem dX8_wordsSayable_53 : decode cX8_wordsSayable 53 = .ok (.if_icmp .gt 10, 3) := by decide +kernel
theorem dX8_wordsSayable_56 : decode cX8_wordsSayable 56 = .ok (.iload_n 1, 1) := by decide +kernel
theorem dX8_wordsSayable_57 : decode cX8_wordsSayable 57 = .ok (.iconst 1, 1) := by decide +kernel
theorem dX8_wordsSayable_58 : decode cX8_wordsSayable 58 = .ok (.iload 4, 2) := by decide +kernel
theorem dX8_wordsSayable_60 : decode cX8_wordsSayable 60 = .ok (.ishl, 1) := by decide +kernel
theorem dX8_wordsSayable_61 : decode cX8_wordsSayable 61 = .ok (.ior, 1) := by decide +kernel
theorem dX8_wordsSayable_62 : decode cX8_wordsSayable 62 = .ok (.istore_n 1, 1) := by decide +kernel
theorem dX8_wordsSayable_63 : decode cX8_wordsSayable 63 = .ok (.iinc 3 1, 3) := by decide +kernel
theorem dX8_wordsSayable_66 : decode cX8_wordsSayable 66 = .ok (.goto (-52), 3) := by decide +kernel
theorem dX8_wordsSayable_69 : decode cX8_wordsSayable 69 = .ok (.iinc 2 1, 3) := by decide +kernel
theorem dX8_wordsSayable_72 : decode cX8_wordsSayable 72 = .ok (.goto (-68), 3) := by decide +kernel
theorem dX8_wordsSayable_75 : decode cX8_wordsSayable 75 = .ok (.iload_n 1, 1) := by decide +kernel
theorem dX8_wordsSayable_76 : decode cX8_wordsSayable 76 = .ok (.ireturn, 1) := by decide +kernel
theorem dX8_draw_0 : decode cX8_draw 0 = .ok (.aload_n 0, 1) := by decide +kernel
theorem dX8_draw_1 : decode cX8_draw 1 = .ok (.ldc 105, 2) := by decide +kernel
theorem dX8_draw_3 : decode cX8_draw 3 = .ok (.aload_n 0, 1) := by decide +kernel
theorem dX8_draw_4 : decode cX8_draw 4 = .ok (.getfield 53, 3) := by decide +kernel
theorem dX8_draw_7 : decode cX8_draw 7 = .ok (.imul, 1) := by decide +kernel
theorem dX8_draw_8 : decode cX8_draw 8 = .ok (.ldc 106, 2) := by decide +kernel
theorem dX8_draw_10 : decode cX8_draw 10 = .ok (.iadd, 1) := by decide +kernel
theorem dX8_draw_11 : decode cX8_draw 11 = .ok (.putfield 53, 3) := by decide +kernel
theorem dX8_draw_14 : decode cX8_draw 14 = .ok (.iload_n 1, 1) := by decide +kernel
theorem dX8_draw_15 : decode cX8_draw 15 = .ok (.iconst 1, 1) := by decide +kernel
theorem dX8_draw_16 : decode cX8_draw 16 = .ok (.if_icmp .ge 7, 3) := by decide +kernel
theorem dX8_draw_19 : decode cX8_draw 19 = .ok (.iconst 0, 1) := by decide +kernel
theorem dX8_draw_20 : decode cX8_draw 20 = .ok (.goto 12, 3) := by decide +kernel
theorem dX8_draw_23 : decode cX8_draw 23 = .ok (.aload_n 0, 1) := by decide +kernel
theorem dX8_draw_24 : decode cX8_draw 24 = .ok (.getfield 53, 3) := by decide +kernel
theorem dX8_draw_27 : decode cX8_draw 27 = .ok (.bipush 8, 2) := by decide +kernel
theorem dX8_draw_29 : decode cX8_draw 29 = .ok (.iushr, 1) := by decide +kernel
theorem dX8_draw_30 : decode cX8_draw 30 = .ok (.iload_n 1, 1) := by decide +kernel
theorem dX8_draw_31 : decode cX8_draw 31 = .ok (.irem, 1) := by decide +kernel
theorem dX8_draw_32 : decode cX8_draw 32 = .ok (.ireturn, 1) := by decide +kernel
theorem dX8_passHour_0 : decode cX8_passHour 0 = .ok (.iconst 0, 1) := by decide +kernel
theorem dX8_passHour_1 : decode cX8_passHour 1 = .ok (.istore_n 1, 1) := by decide +kernel
theorem dX8_passHour_2 : decode cX8_passHour 2 = .ok (.iconst 0, 1) := by decide +kernel
theorem dX8_passHour_3 : decode cX8_passHour 3 = .ok (.istore_n 2, 1) := by decide +kernel
theorem dX8_passHour_4 : decode cX8_passHour 4 = .ok (.iload_n 2, 1) := by decide +kernel
theorem dX8_passHour_5 : decode cX8_passHour 5 = .ok (.aload_n 0, 1) := by decide +kernel
theorem dX8_passHour_6 : decode cX8_passHour 6 = .ok (.getfield 57, 3) := by decide +kernel
theorem dX8_passHour_9 : decode cX8_passHour 9 = .ok (.if_icmp .ge 89, 3) := by decide +kernel
theorem dX8_passHour_12 : decode cX8_passHour 12 = .ok (.aload_n 0, 1) := by decide +kernel
theorem dX8_passHour_13 : decode cX8_passHour 13 = .ok (.getfield 69, 3) := by decide +kernel
theorem dX8_passHour_16 : decode cX8_passHour 16 = .ok (.ifCond .le 82, 3) := by decide +kernel
theorem dX8_passHour_19 : decode cX8_passHour 19 = .ok (.aload_n 0, 1) := by decide +kernel
theorem dX8_passHour_20 : decode cX8_passHour 20 = .ok (.getfield 66, 3) := by decide +kernel
theorem dX8_passHour_23 : decode cX8_passHour 23 = .ok (.iload_n 2, 1) := by decide +kernel
theorem dX8_passHour_24 : decode cX8_passHour 24 = .ok (.ishr, 1) := by decide +kernel
theorem dX8_passHour_25 : decode cX8_passHour 25 = .ok (.iconst 1, 1) := by decide +kernel
theorem dX8_passHour_26 : decode cX8_passHour 26 = .ok (.iand, 1) := by decide +kernel
theorem dX8_passHour_27 : decode cX8_passHour 27 = .ok (.iconst 1, 1) := by decide +kernel
theorem dX8_passHour_28 : decode cX8_passHour 28 = .ok (.if_icmp .ne 64, 3) := by decide +kernel
theorem dX8_passHour_31 : decode cX8_passHour 31 = .ok (.aload_n 0, 1) := by decide +kernel
theorem dX8_passHour_32 : decode cX8_passHour 32 = .ok (.sipush 1000, 3) := by decide +kernel
theorem dX8_passHour_35 : decode cX8_passHour 35 = .ok (.invokevirtual 107, 3) := by decide +kernel
theorem dX8_passHour_38 : decode cX8_passHour 38 = .ok (.aload_n 0, 1) := by decide +kernel
theorem dX8_passHour_39 : decode cX8_passHour 39 = .ok (.getfield 69, 3) := by decide +kernel
theorem dX8_passHour_42 : decode cX8_passHour 42 = .ok (.if_icmp .ge 50, 3) := by decide +kernel
theorem dX8_passHour_45 : decode cX8_passHour 45 = .ok (.aload_n 0, 1) := by decide +kernel
theorem dX8_passHour_46 : decode cX8_passHour 46 = .ok (.iconst 2, 1) := by decide +kernel
theorem dX8_passHour_47 : decode cX8_passHour 47 = .ok (.invokevirtual 107, 3) := by decide +kernel
theorem dX8_passHour_50 : decode cX8_passHour 50 = .ok (.ifCond .ne 14, 3) := by decide +kernel
theorem dX8_passHour_53 : decode cX8_passHour 53 = .ok (.aload_n 0, 1) := by decide +kernel
theorem dX8_passHour_54 : decode cX8_passHour 54 = .ok (.getfield 9, 3) := by decide +kernel
theorem dX8_passHour_57 : decode cX8_passHour 57 = .ok (.iload_n 2, 1) := by decide +kernel
theorem dX8_passHour_58 : decode cX8_passHour 58 = .ok (.iaload, 1) := by decide +kernel
theorem dX8_passHour_59 : decode cX8_passHour 59 = .ok (.iconst 1, 1) := by decide +kernel
