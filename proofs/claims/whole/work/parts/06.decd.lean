theorem dX10_doesHear_237 : decode cX10_doesHear 237 = .ok (.ireturn, 1) := by decide +kernel
theorem dX10_doesHear_238 : decode cX10_doesHear 238 = .ok (.iinc 9 1, 3) := by decide +kernel
theorem dX10_doesHear_241 : decode cX10_doesHear 241 = .ok (.goto (-38), 3) := by decide +kernel
theorem dX10_doesHear_244 : decode cX10_doesHear 244 = .ok (.iconst 1, 1) := by decide +kernel
theorem dX10_doesHear_245 : decode cX10_doesHear 245 = .ok (.ireturn, 1) := by decide +kernel
theorem dX10_hearsNow_0 : decode cX10_hearsNow 0 = .ok (.aload_n 0, 1) := by decide +kernel
theorem dX10_hearsNow_1 : decode cX10_hearsNow 1 = .ok (.iload_n 1, 1) := by decide +kernel
theorem dX10_hearsNow_2 : decode cX10_hearsNow 2 = .ok (.iload_n 2, 1) := by decide +kernel
theorem dX10_hearsNow_3 : decode cX10_hearsNow 3 = .ok (.iload_n 3, 1) := by decide +kernel
theorem dX10_hearsNow_4 : decode cX10_hearsNow 4 = .ok (.aload_n 0, 1) := by decide +kernel
theorem dX10_hearsNow_5 : decode cX10_hearsNow 5 = .ok (.iload_n 2, 1) := by decide +kernel
theorem dX10_hearsNow_6 : decode cX10_hearsNow 6 = .ok (.invokevirtual 109, 3) := by decide +kernel
theorem dX10_hearsNow_9 : decode cX10_hearsNow 9 = .ok (.aload_n 0, 1) := by decide +kernel
theorem dX10_hearsNow_10 : decode cX10_hearsNow 10 = .ok (.iload_n 3, 1) := by decide +kernel
theorem dX10_hearsNow_11 : decode cX10_hearsNow 11 = .ok (.invokevirtual 109, 3) := by decide +kernel
theorem dX10_hearsNow_14 : decode cX10_hearsNow 14 = .ok (.iload 4, 2) := by decide +kernel
theorem dX10_hearsNow_16 : decode cX10_hearsNow 16 = .ok (.invokevirtual 233, 3) := by decide +kernel
theorem dX10_hearsNow_19 : decode cX10_hearsNow 19 = .ok (.ireturn, 1) := by decide +kernel
theorem dX10_areThree_0 : decode cX10_areThree 0 = .ok (.aload_n 0, 1) := by decide +kernel
theorem dX10_areThree_1 : decode cX10_areThree 1 = .ok (.iload_n 1, 1) := by decide +kernel
theorem dX10_areThree_2 : decode cX10_areThree 2 = .ok (.invokevirtual 105, 3) := by decide +kernel
theorem dX10_areThree_5 : decode cX10_areThree 5 = .ok (.ifCond .eq 38, 3) := by decide +kernel
theorem dX10_areThree_8 : decode cX10_areThree 8 = .ok (.aload_n 0, 1) := by decide +kernel
theorem dX10_areThree_9 : decode cX10_areThree 9 = .ok (.iload_n 2, 1) := by decide +kernel
theorem dX10_areThree_10 : decode cX10_areThree 10 = .ok (.invokevirtual 105, 3) := by decide +kernel
theorem dX10_areThree_13 : decode cX10_areThree 13 = .ok (.ifCond .eq 30, 3) := by decide +kernel
theorem dX10_areThree_16 : decode cX10_areThree 16 = .ok (.aload_n 0, 1) := by decide +kernel
theorem dX10_areThree_17 : decode cX10_areThree 17 = .ok (.iload_n 3, 1) := by decide +kernel
theorem dX10_areThree_18 : decode cX10_areThree 18 = .ok (.invokevirtual 105, 3) := by decide +kernel
theorem dX10_areThree_21 : decode cX10_areThree 21 = .ok (.ifCond .eq 22, 3) := by decide +kernel
theorem dX10_areThree_24 : decode cX10_areThree 24 = .ok (.iload_n 1, 1) := by decide +kernel
theorem dX10_areThree_25 : decode cX10_areThree 25 = .ok (.iload_n 2, 1) := by decide +kernel
theorem dX10_areThree_26 : decode cX10_areThree 26 = .ok (.if_icmp .eq 17, 3) := by decide +kernel
theorem dX10_areThree_29 : decode cX10_areThree 29 = .ok (.iload_n 1, 1) := by decide +kernel
theorem dX10_areThree_30 : decode cX10_areThree 30 = .ok (.iload_n 3, 1) := by decide +kernel
theorem dX10_areThree_31 : decode cX10_areThree 31 = .ok (.if_icmp .eq 12, 3) := by decide +kernel
theorem dX10_areThree_34 : decode cX10_areThree 34 = .ok (.iload_n 2, 1) := by decide +kernel
theorem dX10_areThree_35 : decode cX10_areThree 35 = .ok (.iload_n 3, 1) := by decide +kernel
theorem dX10_areThree_36 : decode cX10_areThree 36 = .ok (.if_icmp .eq 7, 3) := by decide +kernel
theorem dX10_areThree_39 : decode cX10_areThree 39 = .ok (.iconst 1, 1) := by decide +kernel
theorem dX10_areThree_40 : decode cX10_areThree 40 = .ok (.goto 4, 3) := by decide +kernel
theorem dX10_areThree_43 : decode cX10_areThree 43 = .ok (.iconst 0, 1) := by decide +kernel
theorem dX10_areThree_44 : decode cX10_areThree 44 = .ok (.ireturn, 1) := by decide +kernel
theorem dX10_hears_0 : decode cX10_hears 0 = .ok (.aload_n 0, 1) := by decide +kernel
theorem dX10_hears_1 : decode cX10_hears 1 = .ok (.iconst 0, 1) := by decide +kernel
theorem dX10_hears_2 : decode cX10_hears 2 = .ok (.putfield 90, 3) := by decide +kernel
theorem dX10_hears_5 : decode cX10_hears 5 = .ok (.aload_n 0, 1) := by decide +kernel
theorem dX10_hears_6 : decode cX10_hears 6 = .ok (.iload_n 1, 1) := by decide +kernel
theorem dX10_hears_7 : decode cX10_hears 7 = .ok (.iload_n 2, 1) := by decide +kernel
theorem dX10_hears_8 : decode cX10_hears 8 = .ok (.iload_n 3, 1) := by decide +kernel
theorem dX10_hears_9 : decode cX10_hears 9 = .ok (.invokevirtual 237, 3) := by decide +kernel
theorem dX10_hears_12 : decode cX10_hears 12 = .ok (.ifCond .eq 21, 3) := by decide +kernel
theorem dX10_hears_15 : decode cX10_hears 15 = .ok (.aload_n 0, 1) := by decide +kernel
theorem dX10_hears_16 : decode cX10_hears 16 = .ok (.iload_n 2, 1) := by decide +kernel
theorem dX10_hears_17 : decode cX10_hears 17 = .ok (.invokevirtual 109, 3) := by decide +kernel
theorem dX10_hears_20 : decode cX10_hears 20 = .ok (.iconst (-1), 1) := by decide +kernel
theorem dX10_hears_21 : decode cX10_hears 21 = .ok (.if_icmp .eq 12, 3) := by decide +kernel
theorem dX10_hears_24 : decode cX10_hears 24 = .ok (.aload_n 0, 1) := by decide +kernel
theorem dX10_hears_25 : decode cX10_hears 25 = .ok (.iload_n 3, 1) := by decide +kernel
theorem dX10_hears_26 : decode cX10_hears 26 = .ok (.invokevirtual 109, 3) := by decide +kernel
theorem dX10_hears_29 : decode cX10_hears 29 = .ok (.iconst (-1), 1) := by decide +kernel
theorem dX10_hears_30 : decode cX10_hears 30 = .ok (.if_icmp .ne 5, 3) := by decide +kernel
theorem dX10_hears_33 : decode cX10_hears 33 = .ok (.iconst (-1), 1) := by decide +kernel
theorem dX10_hears_34 : decode cX10_hears 34 = .ok (.ireturn, 1) := by decide +kernel
theorem dX10_hears_35 : decode cX10_hears 35 = .ok (.aload_n 0, 1) := by decide +kernel
theorem dX10_hears_36 : decode cX10_hears 36 = .ok (.iload_n 1, 1) := by decide +kernel
theorem dX10_hears_37 : decode cX10_hears 37 = .ok (.iload_n 2, 1) := by decide +kernel
theorem dX10_hears_38 : decode cX10_hears 38 = .ok (.iload_n 3, 1) := by decide +kernel
theorem dX10_hears_39 : decode cX10_hears 39 = .ok (.aload_n 0, 1) := by decide +kernel
theorem dX10_hears_40 : decode cX10_hears 40 = .ok (.getfield 116, 3) := by decide +kernel
theorem dX10_hears_43 : decode cX10_hears 43 = .ok (.invokevirtual 240, 3) := by decide +kernel
theorem dX10_hears_46 : decode cX10_hears 46 = .ok (.ifCond .eq 7, 3) := by decide +kernel
theorem dX10_hears_49 : decode cX10_hears 49 = .ok (.iconst 1, 1) := by decide +kernel
theorem dX10_hears_50 : decode cX10_hears 50 = .ok (.goto 4, 3) := by decide +kernel
theorem dX10_hears_53 : decode cX10_hears 53 = .ok (.iconst 0, 1) := by decide +kernel
theorem dX10_hears_54 : decode cX10_hears 54 = .ok (.ireturn, 1) := by decide +kernel
theorem dX10_couplesOf_0 : decode cX10_couplesOf 0 = .ok (.iconst 0, 1) := by decide +kernel
theorem dX10_couplesOf_1 : decode cX10_couplesOf 1 = .ok (.istore_n 3, 1) := by decide +kernel
theorem dX10_couplesOf_2 : decode cX10_couplesOf 2 = .ok (.iconst 0, 1) := by decide +kernel
theorem dX10_couplesOf_3 : decode cX10_couplesOf 3 = .ok (.istore 4, 2) := by decide +kernel
theorem dX10_couplesOf_5 : decode cX10_couplesOf 5 = .ok (.iload 4, 2) := by decide +kernel
theorem dX10_couplesOf_7 : decode cX10_couplesOf 7 = .ok (.bipush 61, 2) := by decide +kernel
theorem dX10_couplesOf_9 : decode cX10_couplesOf 9 = .ok (.if_icmp .ge 17, 3) := by decide +kernel
theorem dX10_couplesOf_12 : decode cX10_couplesOf 12 = .ok (.aload_n 0, 1) := by decide +kernel
theorem dX10_couplesOf_13 : decode cX10_couplesOf 13 = .ok (.getfield 56, 3) := by decide +kernel
theorem dX10_couplesOf_16 : decode cX10_couplesOf 16 = .ok (.iload 4, 2) := by decide +kernel
theorem dX10_couplesOf_18 : decode cX10_couplesOf 18 = .ok (.iconst 0, 1) := by decide +kernel
theorem dX10_couplesOf_19 : decode cX10_couplesOf 19 = .ok (.bastore, 1) := by decide +kernel
theorem dX10_couplesOf_20 : decode cX10_couplesOf 20 = .ok (.iinc 4 1, 3) := by decide +kernel
theorem dX10_couplesOf_23 : decode cX10_couplesOf 23 = .ok (.goto (-18), 3) := by decide +kernel
theorem dX10_couplesOf_26 : decode cX10_couplesOf 26 = .ok (.iconst 0, 1) := by decide +kernel
theorem dX10_couplesOf_27 : decode cX10_couplesOf 27 = .ok (.istore 4, 2) := by decide +kernel
theorem dX10_couplesOf_29 : decode cX10_couplesOf 29 = .ok (.iload 4, 2) := by decide +kernel
theorem dX10_couplesOf_31 : decode cX10_couplesOf 31 = .ok (.aload_n 0, 1) := by decide +kernel
theorem dX10_couplesOf_32 : decode cX10_couplesOf 32 = .ok (.getfield 98, 3) := by decide +kernel
theorem dX10_couplesOf_35 : decode cX10_couplesOf 35 = .ok (.if_icmp .ge 103, 3) := by decide +kernel
theorem dX10_couplesOf_38 : decode cX10_couplesOf 38 = .ok (.iload 4, 2) := by decide +kernel
theorem dX10_couplesOf_40 : decode cX10_couplesOf 40 = .ok (.iconst 1, 1) := by decide +kernel
theorem dX10_couplesOf_41 : decode cX10_couplesOf 41 = .ok (.iadd, 1) := by decide +kernel
theorem dX10_couplesOf_42 : decode cX10_couplesOf 42 = .ok (.istore 5, 2) := by decide +kernel
theorem dX10_couplesOf_44 : decode cX10_couplesOf 44 = .ok (.iload 5, 2) := by decide +kernel
theorem dX10_couplesOf_46 : decode cX10_couplesOf 46 = .ok (.aload_n 0, 1) := by decide +kernel
theorem dX10_couplesOf_47 : decode cX10_couplesOf 47 = .ok (.getfield 98, 3) := by decide +kernel
theorem dX10_couplesOf_50 : decode cX10_couplesOf 50 = .ok (.if_icmp .ge 82, 3) := by decide +kernel
theorem dX10_couplesOf_53 : decode cX10_couplesOf 53 = .ok (.iload 4, 2) := by decide +kernel
theorem dX10_couplesOf_55 : decode cX10_couplesOf 55 = .ok (.iload_n 1, 1) := by decide +kernel
theorem dX10_couplesOf_56 : decode cX10_couplesOf 56 = .ok (.if_icmp .eq 70, 3) := by decide +kernel
theorem dX10_couplesOf_59 : decode cX10_couplesOf 59 = .ok (.iload 5, 2) := by decide +kernel
theorem dX10_couplesOf_61 : decode cX10_couplesOf 61 = .ok (.iload_n 1, 1) := by decide +kernel
theorem dX10_couplesOf_62 : decode cX10_couplesOf 62 = .ok (.if_icmp .eq 64, 3) := by decide +kernel
theorem dX10_couplesOf_65 : decode cX10_couplesOf 65 = .ok (.iload_n 2, 1) := by decide +kernel
theorem dX10_couplesOf_66 : decode cX10_couplesOf 66 = .ok (.iload 4, 2) := by decide +kernel
theorem dX10_couplesOf_68 : decode cX10_couplesOf 68 = .ok (.ishr, 1) := by decide +kernel
theorem dX10_couplesOf_69 : decode cX10_couplesOf 69 = .ok (.iconst 1, 1) := by decide +kernel
theorem dX10_couplesOf_70 : decode cX10_couplesOf 70 = .ok (.iand, 1) := by decide +kernel
theorem dX10_couplesOf_71 : decode cX10_couplesOf 71 = .ok (.ifCond .eq 55, 3) := by decide +kernel
theorem dX10_couplesOf_74 : decode cX10_couplesOf 74 = .ok (.iload_n 2, 1) := by decide +kernel
theorem dX10_couplesOf_75 : decode cX10_couplesOf 75 = .ok (.iload 5, 2) := by decide +kernel
theorem dX10_couplesOf_77 : decode cX10_couplesOf 77 = .ok (.ishr, 1) := by decide +kernel
theorem dX10_couplesOf_78 : decode cX10_couplesOf 78 = .ok (.iconst 1, 1) := by decide +kernel
theorem dX10_couplesOf_79 : decode cX10_couplesOf 79 = .ok (.iand, 1) := by decide +kernel
theorem dX10_couplesOf_80 : decode cX10_couplesOf 80 = .ok (.ifCond .eq 46, 3) := by decide +kernel
theorem dX10_couplesOf_83 : decode cX10_couplesOf 83 = .ok (.aload_n 0, 1) := by decide +kernel
theorem dX10_couplesOf_84 : decode cX10_couplesOf 84 = .ok (.iload_n 1, 1) := by decide +kernel
theorem dX10_couplesOf_85 : decode cX10_couplesOf 85 = .ok (.iload 4, 2) := by decide +kernel
theorem dX10_couplesOf_87 : decode cX10_couplesOf 87 = .ok (.iload 5, 2) := by decide +kernel
theorem dX10_couplesOf_89 : decode cX10_couplesOf 89 = .ok (.iload_n 2, 1) := by decide +kernel
theorem dX10_couplesOf_90 : decode cX10_couplesOf 90 = .ok (.invokevirtual 240, 3) := by decide +kernel
theorem dX10_couplesOf_93 : decode cX10_couplesOf 93 = .ok (.ifCond .ne 6, 3) := by decide +kernel
theorem dX10_couplesOf_96 : decode cX10_couplesOf 96 = .ok (.goto 30, 3) := by decide +kernel
theorem dX10_couplesOf_99 : decode cX10_couplesOf 99 = .ok (.iload_n 3, 1) := by decide +kernel
theorem dX10_couplesOf_100 : decode cX10_couplesOf 100 = .ok (.iconst 1, 1) := by decide +kernel
theorem dX10_couplesOf_101 : decode cX10_couplesOf 101 = .ok (.iadd, 1) := by decide +kernel
theorem dX10_couplesOf_102 : decode cX10_couplesOf 102 = .ok (.istore_n 3, 1) := by decide +kernel
theorem dX10_couplesOf_103 : decode cX10_couplesOf 103 = .ok (.aload_n 0, 1) := by decide +kernel
theorem dX10_couplesOf_104 : decode cX10_couplesOf 104 = .ok (.getfield 56, 3) := by decide +kernel
theorem dX10_couplesOf_107 : decode cX10_couplesOf 107 = .ok (.aload_n 0, 1) := by decide +kernel
theorem dX10_couplesOf_108 : decode cX10_couplesOf 108 = .ok (.aload_n 0, 1) := by decide +kernel
theorem dX10_couplesOf_109 : decode cX10_couplesOf 109 = .ok (.iload 4, 2) := by decide +kernel
theorem dX10_couplesOf_111 : decode cX10_couplesOf 111 = .ok (.invokevirtual 109, 3) := by decide +kernel
theorem dX10_couplesOf_114 : decode cX10_couplesOf 114 = .ok (.aload_n 0, 1) := by decide +kernel
theorem dX10_couplesOf_115 : decode cX10_couplesOf 115 = .ok (.iload 5, 2) := by decide +kernel
theorem dX10_couplesOf_117 : decode cX10_couplesOf 117 = .ok (.invokevirtual 109, 3) := by decide +kernel
theorem dX10_couplesOf_120 : decode cX10_couplesOf 120 = .ok (.isub, 1) := by decide +kernel
theorem dX10_couplesOf_121 : decode cX10_couplesOf 121 = .ok (.invokevirtual 223, 3) := by decide +kernel
theorem dX10_couplesOf_124 : decode cX10_couplesOf 124 = .ok (.iconst 1, 1) := by decide +kernel
theorem dX10_couplesOf_125 : decode cX10_couplesOf 125 = .ok (.bastore, 1) := by decide +kernel
theorem dX10_couplesOf_126 : decode cX10_couplesOf 126 = .ok (.iinc 5 1, 3) := by decide +kernel
theorem dX10_couplesOf_129 : decode cX10_couplesOf 129 = .ok (.goto (-85), 3) := by decide +kernel
theorem dX10_couplesOf_132 : decode cX10_couplesOf 132 = .ok (.iinc 4 1, 3) := by decide +kernel
theorem dX10_couplesOf_135 : decode cX10_couplesOf 135 = .ok (.goto (-106), 3) := by decide +kernel
theorem dX10_couplesOf_138 : decode cX10_couplesOf 138 = .ok (.iload_n 3, 1) := by decide +kernel
theorem dX10_couplesOf_139 : decode cX10_couplesOf 139 = .ok (.ireturn, 1) := by decide +kernel
theorem dX10_wordsOf_0 : decode cX10_wordsOf 0 = .ok (.aload_n 0, 1) := by decide +kernel
theorem dX10_wordsOf_1 : decode cX10_wordsOf 1 = .ok (.iload_n 1, 1) := by decide +kernel
theorem dX10_wordsOf_2 : decode cX10_wordsOf 2 = .ok (.aload_n 0, 1) := by decide +kernel
theorem dX10_wordsOf_3 : decode cX10_wordsOf 3 = .ok (.getfield 116, 3) := by decide +kernel
theorem dX10_wordsOf_6 : decode cX10_wordsOf 6 = .ok (.invokevirtual 244, 3) := by decide +kernel
theorem dX10_wordsOf_9 : decode cX10_wordsOf 9 = .ok (.pop, 1) := by decide +kernel
theorem dX10_wordsOf_10 : decode cX10_wordsOf 10 = .ok (.iconst 0, 1) := by decide +kernel
theorem dX10_wordsOf_11 : decode cX10_wordsOf 11 = .ok (.istore_n 2, 1) := by decide +kernel
theorem dX10_wordsOf_12 : decode cX10_wordsOf 12 = .ok (.iconst 0, 1) := by decide +kernel
theorem dX10_wordsOf_13 : decode cX10_wordsOf 13 = .ok (.istore_n 3, 1) := by decide +kernel
theorem dX10_wordsOf_14 : decode cX10_wordsOf 14 = .ok (.iload_n 3, 1) := by decide +kernel
theorem dX10_wordsOf_15 : decode cX10_wordsOf 15 = .ok (.bipush 61, 2) := by decide +kernel
theorem dX10_wordsOf_17 : decode cX10_wordsOf 17 = .ok (.if_icmp .ge 22, 3) := by decide +kernel
theorem dX10_wordsOf_20 : decode cX10_wordsOf 20 = .ok (.aload_n 0, 1) := by decide +kernel
theorem dX10_wordsOf_21 : decode cX10_wordsOf 21 = .ok (.getfield 56, 3) := by decide +kernel
theorem dX10_wordsOf_24 : decode cX10_wordsOf 24 = .ok (.iload_n 3, 1) := by decide +kernel
theorem dX10_wordsOf_25 : decode cX10_wordsOf 25 = .ok (.baload, 1) := by decide +kernel
theorem dX10_wordsOf_26 : decode cX10_wordsOf 26 = .ok (.ifCond .eq 7, 3) := by decide +kernel
theorem dX10_wordsOf_29 : decode cX10_wordsOf 29 = .ok (.iload_n 2, 1) := by decide +kernel
theorem dX10_wordsOf_30 : decode cX10_wordsOf 30 = .ok (.iconst 1, 1) := by decide +kernel
theorem dX10_wordsOf_31 : decode cX10_wordsOf 31 = .ok (.iadd, 1) := by decide +kernel
theorem dX10_wordsOf_32 : decode cX10_wordsOf 32 = .ok (.istore_n 2, 1) := by decide +kernel
theorem dX10_wordsOf_33 : decode cX10_wordsOf 33 = .ok (.iinc 3 1, 3) := by decide +kernel
theorem dX10_wordsOf_36 : decode cX10_wordsOf 36 = .ok (.goto (-22), 3) := by decide +kernel
theorem dX10_wordsOf_39 : decode cX10_wordsOf 39 = .ok (.iload_n 2, 1) := by decide +kernel
theorem dX10_wordsOf_40 : decode cX10_wordsOf 40 = .ok (.ireturn, 1) := by decide +kernel
theorem dX10_deaf_0 : decode cX10_deaf 0 = .ok (.aload_n 0, 1) := by decide +kernel
theorem dX10_deaf_1 : decode cX10_deaf 1 = .ok (.iconst 0, 1) := by decide +kernel
theorem dX10_deaf_2 : decode cX10_deaf 2 = .ok (.putfield 90, 3) := by decide +kernel
theorem dX10_deaf_5 : decode cX10_deaf 5 = .ok (.aload_n 0, 1) := by decide +kernel
theorem dX10_deaf_6 : decode cX10_deaf 6 = .ok (.iload_n 1, 1) := by decide +kernel
theorem dX10_deaf_7 : decode cX10_deaf 7 = .ok (.invokevirtual 105, 3) := by decide +kernel
theorem dX10_deaf_10 : decode cX10_deaf 10 = .ok (.ifCond .eq 16, 3) := by decide +kernel
theorem dX10_deaf_13 : decode cX10_deaf 13 = .ok (.aload_n 0, 1) := by decide +kernel
theorem dX10_deaf_14 : decode cX10_deaf 14 = .ok (.iload_n 2, 1) := by decide +kernel
theorem dX10_deaf_15 : decode cX10_deaf 15 = .ok (.invokevirtual 105, 3) := by decide +kernel
theorem dX10_deaf_18 : decode cX10_deaf 18 = .ok (.ifCond .eq 8, 3) := by decide +kernel
theorem dX10_deaf_21 : decode cX10_deaf 21 = .ok (.iload_n 1, 1) := by decide +kernel
theorem dX10_deaf_22 : decode cX10_deaf 22 = .ok (.iload_n 2, 1) := by decide +kernel
theorem dX10_deaf_23 : decode cX10_deaf 23 = .ok (.if_icmp .ne 7, 3) := by decide +kernel
theorem dX10_deaf_26 : decode cX10_deaf 26 = .ok (.sipush (-1000), 3) := by decide +kernel
theorem dX10_deaf_29 : decode cX10_deaf 29 = .ok (.ireturn, 1) := by decide +kernel
theorem dX10_deaf_30 : decode cX10_deaf 30 = .ok (.aload_n 0, 1) := by decide +kernel
theorem dX10_deaf_31 : decode cX10_deaf 31 = .ok (.iload_n 1, 1) := by decide +kernel
theorem dX10_deaf_32 : decode cX10_deaf 32 = .ok (.aload_n 0, 1) := by decide +kernel
theorem dX10_deaf_33 : decode cX10_deaf 33 = .ok (.getfield 116, 3) := by decide +kernel
theorem dX10_deaf_36 : decode cX10_deaf 36 = .ok (.invokevirtual 244, 3) := by decide +kernel
theorem dX10_deaf_39 : decode cX10_deaf 39 = .ok (.aload_n 0, 1) := by decide +kernel
theorem dX10_deaf_40 : decode cX10_deaf 40 = .ok (.iload_n 1, 1) := by decide +kernel
theorem dX10_deaf_41 : decode cX10_deaf 41 = .ok (.aload_n 0, 1) := by decide +kernel
theorem dX10_deaf_42 : decode cX10_deaf 42 = .ok (.getfield 116, 3) := by decide +kernel
theorem dX10_deaf_45 : decode cX10_deaf 45 = .ok (.iconst 1, 1) := by decide +kernel
theorem dX10_deaf_46 : decode cX10_deaf 46 = .ok (.iload_n 2, 1) := by decide +kernel
theorem dX10_deaf_47 : decode cX10_deaf 47 = .ok (.ishl, 1) := by decide +kernel
theorem dX10_deaf_48 : decode cX10_deaf 48 = .ok (.iconst (-1), 1) := by decide +kernel
theorem dX10_deaf_49 : decode cX10_deaf 49 = .ok (.ixor, 1) := by decide +kernel
theorem dX10_deaf_50 : decode cX10_deaf 50 = .ok (.iand, 1) := by decide +kernel
theorem dX10_deaf_51 : decode cX10_deaf 51 = .ok (.invokevirtual 244, 3) := by decide +kernel
theorem dX10_deaf_54 : decode cX10_deaf 54 = .ok (.isub, 1) := by decide +kernel
theorem dX10_deaf_55 : decode cX10_deaf 55 = .ok (.ireturn, 1) := by decide +kernel
theorem dX10_of_0 : decode cX10_of 0 = .ok (.aload_n 0, 1) := by decide +kernel
theorem dX10_of_1 : decode cX10_of 1 = .ok (.iconst 0, 1) := by decide +kernel
theorem dX10_of_2 : decode cX10_of 2 = .ok (.putfield 90, 3) := by decide +kernel
theorem dX10_of_5 : decode cX10_of 5 = .ok (.aload_n 0, 1) := by decide +kernel
theorem dX10_of_6 : decode cX10_of 6 = .ok (.iload_n 1, 1) := by decide +kernel
theorem dX10_of_7 : decode cX10_of 7 = .ok (.invokevirtual 105, 3) := by decide +kernel
theorem dX10_of_10 : decode cX10_of 10 = .ok (.ifCond .ne 6, 3) := by decide +kernel
theorem dX10_of_13 : decode cX10_of 13 = .ok (.bipush (-2), 2) := by decide +kernel
theorem dX10_of_15 : decode cX10_of 15 = .ok (.ireturn, 1) := by decide +kernel
theorem dX10_of_16 : decode cX10_of 16 = .ok (.iload_n 2, 1) := by decide +kernel
theorem dX10_of_17 : decode cX10_of 17 = .ok (.ifCond .ne 9, 3) := by decide +kernel
theorem dX10_of_20 : decode cX10_of 20 = .ok (.aload_n 0, 1) := by decide +kernel
theorem dX10_of_21 : decode cX10_of 21 = .ok (.iload_n 1, 1) := by decide +kernel
theorem dX10_of_22 : decode cX10_of 22 = .ok (.invokevirtual 109, 3) := by decide +kernel
theorem dX10_of_25 : decode cX10_of 25 = .ok (.ireturn, 1) := by decide +kernel
theorem dX10_of_26 : decode cX10_of 26 = .ok (.iload_n 2, 1) := by decide +kernel
theorem dX10_of_27 : decode cX10_of 27 = .ok (.iconst 1, 1) := by decide +kernel
theorem dX10_of_28 : decode cX10_of 28 = .ok (.if_icmp .ne 12, 3) := by decide +kernel
theorem dX10_of_31 : decode cX10_of 31 = .ok (.aload_n 0, 1) := by decide +kernel
theorem dX10_of_32 : decode cX10_of 32 = .ok (.getfield 116, 3) := by decide +kernel
theorem dX10_of_35 : decode cX10_of 35 = .ok (.iload_n 1, 1) := by decide +kernel
theorem dX10_of_36 : decode cX10_of 36 = .ok (.ishr, 1) := by decide +kernel
theorem dX10_of_37 : decode cX10_of 37 = .ok (.iconst 1, 1) := by decide +kernel
theorem dX10_of_38 : decode cX10_of 38 = .ok (.iand, 1) := by decide +kernel
theorem dX10_of_39 : decode cX10_of 39 = .ok (.ireturn, 1) := by decide +kernel
theorem dX10_of_40 : decode cX10_of 40 = .ok (.iload_n 2, 1) := by decide +kernel
theorem dX10_of_41 : decode cX10_of 41 = .ok (.iconst 2, 1) := by decide +kernel
theorem dX10_of_42 : decode cX10_of 42 = .ok (.if_icmp .ne 12, 3) := by decide +kernel
theorem dX10_of_45 : decode cX10_of 45 = .ok (.aload_n 0, 1) := by decide +kernel
theorem dX10_of_46 : decode cX10_of 46 = .ok (.getfield 16, 3) := by decide +kernel
theorem dX10_of_49 : decode cX10_of 49 = .ok (.iload_n 1, 1) := by decide +kernel
theorem dX10_of_50 : decode cX10_of 50 = .ok (.iaload, 1) := by decide +kernel
theorem dX10_of_51 : decode cX10_of 51 = .ok (.iconst 5, 1) := by decide +kernel
theorem dX10_of_52 : decode cX10_of 52 = .ok (.iadd, 1) := by decide +kernel
theorem dX10_of_53 : decode cX10_of 53 = .ok (.ireturn, 1) := by decide +kernel
theorem dX10_of_54 : decode cX10_of 54 = .ok (.iload_n 2, 1) := by decide +kernel
theorem dX10_of_55 : decode cX10_of 55 = .ok (.iconst 3, 1) := by decide +kernel
theorem dX10_of_56 : decode cX10_of 56 = .ok (.if_icmp .ne 15, 3) := by decide +kernel
theorem dX10_of_59 : decode cX10_of 59 = .ok (.aload_n 0, 1) := by decide +kernel
theorem dX10_of_60 : decode cX10_of 60 = .ok (.iload_n 1, 1) := by decide +kernel
theorem dX10_of_61 : decode cX10_of 61 = .ok (.aload_n 0, 1) := by decide +kernel
theorem dX10_of_62 : decode cX10_of 62 = .ok (.getfield 116, 3) := by decide +kernel
theorem dX10_of_65 : decode cX10_of 65 = .ok (.invokevirtual 244, 3) := by decide +kernel
theorem dX10_of_68 : decode cX10_of 68 = .ok (.goto 18, 3) := by decide +kernel
theorem dX10_of_71 : decode cX10_of 71 = .ok (.iload_n 2, 1) := by decide +kernel
theorem dX10_of_72 : decode cX10_of 72 = .ok (.iconst 4, 1) := by decide +kernel
theorem dX10_of_73 : decode cX10_of 73 = .ok (.if_icmp .ne 11, 3) := by decide +kernel
theorem dX10_of_76 : decode cX10_of 76 = .ok (.aload_n 0, 1) := by decide +kernel
theorem dX10_of_77 : decode cX10_of 77 = .ok (.iload_n 1, 1) := by decide +kernel
theorem dX10_of_78 : decode cX10_of 78 = .ok (.invokevirtual 247, 3) := by decide +kernel
theorem dX10_of_81 : decode cX10_of 81 = .ok (.goto 5, 3) := by decide +kernel
theorem dX10_of_84 : decode cX10_of 84 = .ok (.bipush (-2), 2) := by decide +kernel
theorem dX10_of_86 : decode cX10_of 86 = .ok (.ireturn, 1) := by decide +kernel
theorem dX10_notes_0 : decode cX10_notes 0 = .ok (.aload_n 0, 1) := by decide +kernel
theorem dX10_notes_1 : decode cX10_notes 1 = .ok (.getfield 7, 3) := by decide +kernel
theorem dX10_notes_4 : decode cX10_notes 4 = .ok (.bipush 10, 2) := by decide +kernel
theorem dX10_notes_6 : decode cX10_notes 6 = .ok (.iaload, 1) := by decide +kernel
theorem dX10_notes_7 : decode cX10_notes 7 = .ok (.istore 4, 2) := by decide +kernel
theorem dX10_notes_9 : decode cX10_notes 9 = .ok (.iload 4, 2) := by decide +kernel
theorem dX10_notes_11 : decode cX10_notes 11 = .ok (.bipush 100, 2) := by decide +kernel
theorem dX10_notes_13 : decode cX10_notes 13 = .ok (.if_icmp .ne 4, 3) := by decide +kernel
theorem dX10_notes_16 : decode cX10_notes 16 = .ok (.return_, 1) := by decide +kernel
theorem dX10_notes_17 : decode cX10_notes 17 = .ok (.aload_n 0, 1) := by decide +kernel
theorem dX10_notes_18 : decode cX10_notes 18 = .ok (.getfield 19, 3) := by decide +kernel
theorem dX10_notes_21 : decode cX10_notes 21 = .ok (.iconst 5, 1) := by decide +kernel
theorem dX10_notes_22 : decode cX10_notes 22 = .ok (.iload 4, 2) := by decide +kernel
theorem dX10_notes_24 : decode cX10_notes 24 = .ok (.imul, 1) := by decide +kernel
theorem dX10_notes_25 : decode cX10_notes 25 = .ok (.iload_n 1, 1) := by decide +kernel
theorem dX10_notes_26 : decode cX10_notes 26 = .ok (.iload_n 2, 1) := by decide +kernel
theorem dX10_notes_27 : decode cX10_notes 27 = .ok (.if_icmp .ge 7, 3) := by decide +kernel
theorem dX10_notes_30 : decode cX10_notes 30 = .ok (.iload_n 1, 1) := by decide +kernel
theorem dX10_notes_31 : decode cX10_notes 31 = .ok (.goto 4, 3) := by decide +kernel
theorem dX10_notes_34 : decode cX10_notes 34 = .ok (.iload_n 2, 1) := by decide +kernel
theorem dX10_notes_35 : decode cX10_notes 35 = .ok (.iastore, 1) := by decide +kernel
theorem dX10_notes_36 : decode cX10_notes 36 = .ok (.aload_n 0, 1) := by decide +kernel
theorem dX10_notes_37 : decode cX10_notes 37 = .ok (.getfield 19, 3) := by decide +kernel
theorem dX10_notes_40 : decode cX10_notes 40 = .ok (.iconst 5, 1) := by decide +kernel
theorem dX10_notes_41 : decode cX10_notes 41 = .ok (.iload 4, 2) := by decide +kernel
theorem dX10_notes_43 : decode cX10_notes 43 = .ok (.imul, 1) := by decide +kernel
theorem dX10_notes_44 : decode cX10_notes 44 = .ok (.iconst 1, 1) := by decide +kernel
theorem dX10_notes_45 : decode cX10_notes 45 = .ok (.iadd, 1) := by decide +kernel
theorem dX10_notes_46 : decode cX10_notes 46 = .ok (.iload_n 1, 1) := by decide +kernel
theorem dX10_notes_47 : decode cX10_notes 47 = .ok (.iload_n 2, 1) := by decide +kernel
theorem dX10_notes_48 : decode cX10_notes 48 = .ok (.if_icmp .ge 7, 3) := by decide +kernel
theorem dX10_notes_51 : decode cX10_notes 51 = .ok (.iload_n 2, 1) := by decide +kernel
theorem dX10_notes_52 : decode cX10_notes 52 = .ok (.goto 4, 3) := by decide +kernel
theorem dX10_notes_55 : decode cX10_notes 55 = .ok (.iload_n 1, 1) := by decide +kernel
theorem dX10_notes_56 : decode cX10_notes 56 = .ok (.iastore, 1) := by decide +kernel
theorem dX10_notes_57 : decode cX10_notes 57 = .ok (.aload_n 0, 1) := by decide +kernel
theorem dX10_notes_58 : decode cX10_notes 58 = .ok (.getfield 19, 3) := by decide +kernel
theorem dX10_notes_61 : decode cX10_notes 61 = .ok (.iconst 5, 1) := by decide +kernel
theorem dX10_notes_62 : decode cX10_notes 62 = .ok (.iload 4, 2) := by decide +kernel
theorem dX10_notes_64 : decode cX10_notes 64 = .ok (.imul, 1) := by decide +kernel
theorem dX10_notes_65 : decode cX10_notes 65 = .ok (.iconst 2, 1) := by decide +kernel
theorem dX10_notes_66 : decode cX10_notes 66 = .ok (.iadd, 1) := by decide +kernel
theorem dX10_notes_67 : decode cX10_notes 67 = .ok (.aload_n 0, 1) := by decide +kernel
theorem dX10_notes_68 : decode cX10_notes 68 = .ok (.aload_n 0, 1) := by decide +kernel
theorem dX10_notes_69 : decode cX10_notes 69 = .ok (.iload_n 1, 1) := by decide +kernel
theorem dX10_notes_70 : decode cX10_notes 70 = .ok (.invokevirtual 109, 3) := by decide +kernel
theorem dX10_notes_73 : decode cX10_notes 73 = .ok (.aload_n 0, 1) := by decide +kernel
theorem dX10_notes_74 : decode cX10_notes 74 = .ok (.iload_n 2, 1) := by decide +kernel
theorem dX10_notes_75 : decode cX10_notes 75 = .ok (.invokevirtual 109, 3) := by decide +kernel
theorem dX10_notes_78 : decode cX10_notes 78 = .ok (.isub, 1) := by decide +kernel
theorem dX10_notes_79 : decode cX10_notes 79 = .ok (.invokevirtual 223, 3) := by decide +kernel
theorem dX10_notes_82 : decode cX10_notes 82 = .ok (.iastore, 1) := by decide +kernel
theorem dX10_notes_83 : decode cX10_notes 83 = .ok (.aload_n 0, 1) := by decide +kernel
theorem dX10_notes_84 : decode cX10_notes 84 = .ok (.getfield 19, 3) := by decide +kernel
theorem dX10_notes_87 : decode cX10_notes 87 = .ok (.iconst 5, 1) := by decide +kernel
theorem dX10_notes_88 : decode cX10_notes 88 = .ok (.iload 4, 2) := by decide +kernel
theorem dX10_notes_90 : decode cX10_notes 90 = .ok (.imul, 1) := by decide +kernel
theorem dX10_notes_91 : decode cX10_notes 91 = .ok (.iconst 3, 1) := by decide +kernel
theorem dX10_notes_92 : decode cX10_notes 92 = .ok (.iadd, 1) := by decide +kernel
theorem dX10_notes_93 : decode cX10_notes 93 = .ok (.aload_n 0, 1) := by decide +kernel
theorem dX10_notes_94 : decode cX10_notes 94 = .ok (.getfield 7, 3) := by decide +kernel
theorem dX10_notes_97 : decode cX10_notes 97 = .ok (.bipush 11, 2) := by decide +kernel
theorem dX10_notes_99 : decode cX10_notes 99 = .ok (.iaload, 1) := by decide +kernel
theorem dX10_notes_100 : decode cX10_notes 100 = .ok (.iastore, 1) := by decide +kernel
theorem dX10_notes_101 : decode cX10_notes 101 = .ok (.aload_n 0, 1) := by decide +kernel
theorem dX10_notes_102 : decode cX10_notes 102 = .ok (.getfield 19, 3) := by decide +kernel
theorem dX10_notes_105 : decode cX10_notes 105 = .ok (.iconst 5, 1) := by decide +kernel
theorem dX10_notes_106 : decode cX10_notes 106 = .ok (.iload 4, 2) := by decide +kernel
theorem dX10_notes_108 : decode cX10_notes 108 = .ok (.imul, 1) := by decide +kernel
theorem dX10_notes_109 : decode cX10_notes 109 = .ok (.iconst 4, 1) := by decide +kernel
theorem dX10_notes_110 : decode cX10_notes 110 = .ok (.iadd, 1) := by decide +kernel
theorem dX10_notes_111 : decode cX10_notes 111 = .ok (.iload_n 3, 1) := by decide +kernel
theorem dX10_notes_112 : decode cX10_notes 112 = .ok (.iastore, 1) := by decide +kernel
theorem dX10_notes_113 : decode cX10_notes 113 = .ok (.aload_n 0, 1) := by decide +kernel
theorem dX10_notes_114 : decode cX10_notes 114 = .ok (.getfield 7, 3) := by decide +kernel
theorem dX10_notes_117 : decode cX10_notes 117 = .ok (.bipush 10, 2) := by decide +kernel
theorem dX10_notes_119 : decode cX10_notes 119 = .ok (.iload 4, 2) := by decide +kernel
theorem dX10_notes_121 : decode cX10_notes 121 = .ok (.iconst 1, 1) := by decide +kernel
theorem dX10_notes_122 : decode cX10_notes 122 = .ok (.iadd, 1) := by decide +kernel
theorem dX10_notes_123 : decode cX10_notes 123 = .ok (.iastore, 1) := by decide +kernel
theorem dX10_notes_124 : decode cX10_notes 124 = .ok (.return_, 1) := by decide +kernel
theorem dX10_speak_0 : decode cX10_speak 0 = .ok (.aload_n 0, 1) := by decide +kernel
theorem dX10_speak_1 : decode cX10_speak 1 = .ok (.iconst 0, 1) := by decide +kernel
theorem dX10_speak_2 : decode cX10_speak 2 = .ok (.putfield 90, 3) := by decide +kernel
theorem dX10_speak_5 : decode cX10_speak 5 = .ok (.aload_n 0, 1) := by decide +kernel
theorem dX10_speak_6 : decode cX10_speak 6 = .ok (.iload_n 1, 1) := by decide +kernel
theorem dX10_speak_7 : decode cX10_speak 7 = .ok (.invokevirtual 105, 3) := by decide +kernel
theorem dX10_speak_10 : decode cX10_speak 10 = .ok (.ifCond .eq 34, 3) := by decide +kernel
theorem dX10_speak_13 : decode cX10_speak 13 = .ok (.aload_n 0, 1) := by decide +kernel
theorem dX10_speak_14 : decode cX10_speak 14 = .ok (.iload_n 2, 1) := by decide +kernel
theorem dX10_speak_15 : decode cX10_speak 15 = .ok (.invokevirtual 105, 3) := by decide +kernel
theorem dX10_speak_18 : decode cX10_speak 18 = .ok (.ifCond .eq 26, 3) := by decide +kernel
theorem dX10_speak_21 : decode cX10_speak 21 = .ok (.iload_n 1, 1) := by decide +kernel
theorem dX10_speak_22 : decode cX10_speak 22 = .ok (.iload_n 2, 1) := by decide +kernel
theorem dX10_speak_23 : decode cX10_speak 23 = .ok (.if_icmp .eq 21, 3) := by decide +kernel
theorem dX10_speak_26 : decode cX10_speak 26 = .ok (.aload_n 0, 1) := by decide +kernel
theorem dX10_speak_27 : decode cX10_speak 27 = .ok (.iload_n 1, 1) := by decide +kernel
theorem dX10_speak_28 : decode cX10_speak 28 = .ok (.invokevirtual 109, 3) := by decide +kernel
theorem dX10_speak_31 : decode cX10_speak 31 = .ok (.iconst (-1), 1) := by decide +kernel
theorem dX10_speak_32 : decode cX10_speak 32 = .ok (.if_icmp .eq 12, 3) := by decide +kernel
theorem dX10_speak_35 : decode cX10_speak 35 = .ok (.aload_n 0, 1) := by decide +kernel
theorem dX10_speak_36 : decode cX10_speak 36 = .ok (.iload_n 2, 1) := by decide +kernel
theorem dX10_speak_37 : decode cX10_speak 37 = .ok (.invokevirtual 109, 3) := by decide +kernel
theorem dX10_speak_40 : decode cX10_speak 40 = .ok (.iconst (-1), 1) := by decide +kernel
theorem dX10_speak_41 : decode cX10_speak 41 = .ok (.if_icmp .ne 5, 3) := by decide +kernel
theorem dX10_speak_44 : decode cX10_speak 44 = .ok (.iconst (-1), 1) := by decide +kernel
theorem dX10_speak_45 : decode cX10_speak 45 = .ok (.ireturn, 1) := by decide +kernel
theorem dX10_speak_46 : decode cX10_speak 46 = .ok (.aload_n 0, 1) := by decide +kernel
theorem dX10_speak_47 : decode cX10_speak 47 = .ok (.invokevirtual 250, 3) := by decide +kernel
theorem dX10_speak_50 : decode cX10_speak 50 = .ok (.iconst 0, 1) := by decide +kernel
theorem dX10_speak_51 : decode cX10_speak 51 = .ok (.istore_n 3, 1) := by decide +kernel
theorem dX10_speak_52 : decode cX10_speak 52 = .ok (.iconst 0, 1) := by decide +kernel
theorem dX10_speak_53 : decode cX10_speak 53 = .ok (.istore 4, 2) := by decide +kernel
theorem dX10_speak_55 : decode cX10_speak 55 = .ok (.iload 4, 2) := by decide +kernel
theorem dX10_speak_57 : decode cX10_speak 57 = .ok (.aload_n 0, 1) := by decide +kernel
theorem dX10_speak_58 : decode cX10_speak 58 = .ok (.getfield 98, 3) := by decide +kernel
theorem dX10_speak_61 : decode cX10_speak 61 = .ok (.if_icmp .ge 43, 3) := by decide +kernel
theorem dX10_speak_64 : decode cX10_speak 64 = .ok (.iload 4, 2) := by decide +kernel
theorem dX10_speak_66 : decode cX10_speak 66 = .ok (.iload_n 1, 1) := by decide +kernel
theorem dX10_speak_67 : decode cX10_speak 67 = .ok (.if_icmp .eq 31, 3) := by decide +kernel
theorem dX10_speak_70 : decode cX10_speak 70 = .ok (.iload 4, 2) := by decide +kernel
theorem dX10_speak_72 : decode cX10_speak 72 = .ok (.iload_n 2, 1) := by decide +kernel
theorem dX10_speak_73 : decode cX10_speak 73 = .ok (.if_icmp .eq 25, 3) := by decide +kernel
theorem dX10_speak_76 : decode cX10_speak 76 = .ok (.aload_n 0, 1) := by decide +kernel
theorem dX10_speak_77 : decode cX10_speak 77 = .ok (.iload 4, 2) := by decide +kernel
theorem dX10_speak_79 : decode cX10_speak 79 = .ok (.iload_n 1, 1) := by decide +kernel
theorem dX10_speak_80 : decode cX10_speak 80 = .ok (.iload_n 2, 1) := by decide +kernel
theorem dX10_speak_81 : decode cX10_speak 81 = .ok (.aload_n 0, 1) := by decide +kernel
theorem dX10_speak_82 : decode cX10_speak 82 = .ok (.getfield 116, 3) := by decide +kernel
theorem dX10_speak_85 : decode cX10_speak 85 = .ok (.invokevirtual 240, 3) := by decide +kernel
theorem dX10_speak_88 : decode cX10_speak 88 = .ok (.ifCond .eq 10, 3) := by decide +kernel
theorem dX10_speak_91 : decode cX10_speak 91 = .ok (.iload_n 3, 1) := by decide +kernel
theorem dX10_speak_92 : decode cX10_speak 92 = .ok (.iconst 1, 1) := by decide +kernel
theorem dX10_speak_93 : decode cX10_speak 93 = .ok (.iload 4, 2) := by decide +kernel
theorem dX10_speak_95 : decode cX10_speak 95 = .ok (.ishl, 1) := by decide +kernel
theorem dX10_speak_96 : decode cX10_speak 96 = .ok (.ior, 1) := by decide +kernel
theorem dX10_speak_97 : decode cX10_speak 97 = .ok (.istore_n 3, 1) := by decide +kernel
theorem dX10_speak_98 : decode cX10_speak 98 = .ok (.iinc 4 1, 3) := by decide +kernel
theorem dX10_speak_101 : decode cX10_speak 101 = .ok (.goto (-46), 3) := by decide +kernel
theorem dX10_speak_104 : decode cX10_speak 104 = .ok (.aload_n 0, 1) := by decide +kernel
theorem dX10_speak_105 : decode cX10_speak 105 = .ok (.iload_n 1, 1) := by decide +kernel
theorem dX10_speak_106 : decode cX10_speak 106 = .ok (.iload_n 2, 1) := by decide +kernel
theorem dX10_speak_107 : decode cX10_speak 107 = .ok (.iload_n 3, 1) := by decide +kernel
theorem dX10_speak_108 : decode cX10_speak 108 = .ok (.invokevirtual 253, 3) := by decide +kernel
theorem dX10_speak_111 : decode cX10_speak 111 = .ok (.iload_n 3, 1) := by decide +kernel
theorem dX10_speak_112 : decode cX10_speak 112 = .ok (.ireturn, 1) := by decide +kernel
theorem dX10_slips_0 : decode cX10_slips 0 = .ok (.iconst 0, 1) := by decide +kernel
theorem dX10_slips_1 : decode cX10_slips 1 = .ok (.istore_n 1, 1) := by decide +kernel
theorem dX10_slips_2 : decode cX10_slips 2 = .ok (.iconst 0, 1) := by decide +kernel
theorem dX10_slips_3 : decode cX10_slips 3 = .ok (.istore_n 2, 1) := by decide +kernel
theorem dX10_slips_4 : decode cX10_slips 4 = .ok (.iload_n 2, 1) := by decide +kernel
theorem dX10_slips_5 : decode cX10_slips 5 = .ok (.aload_n 0, 1) := by decide +kernel
theorem dX10_slips_6 : decode cX10_slips 6 = .ok (.getfield 98, 3) := by decide +kernel
theorem dX10_slips_9 : decode cX10_slips 9 = .ok (.if_icmp .ge 98, 3) := by decide +kernel
theorem dX10_slips_12 : decode cX10_slips 12 = .ok (.aload_n 0, 1) := by decide +kernel
theorem dX10_slips_13 : decode cX10_slips 13 = .ok (.getfield 116, 3) := by decide +kernel
theorem dX10_slips_16 : decode cX10_slips 16 = .ok (.iload_n 2, 1) := by decide +kernel
theorem dX10_slips_17 : decode cX10_slips 17 = .ok (.ishr, 1) := by decide +kernel
theorem dX10_slips_18 : decode cX10_slips 18 = .ok (.iconst 1, 1) := by decide +kernel
theorem dX10_slips_19 : decode cX10_slips 19 = .ok (.iand, 1) := by decide +kernel
theorem dX10_slips_20 : decode cX10_slips 20 = .ok (.ifCond .eq 81, 3) := by decide +kernel
theorem dX10_slips_23 : decode cX10_slips 23 = .ok (.aload_n 0, 1) := by decide +kernel
theorem dX10_slips_24 : decode cX10_slips 24 = .ok (.getfield 119, 3) := by decide +kernel
theorem dX10_slips_27 : decode cX10_slips 27 = .ok (.ifCond .eq 74, 3) := by decide +kernel
theorem dX10_slips_30 : decode cX10_slips 30 = .ok (.aload_n 0, 1) := by decide +kernel
theorem dX10_slips_31 : decode cX10_slips 31 = .ok (.sipush 1000, 3) := by decide +kernel
theorem dX10_slips_34 : decode cX10_slips 34 = .ok (.invokevirtual 257, 3) := by decide +kernel
theorem dX10_slips_37 : decode cX10_slips 37 = .ok (.aload_n 0, 1) := by decide +kernel
theorem dX10_slips_38 : decode cX10_slips 38 = .ok (.getfield 119, 3) := by decide +kernel
theorem dX10_slips_41 : decode cX10_slips 41 = .ok (.if_icmp .lt 6, 3) := by decide +kernel
theorem dX10_slips_44 : decode cX10_slips 44 = .ok (.goto 57, 3) := by decide +kernel
theorem dX10_slips_47 : decode cX10_slips 47 = .ok (.aload_n 0, 1) := by decide +kernel
theorem dX10_slips_48 : decode cX10_slips 48 = .ok (.iload_n 2, 1) := by decide +kernel
theorem dX10_slips_49 : decode cX10_slips 49 = .ok (.invokevirtual 109, 3) := by decide +kernel
theorem dX10_slips_52 : decode cX10_slips 52 = .ok (.aload_n 0, 1) := by decide +kernel
theorem dX10_slips_53 : decode cX10_slips 53 = .ok (.iconst 2, 1) := by decide +kernel
theorem dX10_slips_54 : decode cX10_slips 54 = .ok (.invokevirtual 257, 3) := by decide +kernel
theorem dX10_slips_57 : decode cX10_slips 57 = .ok (.ifCond .ne 7, 3) := by decide +kernel
theorem dX10_slips_60 : decode cX10_slips 60 = .ok (.iconst (-1), 1) := by decide +kernel
theorem dX10_slips_61 : decode cX10_slips 61 = .ok (.goto 4, 3) := by decide +kernel
theorem dX10_slips_64 : decode cX10_slips 64 = .ok (.iconst 1, 1) := by decide +kernel
theorem dX10_slips_65 : decode cX10_slips 65 = .ok (.iadd, 1) := by decide +kernel
theorem dX10_slips_66 : decode cX10_slips 66 = .ok (.istore_n 3, 1) := by decide +kernel
theorem dX10_slips_67 : decode cX10_slips 67 = .ok (.aload_n 0, 1) := by decide +kernel
theorem dX10_slips_68 : decode cX10_slips 68 = .ok (.getfield 7, 3) := by decide +kernel
theorem dX10_slips_71 : decode cX10_slips 71 = .ok (.iconst 0, 1) := by decide +kernel
theorem dX10_slips_72 : decode cX10_slips 72 = .ok (.iload_n 2, 1) := by decide +kernel
theorem dX10_slips_73 : decode cX10_slips 73 = .ok (.iadd, 1) := by decide +kernel
theorem dX10_slips_74 : decode cX10_slips 74 = .ok (.iload_n 3, 1) := by decide +kernel
theorem dX10_slips_75 : decode cX10_slips 75 = .ok (.ifCond .ge 7, 3) := by decide +kernel
theorem dX10_slips_78 : decode cX10_slips 78 = .ok (.iconst 1, 1) := by decide +kernel
theorem dX10_slips_79 : decode cX10_slips 79 = .ok (.goto 17, 3) := by decide +kernel
theorem dX10_slips_82 : decode cX10_slips 82 = .ok (.iload_n 3, 1) := by decide +kernel
theorem dX10_slips_83 : decode cX10_slips 83 = .ok (.bipush 60, 2) := by decide +kernel
theorem dX10_slips_85 : decode cX10_slips 85 = .ok (.if_icmp .le 8, 3) := by decide +kernel
theorem dX10_slips_88 : decode cX10_slips 88 = .ok (.bipush 61, 2) := by decide +kernel
theorem dX10_slips_90 : decode cX10_slips 90 = .ok (.goto 6, 3) := by decide +kernel
theorem dX10_slips_93 : decode cX10_slips 93 = .ok (.iload_n 3, 1) := by decide +kernel
theorem dX10_slips_94 : decode cX10_slips 94 = .ok (.iconst 1, 1) := by decide +kernel
theorem dX10_slips_95 : decode cX10_slips 95 = .ok (.iadd, 1) := by decide +kernel
theorem dX10_slips_96 : decode cX10_slips 96 = .ok (.iastore, 1) := by decide +kernel
theorem dX10_slips_97 : decode cX10_slips 97 = .ok (.iload_n 1, 1) := by decide +kernel
theorem dX10_slips_98 : decode cX10_slips 98 = .ok (.iconst 1, 1) := by decide +kernel
theorem dX10_slips_99 : decode cX10_slips 99 = .ok (.iadd, 1) := by decide +kernel
theorem dX10_slips_100 : decode cX10_slips 100 = .ok (.istore_n 1, 1) := by decide +kernel
theorem dX10_slips_101 : decode cX10_slips 101 = .ok (.iinc 2 1, 3) := by decide +kernel
theorem dX10_slips_104 : decode cX10_slips 104 = .ok (.goto (-100), 3) := by decide +kernel
theorem dX10_slips_107 : decode cX10_slips 107 = .ok (.aload_n 0, 1) := by decide +kernel
theorem dX10_slips_108 : decode cX10_slips 108 = .ok (.getfield 7, 3) := by decide +kernel
theorem dX10_slips_111 : decode cX10_slips 111 = .ok (.bipush 11, 2) := by decide +kernel
theorem dX10_slips_113 : decode cX10_slips 113 = .ok (.aload_n 0, 1) := by decide +kernel
theorem dX10_slips_114 : decode cX10_slips 114 = .ok (.getfield 7, 3) := by decide +kernel
theorem dX10_slips_117 : decode cX10_slips 117 = .ok (.bipush 11, 2) := by decide +kernel
theorem dX10_slips_119 : decode cX10_slips 119 = .ok (.iaload, 1) := by decide +kernel
theorem dX10_slips_120 : decode cX10_slips 120 = .ok (.iconst 1, 1) := by decide +kernel
theorem dX10_slips_121 : decode cX10_slips 121 = .ok (.iadd, 1) := by decide +kernel
theorem dX10_slips_122 : decode cX10_slips 122 = .ok (.iastore, 1) := by decide +kernel
theorem dX10_slips_123 : decode cX10_slips 123 = .ok (.iload_n 1, 1) := by decide +kernel
theorem dX10_slips_124 : decode cX10_slips 124 = .ok (.ireturn, 1) := by decide +kernel
theorem dX10_hours_0 : decode cX10_hours 0 = .ok (.aload_n 0, 1) := by decide +kernel
theorem dX10_hours_1 : decode cX10_hours 1 = .ok (.iconst 0, 1) := by decide +kernel
theorem dX10_hours_2 : decode cX10_hours 2 = .ok (.putfield 90, 3) := by decide +kernel
theorem dX10_hours_5 : decode cX10_hours 5 = .ok (.aload_n 0, 1) := by decide +kernel
theorem dX10_hours_6 : decode cX10_hours 6 = .ok (.iload_n 1, 1) := by decide +kernel
theorem dX10_hours_7 : decode cX10_hours 7 = .ok (.iconst 1, 1) := by decide +kernel
theorem dX10_hours_8 : decode cX10_hours 8 = .ok (.bipush 100, 2) := by decide +kernel
theorem dX10_hours_10 : decode cX10_hours 10 = .ok (.invokevirtual 101, 3) := by decide +kernel
theorem dX10_hours_13 : decode cX10_hours 13 = .ok (.ifCond .eq 18, 3) := by decide +kernel
theorem dX10_hours_16 : decode cX10_hours 16 = .ok (.aload_n 0, 1) := by decide +kernel
theorem dX10_hours_17 : decode cX10_hours 17 = .ok (.getfield 7, 3) := by decide +kernel
theorem dX10_hours_20 : decode cX10_hours 20 = .ok (.bipush 11, 2) := by decide +kernel
theorem dX10_hours_22 : decode cX10_hours 22 = .ok (.iaload, 1) := by decide +kernel
theorem dX10_hours_23 : decode cX10_hours 23 = .ok (.iload_n 1, 1) := by decide +kernel
theorem dX10_hours_24 : decode cX10_hours 24 = .ok (.iadd, 1) := by decide +kernel
theorem dX10_hours_25 : decode cX10_hours 25 = .ok (.sipush 9999, 3) := by decide +kernel
theorem dX10_hours_28 : decode cX10_hours 28 = .ok (.if_icmp .le 5, 3) := by decide +kernel
theorem dX10_hours_31 : decode cX10_hours 31 = .ok (.iconst (-1), 1) := by decide +kernel
theorem dX10_hours_32 : decode cX10_hours 32 = .ok (.ireturn, 1) := by decide +kernel
theorem dX10_hours_33 : decode cX10_hours 33 = .ok (.iconst 0, 1) := by decide +kernel
theorem dX10_hours_34 : decode cX10_hours 34 = .ok (.istore_n 2, 1) := by decide +kernel
theorem dX10_hours_35 : decode cX10_hours 35 = .ok (.iconst 0, 1) := by decide +kernel
theorem dX10_hours_36 : decode cX10_hours 36 = .ok (.istore_n 3, 1) := by decide +kernel
theorem dX10_hours_37 : decode cX10_hours 37 = .ok (.iload_n 3, 1) := by decide +kernel
theorem dX10_hours_38 : decode cX10_hours 38 = .ok (.iload_n 1, 1) := by decide +kernel
theorem dX10_hours_39 : decode cX10_hours 39 = .ok (.if_icmp .ge 20, 3) := by decide +kernel
theorem dX10_hours_42 : decode cX10_hours 42 = .ok (.aload_n 0, 1) := by decide +kernel
theorem dX10_hours_43 : decode cX10_hours 43 = .ok (.invokevirtual 250, 3) := by decide +kernel
theorem dX10_hours_46 : decode cX10_hours 46 = .ok (.iload_n 2, 1) := by decide +kernel
theorem dX10_hours_47 : decode cX10_hours 47 = .ok (.aload_n 0, 1) := by decide +kernel
theorem dX10_hours_48 : decode cX10_hours 48 = .ok (.invokevirtual 260, 3) := by decide +kernel
theorem dX10_hours_51 : decode cX10_hours 51 = .ok (.iadd, 1) := by decide +kernel
theorem dX10_hours_52 : decode cX10_hours 52 = .ok (.istore_n 2, 1) := by decide +kernel
theorem dX10_hours_53 : decode cX10_hours 53 = .ok (.iinc 3 1, 3) := by decide +kernel
theorem dX10_hours_56 : decode cX10_hours 56 = .ok (.goto (-19), 3) := by decide +kernel
theorem dX10_hours_59 : decode cX10_hours 59 = .ok (.iload_n 2, 1) := by decide +kernel
theorem dX10_hours_60 : decode cX10_hours 60 = .ok (.ireturn, 1) := by decide +kernel
theorem dX10_book_0 : decode cX10_book 0 = .ok (.aload_n 0, 1) := by decide +kernel
theorem dX10_book_1 : decode cX10_book 1 = .ok (.iconst 0, 1) := by decide +kernel
theorem dX10_book_2 : decode cX10_book 2 = .ok (.putfield 90, 3) := by decide +kernel
theorem dX10_book_5 : decode cX10_book 5 = .ok (.aload_n 0, 1) := by decide +kernel
theorem dX10_book_6 : decode cX10_book 6 = .ok (.iload_n 1, 1) := by decide +kernel
theorem dX10_book_7 : decode cX10_book 7 = .ok (.iconst 0, 1) := by decide +kernel
theorem dX10_book_8 : decode cX10_book 8 = .ok (.aload_n 0, 1) := by decide +kernel
theorem dX10_book_9 : decode cX10_book 9 = .ok (.getfield 7, 3) := by decide +kernel
theorem dX10_book_12 : decode cX10_book 12 = .ok (.bipush 10, 2) := by decide +kernel
theorem dX10_book_14 : decode cX10_book 14 = .ok (.iaload, 1) := by decide +kernel
theorem dX10_book_15 : decode cX10_book 15 = .ok (.iconst 1, 1) := by decide +kernel
theorem dX10_book_16 : decode cX10_book 16 = .ok (.isub, 1) := by decide +kernel
theorem dX10_book_17 : decode cX10_book 17 = .ok (.invokevirtual 101, 3) := by decide +kernel
theorem dX10_book_20 : decode cX10_book 20 = .ok (.ifCond .eq 26, 3) := by decide +kernel
theorem dX10_book_23 : decode cX10_book 23 = .ok (.aload_n 0, 1) := by decide +kernel
theorem dX10_book_24 : decode cX10_book 24 = .ok (.iload_n 2, 1) := by decide +kernel
theorem dX10_book_25 : decode cX10_book 25 = .ok (.iconst 0, 1) := by decide +kernel
theorem dX10_book_26 : decode cX10_book 26 = .ok (.iconst 4, 1) := by decide +kernel
theorem dX10_book_27 : decode cX10_book 27 = .ok (.invokevirtual 101, 3) := by decide +kernel
theorem dX10_book_30 : decode cX10_book 30 = .ok (.ifCond .eq 16, 3) := by decide +kernel
theorem dX10_book_33 : decode cX10_book 33 = .ok (.aload_n 0, 1) := by decide +kernel
theorem dX10_book_34 : decode cX10_book 34 = .ok (.getfield 19, 3) := by decide +kernel
theorem dX10_book_37 : decode cX10_book 37 = .ok (.iconst 5, 1) := by decide +kernel
theorem dX10_book_38 : decode cX10_book 38 = .ok (.iload_n 1, 1) := by decide +kernel
theorem dX10_book_39 : decode cX10_book 39 = .ok (.imul, 1) := by decide +kernel
theorem dX10_book_40 : decode cX10_book 40 = .ok (.iload_n 2, 1) := by decide +kernel
theorem dX10_book_41 : decode cX10_book 41 = .ok (.iadd, 1) := by decide +kernel
theorem dX10_book_42 : decode cX10_book 42 = .ok (.iaload, 1) := by decide +kernel
theorem dX10_book_43 : decode cX10_book 43 = .ok (.goto 4, 3) := by decide +kernel
theorem dX10_book_46 : decode cX10_book 46 = .ok (.iconst (-1), 1) := by decide +kernel
theorem dX10_book_47 : decode cX10_book 47 = .ok (.ireturn, 1) := by decide +kernel
theorem dX10_isTune_0 : decode cX10_isTune 0 = .ok (.iload_n 1, 1) := by decide +kernel
theorem dX10_isTune_1 : decode cX10_isTune 1 = .ok (.ifCond .lt 12, 3) := by decide +kernel
theorem dX10_isTune_4 : decode cX10_isTune 4 = .ok (.iload_n 1, 1) := by decide +kernel
theorem dX10_isTune_5 : decode cX10_isTune 5 = .ok (.iconst 4, 1) := by decide +kernel
theorem dX10_isTune_6 : decode cX10_isTune 6 = .ok (.if_icmp .ge 7, 3) := by decide +kernel
theorem dX10_isTune_9 : decode cX10_isTune 9 = .ok (.iconst 1, 1) := by decide +kernel
theorem dX10_isTune_10 : decode cX10_isTune 10 = .ok (.goto 4, 3) := by decide +kernel
theorem dX10_isTune_13 : decode cX10_isTune 13 = .ok (.iconst 0, 1) := by decide +kernel
theorem dX10_isTune_14 : decode cX10_isTune 14 = .ok (.ireturn, 1) := by decide +kernel
theorem dX10_tune_0 : decode cX10_tune 0 = .ok (.aload_n 0, 1) := by decide +kernel
theorem dX10_tune_1 : decode cX10_tune 1 = .ok (.iconst 0, 1) := by decide +kernel
theorem dX10_tune_2 : decode cX10_tune 2 = .ok (.putfield 90, 3) := by decide +kernel
theorem dX10_tune_5 : decode cX10_tune 5 = .ok (.aload_n 0, 1) := by decide +kernel
theorem dX10_tune_6 : decode cX10_tune 6 = .ok (.iload_n 1, 1) := by decide +kernel
theorem dX10_tune_7 : decode cX10_tune 7 = .ok (.invokevirtual 263, 3) := by decide +kernel
theorem dX10_tune_10 : decode cX10_tune 10 = .ok (.ifCond .eq 14, 3) := by decide +kernel
theorem dX10_tune_13 : decode cX10_tune 13 = .ok (.aload_n 0, 1) := by decide +kernel
theorem dX10_tune_14 : decode cX10_tune 14 = .ok (.iload_n 2, 1) := by decide +kernel
theorem dX10_tune_15 : decode cX10_tune 15 = .ok (.iconst (-1), 1) := by decide +kernel
theorem dX10_tune_16 : decode cX10_tune 16 = .ok (.bipush 60, 2) := by decide +kernel
theorem dX10_tune_18 : decode cX10_tune 18 = .ok (.invokevirtual 101, 3) := by decide +kernel
theorem dX10_tune_21 : decode cX10_tune 21 = .ok (.ifCond .ne 5, 3) := by decide +kernel
theorem dX10_tune_24 : decode cX10_tune 24 = .ok (.iconst (-1), 1) := by decide +kernel
theorem dX10_tune_25 : decode cX10_tune 25 = .ok (.ireturn, 1) := by decide +kernel
theorem dX10_tune_26 : decode cX10_tune 26 = .ok (.iload_n 2, 1) := by decide +kernel
theorem dX10_tune_27 : decode cX10_tune 27 = .ok (.iconst (-1), 1) := by decide +kernel
theorem dX10_tune_28 : decode cX10_tune 28 = .ok (.if_icmp .ne 12, 3) := by decide +kernel
theorem dX10_tune_31 : decode cX10_tune 31 = .ok (.aload_n 0, 1) := by decide +kernel
theorem dX10_tune_32 : decode cX10_tune 32 = .ok (.getfield 60, 3) := by decide +kernel
theorem dX10_tune_35 : decode cX10_tune 35 = .ok (.iload_n 1, 1) := by decide +kernel
theorem dX10_tune_36 : decode cX10_tune 36 = .ok (.iconst 0, 1) := by decide +kernel
theorem dX10_tune_37 : decode cX10_tune 37 = .ok (.iastore, 1) := by decide +kernel
theorem dX10_tune_38 : decode cX10_tune 38 = .ok (.iconst 0, 1) := by decide +kernel
theorem dX10_tune_39 : decode cX10_tune 39 = .ok (.ireturn, 1) := by decide +kernel
theorem dX10_tune_40 : decode cX10_tune 40 = .ok (.aload_n 0, 1) := by decide +kernel
theorem dX10_tune_41 : decode cX10_tune 41 = .ok (.getfield 60, 3) := by decide +kernel
theorem dX10_tune_44 : decode cX10_tune 44 = .ok (.iload_n 1, 1) := by decide +kernel
theorem dX10_tune_45 : decode cX10_tune 45 = .ok (.iaload, 1) := by decide +kernel
theorem dX10_tune_46 : decode cX10_tune 46 = .ok (.bipush 12, 2) := by decide +kernel
theorem dX10_tune_48 : decode cX10_tune 48 = .ok (.if_icmp .ne 5, 3) := by decide +kernel
theorem dX10_tune_51 : decode cX10_tune 51 = .ok (.iconst (-1), 1) := by decide +kernel
theorem dX10_tune_52 : decode cX10_tune 52 = .ok (.ireturn, 1) := by decide +kernel
theorem dX10_tune_53 : decode cX10_tune 53 = .ok (.aload_n 0, 1) := by decide +kernel
theorem dX10_tune_54 : decode cX10_tune 54 = .ok (.getfield 63, 3) := by decide +kernel
theorem dX10_tune_57 : decode cX10_tune 57 = .ok (.bipush 12, 2) := by decide +kernel
theorem dX10_tune_59 : decode cX10_tune 59 = .ok (.iload_n 1, 1) := by decide +kernel
theorem dX10_tune_60 : decode cX10_tune 60 = .ok (.imul, 1) := by decide +kernel
theorem dX10_tune_61 : decode cX10_tune 61 = .ok (.aload_n 0, 1) := by decide +kernel
theorem dX10_tune_62 : decode cX10_tune 62 = .ok (.getfield 60, 3) := by decide +kernel
theorem dX10_tune_65 : decode cX10_tune 65 = .ok (.iload_n 1, 1) := by decide +kernel
theorem dX10_tune_66 : decode cX10_tune 66 = .ok (.iaload, 1) := by decide +kernel
theorem dX10_tune_67 : decode cX10_tune 67 = .ok (.iadd, 1) := by decide +kernel
theorem dX10_tune_68 : decode cX10_tune 68 = .ok (.iload_n 2, 1) := by decide +kernel
theorem dX10_tune_69 : decode cX10_tune 69 = .ok (.iastore, 1) := by decide +kernel
theorem dX10_tune_70 : decode cX10_tune 70 = .ok (.aload_n 0, 1) := by decide +kernel
theorem dX10_tune_71 : decode cX10_tune 71 = .ok (.getfield 60, 3) := by decide +kernel
theorem dX10_tune_74 : decode cX10_tune 74 = .ok (.iload_n 1, 1) := by decide +kernel
theorem dX10_tune_75 : decode cX10_tune 75 = .ok (.aload_n 0, 1) := by decide +kernel
theorem dX10_tune_76 : decode cX10_tune 76 = .ok (.getfield 60, 3) := by decide +kernel
theorem dX10_tune_79 : decode cX10_tune 79 = .ok (.iload_n 1, 1) := by decide +kernel
theorem dX10_tune_80 : decode cX10_tune 80 = .ok (.iaload, 1) := by decide +kernel
theorem dX10_tune_81 : decode cX10_tune 81 = .ok (.iconst 1, 1) := by decide +kernel
theorem dX10_tune_82 : decode cX10_tune 82 = .ok (.iadd, 1) := by decide +kernel
theorem dX10_tune_83 : decode cX10_tune 83 = .ok (.iastore, 1) := by decide +kernel
theorem dX10_tune_84 : decode cX10_tune 84 = .ok (.aload_n 0, 1) := by decide +kernel
theorem dX10_tune_85 : decode cX10_tune 85 = .ok (.getfield 60, 3) := by decide +kernel
theorem dX10_tune_88 : decode cX10_tune 88 = .ok (.iload_n 1, 1) := by decide +kernel
theorem dX10_tune_89 : decode cX10_tune 89 = .ok (.iaload, 1) := by decide +kernel
theorem dX10_tune_90 : decode cX10_tune 90 = .ok (.ireturn, 1) := by decide +kernel
theorem dX10_hasSteps_0 : decode cX10_hasSteps 0 = .ok (.iconst 1, 1) := by decide +kernel
theorem dX10_hasSteps_1 : decode cX10_hasSteps 1 = .ok (.istore 4, 2) := by decide +kernel
theorem dX10_hasSteps_3 : decode cX10_hasSteps 3 = .ok (.iload 4, 2) := by decide +kernel
theorem dX10_hasSteps_5 : decode cX10_hasSteps 5 = .ok (.aload_n 0, 1) := by decide +kernel
theorem dX10_hasSteps_6 : decode cX10_hasSteps 6 = .ok (.getfield 60, 3) := by decide +kernel
theorem dX10_hasSteps_9 : decode cX10_hasSteps 9 = .ok (.iload_n 1, 1) := by decide +kernel
theorem dX10_hasSteps_10 : decode cX10_hasSteps 10 = .ok (.iaload, 1) := by decide +kernel
theorem dX10_hasSteps_11 : decode cX10_hasSteps 11 = .ok (.if_icmp .ge 70, 3) := by decide +kernel
theorem dX10_hasSteps_14 : decode cX10_hasSteps 14 = .ok (.aload_n 0, 1) := by decide +kernel
theorem dX10_hasSteps_15 : decode cX10_hasSteps 15 = .ok (.getfield 63, 3) := by decide +kernel
theorem dX10_hasSteps_18 : decode cX10_hasSteps 18 = .ok (.bipush 12, 2) := by decide +kernel
theorem dX10_hasSteps_20 : decode cX10_hasSteps 20 = .ok (.iload_n 1, 1) := by decide +kernel
theorem dX10_hasSteps_21 : decode cX10_hasSteps 21 = .ok (.imul, 1) := by decide +kernel
theorem dX10_hasSteps_22 : decode cX10_hasSteps 22 = .ok (.iload 4, 2) := by decide +kernel
theorem dX10_hasSteps_24 : decode cX10_hasSteps 24 = .ok (.iadd, 1) := by decide +kernel
theorem dX10_hasSteps_25 : decode cX10_hasSteps 25 = .ok (.iaload, 1) := by decide +kernel
theorem dX10_hasSteps_26 : decode cX10_hasSteps 26 = .ok (.aload_n 0, 1) := by decide +kernel
theorem dX10_hasSteps_27 : decode cX10_hasSteps 27 = .ok (.getfield 63, 3) := by decide +kernel
theorem dX10_hasSteps_30 : decode cX10_hasSteps 30 = .ok (.bipush 12, 2) := by decide +kernel
theorem dX10_hasSteps_32 : decode cX10_hasSteps 32 = .ok (.iload_n 1, 1) := by decide +kernel
theorem dX10_hasSteps_33 : decode cX10_hasSteps 33 = .ok (.imul, 1) := by decide +kernel
theorem dX10_hasSteps_34 : decode cX10_hasSteps 34 = .ok (.iload 4, 2) := by decide +kernel
theorem dX10_hasSteps_36 : decode cX10_hasSteps 36 = .ok (.iadd, 1) := by decide +kernel
theorem dX10_hasSteps_37 : decode cX10_hasSteps 37 = .ok (.iconst 1, 1) := by decide +kernel
theorem dX10_hasSteps_38 : decode cX10_hasSteps 38 = .ok (.isub, 1) := by decide +kernel
theorem dX10_hasSteps_39 : decode cX10_hasSteps 39 = .ok (.iaload, 1) := by decide +kernel
theorem dX10_hasSteps_40 : decode cX10_hasSteps 40 = .ok (.isub, 1) := by decide +kernel
theorem dX10_hasSteps_41 : decode cX10_hasSteps 41 = .ok (.iload_n 3, 1) := by decide +kernel
theorem dX10_hasSteps_42 : decode cX10_hasSteps 42 = .ok (.aload_n 0, 1) := by decide +kernel
theorem dX10_hasSteps_43 : decode cX10_hasSteps 43 = .ok (.getfield 63, 3) := by decide +kernel
theorem dX10_hasSteps_46 : decode cX10_hasSteps 46 = .ok (.bipush 12, 2) := by decide +kernel
theorem dX10_hasSteps_48 : decode cX10_hasSteps 48 = .ok (.iload_n 2, 1) := by decide +kernel
theorem dX10_hasSteps_49 : decode cX10_hasSteps 49 = .ok (.imul, 1) := by decide +kernel
theorem dX10_hasSteps_50 : decode cX10_hasSteps 50 = .ok (.iload 4, 2) := by decide +kernel
theorem dX10_hasSteps_52 : decode cX10_hasSteps 52 = .ok (.iadd, 1) := by decide +kernel
theorem dX10_hasSteps_53 : decode cX10_hasSteps 53 = .ok (.iaload, 1) := by decide +kernel
theorem dX10_hasSteps_54 : decode cX10_hasSteps 54 = .ok (.aload_n 0, 1) := by decide +kernel
theorem dX10_hasSteps_55 : decode cX10_hasSteps 55 = .ok (.getfield 63, 3) := by decide +kernel
theorem dX10_hasSteps_58 : decode cX10_hasSteps 58 = .ok (.bipush 12, 2) := by decide +kernel
theorem dX10_hasSteps_60 : decode cX10_hasSteps 60 = .ok (.iload_n 2, 1) := by decide +kernel
theorem dX10_hasSteps_61 : decode cX10_hasSteps 61 = .ok (.imul, 1) := by decide +kernel
theorem dX10_hasSteps_62 : decode cX10_hasSteps 62 = .ok (.iload 4, 2) := by decide +kernel
theorem dX10_hasSteps_64 : decode cX10_hasSteps 64 = .ok (.iadd, 1) := by decide +kernel
theorem dX10_hasSteps_65 : decode cX10_hasSteps 65 = .ok (.iconst 1, 1) := by decide +kernel
theorem dX10_hasSteps_66 : decode cX10_hasSteps 66 = .ok (.isub, 1) := by decide +kernel
theorem dX10_hasSteps_67 : decode cX10_hasSteps 67 = .ok (.iaload, 1) := by decide +kernel
theorem dX10_hasSteps_68 : decode cX10_hasSteps 68 = .ok (.isub, 1) := by decide +kernel
theorem dX10_hasSteps_69 : decode cX10_hasSteps 69 = .ok (.imul, 1) := by decide +kernel
theorem dX10_hasSteps_70 : decode cX10_hasSteps 70 = .ok (.if_icmp .eq 5, 3) := by decide +kernel
theorem dX10_hasSteps_73 : decode cX10_hasSteps 73 = .ok (.iconst 0, 1) := by decide +kernel
theorem dX10_hasSteps_74 : decode cX10_hasSteps 74 = .ok (.ireturn, 1) := by decide +kernel
theorem dX10_hasSteps_75 : decode cX10_hasSteps 75 = .ok (.iinc 4 1, 3) := by decide +kernel
theorem dX10_hasSteps_78 : decode cX10_hasSteps 78 = .ok (.goto (-75), 3) := by decide +kernel
theorem dX10_hasSteps_81 : decode cX10_hasSteps 81 = .ok (.iconst 1, 1) := by decide +kernel
theorem dX10_hasSteps_82 : decode cX10_hasSteps 82 = .ok (.ireturn, 1) := by decide +kernel
theorem dX10_same_0 : decode cX10_same 0 = .ok (.aload_n 0, 1) := by decide +kernel
theorem dX10_same_1 : decode cX10_same 1 = .ok (.iconst 0, 1) := by decide +kernel
theorem dX10_same_2 : decode cX10_same 2 = .ok (.putfield 90, 3) := by decide +kernel
theorem dX10_same_5 : decode cX10_same 5 = .ok (.aload_n 0, 1) := by decide +kernel
theorem dX10_same_6 : decode cX10_same 6 = .ok (.iload_n 1, 1) := by decide +kernel
theorem dX10_same_7 : decode cX10_same 7 = .ok (.invokevirtual 263, 3) := by decide +kernel
theorem dX10_same_10 : decode cX10_same 10 = .ok (.ifCond .eq 11, 3) := by decide +kernel
theorem dX10_same_13 : decode cX10_same 13 = .ok (.aload_n 0, 1) := by decide +kernel
theorem dX10_same_14 : decode cX10_same 14 = .ok (.iload_n 2, 1) := by decide +kernel
theorem dX10_same_15 : decode cX10_same 15 = .ok (.invokevirtual 263, 3) := by decide +kernel
theorem dX10_same_18 : decode cX10_same 18 = .ok (.ifCond .ne 5, 3) := by decide +kernel
theorem dX10_same_21 : decode cX10_same 21 = .ok (.iconst (-1), 1) := by decide +kernel
theorem dX10_same_22 : decode cX10_same 22 = .ok (.ireturn, 1) := by decide +kernel
theorem dX10_same_23 : decode cX10_same 23 = .ok (.aload_n 0, 1) := by decide +kernel
theorem dX10_same_24 : decode cX10_same 24 = .ok (.getfield 60, 3) := by decide +kernel
theorem dX10_same_27 : decode cX10_same 27 = .ok (.iload_n 1, 1) := by decide +kernel
theorem dX10_same_28 : decode cX10_same 28 = .ok (.iaload, 1) := by decide +kernel
theorem dX10_same_29 : decode cX10_same 29 = .ok (.ifCond .eq 18, 3) := by decide +kernel
theorem dX10_same_32 : decode cX10_same 32 = .ok (.aload_n 0, 1) := by decide +kernel
theorem dX10_same_33 : decode cX10_same 33 = .ok (.getfield 60, 3) := by decide +kernel
theorem dX10_same_36 : decode cX10_same 36 = .ok (.iload_n 1, 1) := by decide +kernel
theorem dX10_same_37 : decode cX10_same 37 = .ok (.iaload, 1) := by decide +kernel
theorem dX10_same_38 : decode cX10_same 38 = .ok (.aload_n 0, 1) := by decide +kernel
theorem dX10_same_39 : decode cX10_same 39 = .ok (.getfield 60, 3) := by decide +kernel
theorem dX10_same_42 : decode cX10_same 42 = .ok (.iload_n 2, 1) := by decide +kernel
theorem dX10_same_43 : decode cX10_same 43 = .ok (.iaload, 1) := by decide +kernel
theorem dX10_same_44 : decode cX10_same 44 = .ok (.if_icmp .eq 5, 3) := by decide +kernel
theorem dX10_same_47 : decode cX10_same 47 = .ok (.iconst 0, 1) := by decide +kernel
theorem dX10_same_48 : decode cX10_same 48 = .ok (.ireturn, 1) := by decide +kernel
theorem dX10_same_49 : decode cX10_same 49 = .ok (.aload_n 0, 1) := by decide +kernel
theorem dX10_same_50 : decode cX10_same 50 = .ok (.iload_n 1, 1) := by decide +kernel
theorem dX10_same_51 : decode cX10_same 51 = .ok (.iload_n 2, 1) := by decide +kernel
theorem dX10_same_52 : decode cX10_same 52 = .ok (.iconst 1, 1) := by decide +kernel
theorem dX10_same_53 : decode cX10_same 53 = .ok (.invokevirtual 266, 3) := by decide +kernel
theorem dX10_same_56 : decode cX10_same 56 = .ok (.ifCond .eq 30, 3) := by decide +kernel
theorem dX10_same_59 : decode cX10_same 59 = .ok (.aload_n 0, 1) := by decide +kernel
theorem dX10_same_60 : decode cX10_same 60 = .ok (.getfield 63, 3) := by decide +kernel
theorem dX10_same_63 : decode cX10_same 63 = .ok (.bipush 12, 2) := by decide +kernel
theorem dX10_same_65 : decode cX10_same 65 = .ok (.iload_n 1, 1) := by decide +kernel
theorem dX10_same_66 : decode cX10_same 66 = .ok (.imul, 1) := by decide +kernel
theorem dX10_same_67 : decode cX10_same 67 = .ok (.iaload, 1) := by decide +kernel
theorem dX10_same_68 : decode cX10_same 68 = .ok (.aload_n 0, 1) := by decide +kernel
theorem dX10_same_69 : decode cX10_same 69 = .ok (.getfield 63, 3) := by decide +kernel
theorem dX10_same_72 : decode cX10_same 72 = .ok (.bipush 12, 2) := by decide +kernel
theorem dX10_same_74 : decode cX10_same 74 = .ok (.iload_n 2, 1) := by decide +kernel
theorem dX10_same_75 : decode cX10_same 75 = .ok (.imul, 1) := by decide +kernel
theorem dX10_same_76 : decode cX10_same 76 = .ok (.iaload, 1) := by decide +kernel
theorem dX10_same_77 : decode cX10_same 77 = .ok (.if_icmp .ne 7, 3) := by decide +kernel
theorem dX10_same_80 : decode cX10_same 80 = .ok (.iconst 3, 1) := by decide +kernel
theorem dX10_same_81 : decode cX10_same 81 = .ok (.goto 4, 3) := by decide +kernel
theorem dX10_same_84 : decode cX10_same 84 = .ok (.iconst 2, 1) := by decide +kernel
theorem dX10_same_85 : decode cX10_same 85 = .ok (.ireturn, 1) := by decide +kernel
theorem dX10_same_86 : decode cX10_same 86 = .ok (.aload_n 0, 1) := by decide +kernel
theorem dX10_same_87 : decode cX10_same 87 = .ok (.iload_n 1, 1) := by decide +kernel
theorem dX10_same_88 : decode cX10_same 88 = .ok (.iload_n 2, 1) := by decide +kernel
theorem dX10_same_89 : decode cX10_same 89 = .ok (.iconst (-1), 1) := by decide +kernel
theorem dX10_same_90 : decode cX10_same 90 = .ok (.invokevirtual 266, 3) := by decide +kernel
theorem dX10_same_93 : decode cX10_same 93 = .ok (.ifCond .eq 7, 3) := by decide +kernel
theorem dX10_same_96 : decode cX10_same 96 = .ok (.iconst 1, 1) := by decide +kernel
theorem dX10_same_97 : decode cX10_same 97 = .ok (.goto 4, 3) := by decide +kernel
theorem dX10_same_100 : decode cX10_same 100 = .ok (.iconst 0, 1) := by decide +kernel
theorem dX10_same_101 : decode cX10_same 101 = .ok (.ireturn, 1) := by decide +kernel
theorem dX10_pair_0 : decode cX10_pair 0 = .ok (.aload_n 0, 1) := by decide +kernel
theorem dX10_pair_1 : decode cX10_pair 1 = .ok (.iconst 0, 1) := by decide +kernel
theorem dX10_pair_2 : decode cX10_pair 2 = .ok (.putfield 90, 3) := by decide +kernel
theorem dX10_pair_5 : decode cX10_pair 5 = .ok (.iload_n 1, 1) := by decide +kernel
theorem dX10_pair_6 : decode cX10_pair 6 = .ok (.iconst (-1), 1) := by decide +kernel
theorem dX10_pair_7 : decode cX10_pair 7 = .ok (.if_icmp .ne 10, 3) := by decide +kernel
theorem dX10_pair_10 : decode cX10_pair 10 = .ok (.aload_n 0, 1) := by decide +kernel
theorem dX10_pair_11 : decode cX10_pair 11 = .ok (.iconst 0, 1) := by decide +kernel
theorem dX10_pair_12 : decode cX10_pair 12 = .ok (.putfield 269, 3) := by decide +kernel
theorem dX10_pair_15 : decode cX10_pair 15 = .ok (.iconst 0, 1) := by decide +kernel
theorem dX10_pair_16 : decode cX10_pair 16 = .ok (.ireturn, 1) := by decide +kernel
theorem dX10_pair_17 : decode cX10_pair 17 = .ok (.aload_n 0, 1) := by decide +kernel
theorem dX10_pair_18 : decode cX10_pair 18 = .ok (.iload_n 1, 1) := by decide +kernel
theorem dX10_pair_19 : decode cX10_pair 19 = .ok (.invokevirtual 105, 3) := by decide +kernel
theorem dX10_pair_22 : decode cX10_pair 22 = .ok (.ifCond .eq 25, 3) := by decide +kernel
theorem dX10_pair_25 : decode cX10_pair 25 = .ok (.aload_n 0, 1) := by decide +kernel
theorem dX10_pair_26 : decode cX10_pair 26 = .ok (.iload_n 2, 1) := by decide +kernel
theorem dX10_pair_27 : decode cX10_pair 27 = .ok (.invokevirtual 105, 3) := by decide +kernel
theorem dX10_pair_30 : decode cX10_pair 30 = .ok (.ifCond .eq 17, 3) := by decide +kernel
theorem dX10_pair_33 : decode cX10_pair 33 = .ok (.iload_n 1, 1) := by decide +kernel
theorem dX10_pair_34 : decode cX10_pair 34 = .ok (.iload_n 2, 1) := by decide +kernel
theorem dX10_pair_35 : decode cX10_pair 35 = .ok (.if_icmp .eq 12, 3) := by decide +kernel
theorem dX10_pair_38 : decode cX10_pair 38 = .ok (.aload_n 0, 1) := by decide +kernel
theorem dX10_pair_39 : decode cX10_pair 39 = .ok (.getfield 269, 3) := by decide +kernel
theorem dX10_pair_42 : decode cX10_pair 42 = .ok (.bipush 8, 2) := by decide +kernel
theorem dX10_pair_44 : decode cX10_pair 44 = .ok (.if_icmp .ne 5, 3) := by decide +kernel
theorem dX10_pair_47 : decode cX10_pair 47 = .ok (.iconst (-1), 1) := by decide +kernel
theorem dX10_pair_48 : decode cX10_pair 48 = .ok (.ireturn, 1) := by decide +kernel
theorem dX10_pair_49 : decode cX10_pair 49 = .ok (.aload_n 0, 1) := by decide +kernel
theorem dX10_pair_50 : decode cX10_pair 50 = .ok (.getfield 66, 3) := by decide +kernel
theorem dX10_pair_53 : decode cX10_pair 53 = .ok (.aload_n 0, 1) := by decide +kernel
theorem dX10_pair_54 : decode cX10_pair 54 = .ok (.getfield 269, 3) := by decide +kernel
theorem dX10_pair_57 : decode cX10_pair 57 = .ok (.iload_n 1, 1) := by decide +kernel
theorem dX10_pair_58 : decode cX10_pair 58 = .ok (.iastore, 1) := by decide +kernel
theorem dX10_pair_59 : decode cX10_pair 59 = .ok (.aload_n 0, 1) := by decide +kernel
theorem dX10_pair_60 : decode cX10_pair 60 = .ok (.getfield 69, 3) := by decide +kernel
theorem dX10_pair_63 : decode cX10_pair 63 = .ok (.aload_n 0, 1) := by decide +kernel
theorem dX10_pair_64 : decode cX10_pair 64 = .ok (.getfield 269, 3) := by decide +kernel
theorem dX10_pair_67 : decode cX10_pair 67 = .ok (.iload_n 2, 1) := by decide +kernel
theorem dX10_pair_68 : decode cX10_pair 68 = .ok (.iastore, 1) := by decide +kernel
theorem dX10_pair_69 : decode cX10_pair 69 = .ok (.aload_n 0, 1) := by decide +kernel
theorem dX10_pair_70 : decode cX10_pair 70 = .ok (.aload_n 0, 1) := by decide +kernel
theorem dX10_pair_71 : decode cX10_pair 71 = .ok (.getfield 269, 3) := by decide +kernel
theorem dX10_pair_74 : decode cX10_pair 74 = .ok (.iconst 1, 1) := by decide +kernel
theorem dX10_pair_75 : decode cX10_pair 75 = .ok (.iadd, 1) := by decide +kernel
theorem dX10_pair_76 : decode cX10_pair 76 = .ok (.putfield 269, 3) := by decide +kernel
theorem dX10_pair_79 : decode cX10_pair 79 = .ok (.aload_n 0, 1) := by decide +kernel
theorem dX10_pair_80 : decode cX10_pair 80 = .ok (.getfield 269, 3) := by decide +kernel
theorem dX10_pair_83 : decode cX10_pair 83 = .ok (.ireturn, 1) := by decide +kernel
theorem dX10_areWithHums_0 : decode cX10_areWithHums 0 = .ok (.aload_n 0, 1) := by decide +kernel
theorem dX10_areWithHums_1 : decode cX10_areWithHums 1 = .ok (.aload_n 0, 1) := by decide +kernel
theorem dX10_areWithHums_2 : decode cX10_areWithHums 2 = .ok (.getfield 66, 3) := by decide +kernel
theorem dX10_areWithHums_5 : decode cX10_areWithHums 5 = .ok (.iload_n 1, 1) := by decide +kernel
theorem dX10_areWithHums_6 : decode cX10_areWithHums 6 = .ok (.iaload, 1) := by decide +kernel
theorem dX10_areWithHums_7 : decode cX10_areWithHums 7 = .ok (.invokevirtual 109, 3) := by decide +kernel
theorem dX10_areWithHums_10 : decode cX10_areWithHums 10 = .ok (.iconst (-1), 1) := by decide +kernel
theorem dX10_areWithHums_11 : decode cX10_areWithHums 11 = .ok (.if_icmp .eq 21, 3) := by decide +kernel
theorem dX10_areWithHums_14 : decode cX10_areWithHums 14 = .ok (.aload_n 0, 1) := by decide +kernel
theorem dX10_areWithHums_15 : decode cX10_areWithHums 15 = .ok (.aload_n 0, 1) := by decide +kernel
theorem dX10_areWithHums_16 : decode cX10_areWithHums 16 = .ok (.getfield 69, 3) := by decide +kernel
theorem dX10_areWithHums_19 : decode cX10_areWithHums 19 = .ok (.iload_n 1, 1) := by decide +kernel
theorem dX10_areWithHums_20 : decode cX10_areWithHums 20 = .ok (.iaload, 1) := by decide +kernel
theorem dX10_areWithHums_21 : decode cX10_areWithHums 21 = .ok (.invokevirtual 109, 3) := by decide +kernel
theorem dX10_areWithHums_24 : decode cX10_areWithHums 24 = .ok (.iconst (-1), 1) := by decide +kernel
theorem dX10_areWithHums_25 : decode cX10_areWithHums 25 = .ok (.if_icmp .eq 7, 3) := by decide +kernel
theorem dX10_areWithHums_28 : decode cX10_areWithHums 28 = .ok (.iconst 1, 1) := by decide +kernel
theorem dX10_areWithHums_29 : decode cX10_areWithHums 29 = .ok (.goto 4, 3) := by decide +kernel
theorem dX10_areWithHums_32 : decode cX10_areWithHums 32 = .ok (.iconst 0, 1) := by decide +kernel
theorem dX10_areWithHums_33 : decode cX10_areWithHums 33 = .ok (.ireturn, 1) := by decide +kernel
theorem dX10_cannotBoth_0 : decode cX10_cannotBoth 0 = .ok (.aload_n 0, 1) := by decide +kernel
theorem dX10_cannotBoth_1 : decode cX10_cannotBoth 1 = .ok (.getfield 66, 3) := by decide +kernel
theorem dX10_cannotBoth_4 : decode cX10_cannotBoth 4 = .ok (.iload_n 1, 1) := by decide +kernel
theorem dX10_cannotBoth_5 : decode cX10_cannotBoth 5 = .ok (.iaload, 1) := by decide +kernel
theorem dX10_cannotBoth_6 : decode cX10_cannotBoth 6 = .ok (.aload_n 0, 1) := by decide +kernel
theorem dX10_cannotBoth_7 : decode cX10_cannotBoth 7 = .ok (.getfield 66, 3) := by decide +kernel
theorem dX10_cannotBoth_10 : decode cX10_cannotBoth 10 = .ok (.iload_n 2, 1) := by decide +kernel
theorem dX10_cannotBoth_11 : decode cX10_cannotBoth 11 = .ok (.iaload, 1) := by decide +kernel
theorem dX10_cannotBoth_12 : decode cX10_cannotBoth 12 = .ok (.if_icmp .eq 48, 3) := by decide +kernel
theorem dX10_cannotBoth_15 : decode cX10_cannotBoth 15 = .ok (.aload_n 0, 1) := by decide +kernel
theorem dX10_cannotBoth_16 : decode cX10_cannotBoth 16 = .ok (.getfield 66, 3) := by decide +kernel
theorem dX10_cannotBoth_19 : decode cX10_cannotBoth 19 = .ok (.iload_n 1, 1) := by decide +kernel
theorem dX10_cannotBoth_20 : decode cX10_cannotBoth 20 = .ok (.iaload, 1) := by decide +kernel
theorem dX10_cannotBoth_21 : decode cX10_cannotBoth 21 = .ok (.aload_n 0, 1) := by decide +kernel
theorem dX10_cannotBoth_22 : decode cX10_cannotBoth 22 = .ok (.getfield 69, 3) := by decide +kernel
theorem dX10_cannotBoth_25 : decode cX10_cannotBoth 25 = .ok (.iload_n 2, 1) := by decide +kernel
theorem dX10_cannotBoth_26 : decode cX10_cannotBoth 26 = .ok (.iaload, 1) := by decide +kernel
theorem dX10_cannotBoth_27 : decode cX10_cannotBoth 27 = .ok (.if_icmp .eq 33, 3) := by decide +kernel
theorem dX10_cannotBoth_30 : decode cX10_cannotBoth 30 = .ok (.aload_n 0, 1) := by decide +kernel
theorem dX10_cannotBoth_31 : decode cX10_cannotBoth 31 = .ok (.getfield 69, 3) := by decide +kernel
theorem dX10_cannotBoth_34 : decode cX10_cannotBoth 34 = .ok (.iload_n 1, 1) := by decide +kernel
theorem dX10_cannotBoth_35 : decode cX10_cannotBoth 35 = .ok (.iaload, 1) := by decide +kernel
theorem dX10_cannotBoth_36 : decode cX10_cannotBoth 36 = .ok (.aload_n 0, 1) := by decide +kernel
theorem dX10_cannotBoth_37 : decode cX10_cannotBoth 37 = .ok (.getfield 66, 3) := by decide +kernel
theorem dX10_cannotBoth_40 : decode cX10_cannotBoth 40 = .ok (.iload_n 2, 1) := by decide +kernel
theorem dX10_cannotBoth_41 : decode cX10_cannotBoth 41 = .ok (.iaload, 1) := by decide +kernel
theorem dX10_cannotBoth_42 : decode cX10_cannotBoth 42 = .ok (.if_icmp .eq 18, 3) := by decide +kernel
theorem dX10_cannotBoth_45 : decode cX10_cannotBoth 45 = .ok (.aload_n 0, 1) := by decide +kernel
theorem dX10_cannotBoth_46 : decode cX10_cannotBoth 46 = .ok (.getfield 69, 3) := by decide +kernel
theorem dX10_cannotBoth_49 : decode cX10_cannotBoth 49 = .ok (.iload_n 1, 1) := by decide +kernel
theorem dX10_cannotBoth_50 : decode cX10_cannotBoth 50 = .ok (.iaload, 1) := by decide +kernel
theorem dX10_cannotBoth_51 : decode cX10_cannotBoth 51 = .ok (.aload_n 0, 1) := by decide +kernel
theorem dX10_cannotBoth_52 : decode cX10_cannotBoth 52 = .ok (.getfield 69, 3) := by decide +kernel
theorem dX10_cannotBoth_55 : decode cX10_cannotBoth 55 = .ok (.iload_n 2, 1) := by decide +kernel
theorem dX10_cannotBoth_56 : decode cX10_cannotBoth 56 = .ok (.iaload, 1) := by decide +kernel
theorem dX10_cannotBoth_57 : decode cX10_cannotBoth 57 = .ok (.if_icmp .ne 5, 3) := by decide +kernel
theorem dX10_cannotBoth_60 : decode cX10_cannotBoth 60 = .ok (.iconst 1, 1) := by decide +kernel
theorem dX10_cannotBoth_61 : decode cX10_cannotBoth 61 = .ok (.ireturn, 1) := by decide +kernel
theorem dX10_cannotBoth_62 : decode cX10_cannotBoth 62 = .ok (.aload_n 0, 1) := by decide +kernel
theorem dX10_cannotBoth_63 : decode cX10_cannotBoth 63 = .ok (.iload_n 1, 1) := by decide +kernel
theorem dX10_cannotBoth_64 : decode cX10_cannotBoth 64 = .ok (.invokevirtual 272, 3) := by decide +kernel
theorem dX10_cannotBoth_67 : decode cX10_cannotBoth 67 = .ok (.ifCond .eq 68, 3) := by decide +kernel
theorem dX10_cannotBoth_70 : decode cX10_cannotBoth 70 = .ok (.aload_n 0, 1) := by decide +kernel
theorem dX10_cannotBoth_71 : decode cX10_cannotBoth 71 = .ok (.iload_n 2, 1) := by decide +kernel
theorem dX10_cannotBoth_72 : decode cX10_cannotBoth 72 = .ok (.invokevirtual 272, 3) := by decide +kernel
theorem dX10_cannotBoth_75 : decode cX10_cannotBoth 75 = .ok (.ifCond .eq 60, 3) := by decide +kernel
theorem dX10_cannotBoth_78 : decode cX10_cannotBoth 78 = .ok (.aload_n 0, 1) := by decide +kernel
theorem dX10_cannotBoth_79 : decode cX10_cannotBoth 79 = .ok (.aload_n 0, 1) := by decide +kernel
theorem dX10_cannotBoth_80 : decode cX10_cannotBoth 80 = .ok (.aload_n 0, 1) := by decide +kernel
theorem dX10_cannotBoth_81 : decode cX10_cannotBoth 81 = .ok (.getfield 66, 3) := by decide +kernel
theorem dX10_cannotBoth_84 : decode cX10_cannotBoth 84 = .ok (.iload_n 1, 1) := by decide +kernel
theorem dX10_cannotBoth_85 : decode cX10_cannotBoth 85 = .ok (.iaload, 1) := by decide +kernel
theorem dX10_cannotBoth_86 : decode cX10_cannotBoth 86 = .ok (.invokevirtual 109, 3) := by decide +kernel
theorem dX10_cannotBoth_89 : decode cX10_cannotBoth 89 = .ok (.aload_n 0, 1) := by decide +kernel
theorem dX10_cannotBoth_90 : decode cX10_cannotBoth 90 = .ok (.aload_n 0, 1) := by decide +kernel
theorem dX10_cannotBoth_91 : decode cX10_cannotBoth 91 = .ok (.getfield 69, 3) := by decide +kernel
theorem dX10_cannotBoth_94 : decode cX10_cannotBoth 94 = .ok (.iload_n 1, 1) := by decide +kernel
theorem dX10_cannotBoth_95 : decode cX10_cannotBoth 95 = .ok (.iaload, 1) := by decide +kernel
theorem dX10_cannotBoth_96 : decode cX10_cannotBoth 96 = .ok (.invokevirtual 109, 3) := by decide +kernel
theorem dX10_cannotBoth_99 : decode cX10_cannotBoth 99 = .ok (.isub, 1) := by decide +kernel
theorem dX10_cannotBoth_100 : decode cX10_cannotBoth 100 = .ok (.invokevirtual 223, 3) := by decide +kernel
theorem dX10_cannotBoth_103 : decode cX10_cannotBoth 103 = .ok (.aload_n 0, 1) := by decide +kernel
theorem dX10_cannotBoth_104 : decode cX10_cannotBoth 104 = .ok (.aload_n 0, 1) := by decide +kernel
theorem dX10_cannotBoth_105 : decode cX10_cannotBoth 105 = .ok (.aload_n 0, 1) := by decide +kernel
theorem dX10_cannotBoth_106 : decode cX10_cannotBoth 106 = .ok (.getfield 66, 3) := by decide +kernel
theorem dX10_cannotBoth_109 : decode cX10_cannotBoth 109 = .ok (.iload_n 2, 1) := by decide +kernel
theorem dX10_cannotBoth_110 : decode cX10_cannotBoth 110 = .ok (.iaload, 1) := by decide +kernel
theorem dX10_cannotBoth_111 : decode cX10_cannotBoth 111 = .ok (.invokevirtual 109, 3) := by decide +kernel
theorem dX10_cannotBoth_114 : decode cX10_cannotBoth 114 = .ok (.aload_n 0, 1) := by decide +kernel
theorem dX10_cannotBoth_115 : decode cX10_cannotBoth 115 = .ok (.aload_n 0, 1) := by decide +kernel
theorem dX10_cannotBoth_116 : decode cX10_cannotBoth 116 = .ok (.getfield 69, 3) := by decide +kernel
theorem dX10_cannotBoth_119 : decode cX10_cannotBoth 119 = .ok (.iload_n 2, 1) := by decide +kernel
theorem dX10_cannotBoth_120 : decode cX10_cannotBoth 120 = .ok (.iaload, 1) := by decide +kernel
theorem dX10_cannotBoth_121 : decode cX10_cannotBoth 121 = .ok (.invokevirtual 109, 3) := by decide +kernel
theorem dX10_cannotBoth_124 : decode cX10_cannotBoth 124 = .ok (.isub, 1) := by decide +kernel
theorem dX10_cannotBoth_125 : decode cX10_cannotBoth 125 = .ok (.invokevirtual 223, 3) := by decide +kernel
theorem dX10_cannotBoth_128 : decode cX10_cannotBoth 128 = .ok (.if_icmp .ne 7, 3) := by decide +kernel
theorem dX10_cannotBoth_131 : decode cX10_cannotBoth 131 = .ok (.iconst 1, 1) := by decide +kernel
theorem dX10_cannotBoth_132 : decode cX10_cannotBoth 132 = .ok (.goto 4, 3) := by decide +kernel
theorem dX10_cannotBoth_135 : decode cX10_cannotBoth 135 = .ok (.iconst 0, 1) := by decide +kernel
theorem dX10_cannotBoth_136 : decode cX10_cannotBoth 136 = .ok (.ireturn, 1) := by decide +kernel
theorem dX10_canHave_0 : decode cX10_canHave 0 = .ok (.iconst 0, 1) := by decide +kernel
theorem dX10_canHave_1 : decode cX10_canHave 1 = .ok (.istore_n 3, 1) := by decide +kernel
theorem dX10_canHave_2 : decode cX10_canHave 2 = .ok (.iload_n 3, 1) := by decide +kernel
theorem dX10_canHave_3 : decode cX10_canHave 3 = .ok (.iload_n 1, 1) := by decide +kernel
theorem dX10_canHave_4 : decode cX10_canHave 4 = .ok (.if_icmp .ge 30, 3) := by decide +kernel
theorem dX10_canHave_7 : decode cX10_canHave 7 = .ok (.aload_n 0, 1) := by decide +kernel
theorem dX10_canHave_8 : decode cX10_canHave 8 = .ok (.getfield 72, 3) := by decide +kernel
theorem dX10_canHave_11 : decode cX10_canHave 11 = .ok (.iload_n 3, 1) := by decide +kernel
theorem dX10_canHave_12 : decode cX10_canHave 12 = .ok (.iaload, 1) := by decide +kernel
theorem dX10_canHave_13 : decode cX10_canHave 13 = .ok (.iload_n 2, 1) := by decide +kernel
theorem dX10_canHave_14 : decode cX10_canHave 14 = .ok (.if_icmp .ne 14, 3) := by decide +kernel
theorem dX10_canHave_17 : decode cX10_canHave 17 = .ok (.aload_n 0, 1) := by decide +kernel
theorem dX10_canHave_18 : decode cX10_canHave 18 = .ok (.iload_n 1, 1) := by decide +kernel
theorem dX10_canHave_19 : decode cX10_canHave 19 = .ok (.iload_n 3, 1) := by decide +kernel
theorem dX10_canHave_20 : decode cX10_canHave 20 = .ok (.invokevirtual 275, 3) := by decide +kernel
theorem dX10_canHave_23 : decode cX10_canHave 23 = .ok (.ifCond .eq 5, 3) := by decide +kernel
theorem dX10_canHave_26 : decode cX10_canHave 26 = .ok (.iconst 0, 1) := by decide +kernel
theorem dX10_canHave_27 : decode cX10_canHave 27 = .ok (.ireturn, 1) := by decide +kernel
theorem dX10_canHave_28 : decode cX10_canHave 28 = .ok (.iinc 3 1, 3) := by decide +kernel
theorem dX10_canHave_31 : decode cX10_canHave 31 = .ok (.goto (-29), 3) := by decide +kernel
theorem dX10_canHave_34 : decode cX10_canHave 34 = .ok (.iconst 1, 1) := by decide +kernel
theorem dX10_canHave_35 : decode cX10_canHave 35 = .ok (.ireturn, 1) := by decide +kernel
theorem dX10_canAll_0 : decode cX10_canAll 0 = .ok (.iconst 0, 1) := by decide +kernel
theorem dX10_canAll_1 : decode cX10_canAll 1 = .ok (.istore_n 2, 1) := by decide +kernel
theorem dX10_canAll_2 : decode cX10_canAll 2 = .ok (.iconst 0, 1) := by decide +kernel
theorem dX10_canAll_3 : decode cX10_canAll 3 = .ok (.istore_n 3, 1) := by decide +kernel
theorem dX10_canAll_4 : decode cX10_canAll 4 = .ok (.iload_n 3, 1) := by decide +kernel
theorem dX10_canAll_5 : decode cX10_canAll 5 = .ok (.bipush 8, 2) := by decide +kernel
theorem dX10_canAll_7 : decode cX10_canAll 7 = .ok (.if_icmp .ge 16, 3) := by decide +kernel
theorem dX10_canAll_10 : decode cX10_canAll 10 = .ok (.aload_n 0, 1) := by decide +kernel
theorem dX10_canAll_11 : decode cX10_canAll 11 = .ok (.getfield 72, 3) := by decide +kernel
theorem dX10_canAll_14 : decode cX10_canAll 14 = .ok (.iload_n 3, 1) := by decide +kernel
theorem dX10_canAll_15 : decode cX10_canAll 15 = .ok (.iconst 0, 1) := by decide +kernel
theorem dX10_canAll_16 : decode cX10_canAll 16 = .ok (.iastore, 1) := by decide +kernel
theorem dX10_canAll_17 : decode cX10_canAll 17 = .ok (.iinc 3 1, 3) := by decide +kernel
theorem dX10_canAll_20 : decode cX10_canAll 20 = .ok (.goto (-16), 3) := by decide +kernel
theorem dX10_canAll_23 : decode cX10_canAll 23 = .ok (.iload_n 2, 1) := by decide +kernel
theorem dX10_canAll_24 : decode cX10_canAll 24 = .ok (.ifCond .lt 75, 3) := by decide +kernel
theorem dX10_canAll_27 : decode cX10_canAll 27 = .ok (.iload_n 2, 1) := by decide +kernel
theorem dX10_canAll_28 : decode cX10_canAll 28 = .ok (.aload_n 0, 1) := by decide +kernel
theorem dX10_canAll_29 : decode cX10_canAll 29 = .ok (.getfield 269, 3) := by decide +kernel
theorem dX10_canAll_32 : decode cX10_canAll 32 = .ok (.if_icmp .ge 67, 3) := by decide +kernel
theorem dX10_canAll_35 : decode cX10_canAll 35 = .ok (.aload_n 0, 1) := by decide +kernel
theorem dX10_canAll_36 : decode cX10_canAll 36 = .ok (.getfield 72, 3) := by decide +kernel
theorem dX10_canAll_39 : decode cX10_canAll 39 = .ok (.iload_n 2, 1) := by decide +kernel
theorem dX10_canAll_40 : decode cX10_canAll 40 = .ok (.iaload, 1) := by decide +kernel
theorem dX10_canAll_41 : decode cX10_canAll 41 = .ok (.iconst 1, 1) := by decide +kernel
theorem dX10_canAll_42 : decode cX10_canAll 42 = .ok (.iadd, 1) := by decide +kernel
theorem dX10_canAll_43 : decode cX10_canAll 43 = .ok (.istore_n 3, 1) := by decide +kernel
theorem dX10_canAll_44 : decode cX10_canAll 44 = .ok (.iload_n 3, 1) := by decide +kernel
theorem dX10_canAll_45 : decode cX10_canAll 45 = .ok (.iload_n 1, 1) := by decide +kernel
theorem dX10_canAll_46 : decode cX10_canAll 46 = .ok (.if_icmp .gt 19, 3) := by decide +kernel
theorem dX10_canAll_49 : decode cX10_canAll 49 = .ok (.aload_n 0, 1) := by decide +kernel
theorem dX10_canAll_50 : decode cX10_canAll 50 = .ok (.iload_n 2, 1) := by decide +kernel
theorem dX10_canAll_51 : decode cX10_canAll 51 = .ok (.iload_n 3, 1) := by decide +kernel
theorem dX10_canAll_52 : decode cX10_canAll 52 = .ok (.invokevirtual 278, 3) := by decide +kernel
theorem dX10_canAll_55 : decode cX10_canAll 55 = .ok (.ifCond .ne 10, 3) := by decide +kernel
theorem dX10_canAll_58 : decode cX10_canAll 58 = .ok (.iload_n 3, 1) := by decide +kernel
theorem dX10_canAll_59 : decode cX10_canAll 59 = .ok (.iconst 1, 1) := by decide +kernel
theorem dX10_canAll_60 : decode cX10_canAll 60 = .ok (.iadd, 1) := by decide +kernel
theorem dX10_canAll_61 : decode cX10_canAll 61 = .ok (.istore_n 3, 1) := by decide +kernel
theorem dX10_canAll_62 : decode cX10_canAll 62 = .ok (.goto (-18), 3) := by decide +kernel
theorem dX10_canAll_65 : decode cX10_canAll 65 = .ok (.aload_n 0, 1) := by decide +kernel
theorem dX10_canAll_66 : decode cX10_canAll 66 = .ok (.getfield 72, 3) := by decide +kernel
theorem dX10_canAll_69 : decode cX10_canAll 69 = .ok (.iload_n 2, 1) := by decide +kernel
theorem dX10_canAll_70 : decode cX10_canAll 70 = .ok (.iload_n 3, 1) := by decide +kernel
theorem dX10_canAll_71 : decode cX10_canAll 71 = .ok (.iload_n 1, 1) := by decide +kernel
theorem dX10_canAll_72 : decode cX10_canAll 72 = .ok (.if_icmp .gt 7, 3) := by decide +kernel
theorem dX10_canAll_75 : decode cX10_canAll 75 = .ok (.iload_n 3, 1) := by decide +kernel
theorem dX10_canAll_76 : decode cX10_canAll 76 = .ok (.goto 4, 3) := by decide +kernel
theorem dX10_canAll_79 : decode cX10_canAll 79 = .ok (.iconst 0, 1) := by decide +kernel
theorem dX10_canAll_80 : decode cX10_canAll 80 = .ok (.iastore, 1) := by decide +kernel
theorem dX10_canAll_81 : decode cX10_canAll 81 = .ok (.iload_n 3, 1) := by decide +kernel
theorem dX10_canAll_82 : decode cX10_canAll 82 = .ok (.iload_n 1, 1) := by decide +kernel
theorem dX10_canAll_83 : decode cX10_canAll 83 = .ok (.if_icmp .gt 9, 3) := by decide +kernel
theorem dX10_canAll_86 : decode cX10_canAll 86 = .ok (.iload_n 2, 1) := by decide +kernel
theorem dX10_canAll_87 : decode cX10_canAll 87 = .ok (.iconst 1, 1) := by decide +kernel
theorem dX10_canAll_88 : decode cX10_canAll 88 = .ok (.iadd, 1) := by decide +kernel
theorem dX10_canAll_89 : decode cX10_canAll 89 = .ok (.goto 6, 3) := by decide +kernel
theorem dX10_canAll_92 : decode cX10_canAll 92 = .ok (.iload_n 2, 1) := by decide +kernel
theorem dX10_canAll_93 : decode cX10_canAll 93 = .ok (.iconst 1, 1) := by decide +kernel
theorem dX10_canAll_94 : decode cX10_canAll 94 = .ok (.isub, 1) := by decide +kernel
theorem dX10_canAll_95 : decode cX10_canAll 95 = .ok (.istore_n 2, 1) := by decide +kernel
theorem dX10_canAll_96 : decode cX10_canAll 96 = .ok (.goto (-73), 3) := by decide +kernel
theorem dX10_canAll_99 : decode cX10_canAll 99 = .ok (.iload_n 2, 1) := by decide +kernel
theorem dX10_canAll_100 : decode cX10_canAll 100 = .ok (.aload_n 0, 1) := by decide +kernel
theorem dX10_canAll_101 : decode cX10_canAll 101 = .ok (.getfield 269, 3) := by decide +kernel
theorem dX10_canAll_104 : decode cX10_canAll 104 = .ok (.if_icmp .ne 7, 3) := by decide +kernel
theorem dX10_canAll_107 : decode cX10_canAll 107 = .ok (.iconst 1, 1) := by decide +kernel
theorem dX10_canAll_108 : decode cX10_canAll 108 = .ok (.goto 4, 3) := by decide +kernel
theorem dX10_canAll_111 : decode cX10_canAll 111 = .ok (.iconst 0, 1) := by decide +kernel
theorem dX10_canAll_112 : decode cX10_canAll 112 = .ok (.ireturn, 1) := by decide +kernel
theorem dX10_turnOf_0 : decode cX10_turnOf 0 = .ok (.aload_n 0, 1) := by decide +kernel
theorem dX10_turnOf_1 : decode cX10_turnOf 1 = .ok (.iconst 0, 1) := by decide +kernel
theorem dX10_turnOf_2 : decode cX10_turnOf 2 = .ok (.putfield 90, 3) := by decide +kernel
theorem dX10_turnOf_5 : decode cX10_turnOf 5 = .ok (.iload_n 1, 1) := by decide +kernel
theorem dX10_turnOf_6 : decode cX10_turnOf 6 = .ok (.ifCond .eq 22, 3) := by decide +kernel
theorem dX10_turnOf_9 : decode cX10_turnOf 9 = .ok (.aload_n 0, 1) := by decide +kernel
theorem dX10_turnOf_10 : decode cX10_turnOf 10 = .ok (.iload_n 1, 1) := by decide +kernel
theorem dX10_turnOf_11 : decode cX10_turnOf 11 = .ok (.bipush 10, 2) := by decide +kernel
theorem dX10_turnOf_13 : decode cX10_turnOf 13 = .ok (.bipush 9, 2) := by decide +kernel
theorem dX10_turnOf_15 : decode cX10_turnOf 15 = .ok (.aload_n 0, 1) := by decide +kernel
theorem dX10_turnOf_16 : decode cX10_turnOf 16 = .ok (.getfield 269, 3) := by decide +kernel
theorem dX10_turnOf_19 : decode cX10_turnOf 19 = .ok (.iadd, 1) := by decide +kernel
theorem dX10_turnOf_20 : decode cX10_turnOf 20 = .ok (.invokevirtual 101, 3) := by decide +kernel
theorem dX10_turnOf_23 : decode cX10_turnOf 23 = .ok (.ifCond .ne 5, 3) := by decide +kernel
theorem dX10_turnOf_26 : decode cX10_turnOf 26 = .ok (.iconst (-1), 1) := by decide +kernel
theorem dX10_turnOf_27 : decode cX10_turnOf 27 = .ok (.ireturn, 1) := by decide +kernel
theorem dX10_turnOf_28 : decode cX10_turnOf 28 = .ok (.iconst 0, 1) := by decide +kernel
theorem dX10_turnOf_29 : decode cX10_turnOf 29 = .ok (.istore_n 2, 1) := by decide +kernel
theorem dX10_turnOf_30 : decode cX10_turnOf 30 = .ok (.aload_n 0, 1) := by decide +kernel
theorem dX10_turnOf_31 : decode cX10_turnOf 31 = .ok (.iload_n 2, 1) := by decide +kernel
theorem dX10_turnOf_32 : decode cX10_turnOf 32 = .ok (.invokevirtual 281, 3) := by decide +kernel
theorem dX10_turnOf_35 : decode cX10_turnOf 35 = .ok (.ifCond .ne 10, 3) := by decide +kernel
theorem dX10_turnOf_38 : decode cX10_turnOf 38 = .ok (.iload_n 2, 1) := by decide +kernel
theorem dX10_turnOf_39 : decode cX10_turnOf 39 = .ok (.iconst 1, 1) := by decide +kernel
theorem dX10_turnOf_40 : decode cX10_turnOf 40 = .ok (.iadd, 1) := by decide +kernel
theorem dX10_turnOf_41 : decode cX10_turnOf 41 = .ok (.istore_n 2, 1) := by decide +kernel
theorem dX10_turnOf_42 : decode cX10_turnOf 42 = .ok (.goto (-12), 3) := by decide +kernel
theorem dX10_turnOf_45 : decode cX10_turnOf 45 = .ok (.iload_n 1, 1) := by decide +kernel
theorem dX10_turnOf_46 : decode cX10_turnOf 46 = .ok (.ifCond .ne 7, 3) := by decide +kernel
theorem dX10_turnOf_49 : decode cX10_turnOf 49 = .ok (.iload_n 2, 1) := by decide +kernel
theorem dX10_turnOf_50 : decode cX10_turnOf 50 = .ok (.goto 12, 3) := by decide +kernel
theorem dX10_turnOf_53 : decode cX10_turnOf 53 = .ok (.aload_n 0, 1) := by decide +kernel
theorem dX10_turnOf_54 : decode cX10_turnOf 54 = .ok (.getfield 72, 3) := by decide +kernel
theorem dX10_turnOf_57 : decode cX10_turnOf 57 = .ok (.iload_n 1, 1) := by decide +kernel
theorem dX10_turnOf_58 : decode cX10_turnOf 58 = .ok (.bipush 10, 2) := by decide +kernel
theorem dX10_turnOf_60 : decode cX10_turnOf 60 = .ok (.isub, 1) := by decide +kernel
theorem dX10_turnOf_61 : decode cX10_turnOf 61 = .ok (.iaload, 1) := by decide +kernel
theorem dX10_turnOf_62 : decode cX10_turnOf 62 = .ok (.ireturn, 1) := by decide +kernel
theorem dX10_tell_0 : decode cX10_tell 0 = .ok (.aload_n 0, 1) := by decide +kernel
theorem dX10_tell_1 : decode cX10_tell 1 = .ok (.iconst 0, 1) := by decide +kernel
theorem dX10_tell_2 : decode cX10_tell 2 = .ok (.putfield 90, 3) := by decide +kernel
theorem dX10_tell_5 : decode cX10_tell 5 = .ok (.iload_n 1, 1) := by decide +kernel
theorem dX10_tell_6 : decode cX10_tell 6 = .ok (.iconst (-1), 1) := by decide +kernel
theorem dX10_tell_7 : decode cX10_tell 7 = .ok (.if_icmp .ne 10, 3) := by decide +kernel
theorem dX10_tell_10 : decode cX10_tell 10 = .ok (.aload_n 0, 1) := by decide +kernel
theorem dX10_tell_11 : decode cX10_tell 11 = .ok (.iconst 0, 1) := by decide +kernel
theorem dX10_tell_12 : decode cX10_tell 12 = .ok (.putfield 284, 3) := by decide +kernel
theorem dX10_tell_15 : decode cX10_tell 15 = .ok (.iconst 0, 1) := by decide +kernel
theorem dX10_tell_16 : decode cX10_tell 16 = .ok (.ireturn, 1) := by decide +kernel
theorem dX10_tell_17 : decode cX10_tell 17 = .ok (.aload_n 0, 1) := by decide +kernel
theorem dX10_tell_18 : decode cX10_tell 18 = .ok (.iload_n 1, 1) := by decide +kernel
theorem dX10_tell_19 : decode cX10_tell 19 = .ok (.iconst 1, 1) := by decide +kernel
theorem dX10_tell_20 : decode cX10_tell 20 = .ok (.bipush 24, 2) := by decide +kernel
theorem dX10_tell_22 : decode cX10_tell 22 = .ok (.invokevirtual 101, 3) := by decide +kernel
theorem dX10_tell_25 : decode cX10_tell 25 = .ok (.ifCond .eq 12, 3) := by decide +kernel
theorem dX10_tell_28 : decode cX10_tell 28 = .ok (.aload_n 0, 1) := by decide +kernel
theorem dX10_tell_29 : decode cX10_tell 29 = .ok (.getfield 284, 3) := by decide +kernel
theorem dX10_tell_32 : decode cX10_tell 32 = .ok (.bipush 15, 2) := by decide +kernel
theorem dX10_tell_34 : decode cX10_tell 34 = .ok (.if_icmp .ne 5, 3) := by decide +kernel
theorem dX10_tell_37 : decode cX10_tell 37 = .ok (.iconst (-1), 1) := by decide +kernel
theorem dX10_tell_38 : decode cX10_tell 38 = .ok (.ireturn, 1) := by decide +kernel
theorem dX10_tell_39 : decode cX10_tell 39 = .ok (.aload_n 0, 1) := by decide +kernel
theorem dX10_tell_40 : decode cX10_tell 40 = .ok (.getfield 75, 3) := by decide +kernel
theorem dX10_tell_43 : decode cX10_tell 43 = .ok (.aload_n 0, 1) := by decide +kernel
theorem dX10_tell_44 : decode cX10_tell 44 = .ok (.getfield 284, 3) := by decide +kernel
theorem dX10_tell_47 : decode cX10_tell 47 = .ok (.iload_n 1, 1) := by decide +kernel
theorem dX10_tell_48 : decode cX10_tell 48 = .ok (.iastore, 1) := by decide +kernel
theorem dX10_tell_49 : decode cX10_tell 49 = .ok (.aload_n 0, 1) := by decide +kernel
theorem dX10_tell_50 : decode cX10_tell 50 = .ok (.aload_n 0, 1) := by decide +kernel
theorem dX10_tell_51 : decode cX10_tell 51 = .ok (.getfield 284, 3) := by decide +kernel
theorem dX10_tell_54 : decode cX10_tell 54 = .ok (.iconst 1, 1) := by decide +kernel
theorem dX10_tell_55 : decode cX10_tell 55 = .ok (.iadd, 1) := by decide +kernel
theorem dX10_tell_56 : decode cX10_tell 56 = .ok (.putfield 284, 3) := by decide +kernel
theorem dX10_tell_59 : decode cX10_tell 59 = .ok (.aload_n 0, 1) := by decide +kernel
theorem dX10_tell_60 : decode cX10_tell 60 = .ok (.getfield 284, 3) := by decide +kernel
theorem dX10_tell_63 : decode cX10_tell 63 = .ok (.ireturn, 1) := by decide +kernel
theorem dX10_firstRow_0 : decode cX10_firstRow 0 = .ok (.iconst 0, 1) := by decide +kernel
theorem dX10_firstRow_1 : decode cX10_firstRow 1 = .ok (.istore_n 2, 1) := by decide +kernel
theorem dX10_firstRow_2 : decode cX10_firstRow 2 = .ok (.iload_n 2, 1) := by decide +kernel
theorem dX10_firstRow_3 : decode cX10_firstRow 3 = .ok (.iload_n 1, 1) := by decide +kernel
theorem dX10_firstRow_4 : decode cX10_firstRow 4 = .ok (.if_icmp .ge 16, 3) := by decide +kernel
theorem dX10_firstRow_7 : decode cX10_firstRow 7 = .ok (.aload_n 0, 1) := by decide +kernel
theorem dX10_firstRow_8 : decode cX10_firstRow 8 = .ok (.getfield 78, 3) := by decide +kernel
theorem dX10_firstRow_11 : decode cX10_firstRow 11 = .ok (.iload_n 2, 1) := by decide +kernel
theorem dX10_firstRow_12 : decode cX10_firstRow 12 = .ok (.iload_n 2, 1) := by decide +kernel
theorem dX10_firstRow_13 : decode cX10_firstRow 13 = .ok (.iastore, 1) := by decide +kernel
theorem dX10_firstRow_14 : decode cX10_firstRow 14 = .ok (.iinc 2 1, 3) := by decide +kernel
theorem dX10_firstRow_17 : decode cX10_firstRow 17 = .ok (.goto (-15), 3) := by decide +kernel
theorem dX10_firstRow_20 : decode cX10_firstRow 20 = .ok (.return_, 1) := by decide +kernel
theorem dX10_nextRow_0 : decode cX10_nextRow 0 = .ok (.iload_n 1, 1) := by decide +kernel
theorem dX10_nextRow_1 : decode cX10_nextRow 1 = .ok (.iconst 1, 1) := by decide +kernel
theorem dX10_nextRow_2 : decode cX10_nextRow 2 = .ok (.isub, 1) := by decide +kernel
theorem dX10_nextRow_3 : decode cX10_nextRow 3 = .ok (.istore_n 3, 1) := by decide +kernel
theorem dX10_nextRow_4 : decode cX10_nextRow 4 = .ok (.iload_n 3, 1) := by decide +kernel
theorem dX10_nextRow_5 : decode cX10_nextRow 5 = .ok (.ifCond .le 26, 3) := by decide +kernel
theorem dX10_nextRow_8 : decode cX10_nextRow 8 = .ok (.aload_n 0, 1) := by decide +kernel
theorem dX10_nextRow_9 : decode cX10_nextRow 9 = .ok (.getfield 78, 3) := by decide +kernel
theorem dX10_nextRow_12 : decode cX10_nextRow 12 = .ok (.iload_n 3, 1) := by decide +kernel
theorem dX10_nextRow_13 : decode cX10_nextRow 13 = .ok (.iaload, 1) := by decide +kernel
theorem dX10_nextRow_14 : decode cX10_nextRow 14 = .ok (.iload_n 2, 1) := by decide +kernel
theorem dX10_nextRow_15 : decode cX10_nextRow 15 = .ok (.iload_n 1, 1) := by decide +kernel
theorem dX10_nextRow_16 : decode cX10_nextRow 16 = .ok (.iconst 1, 1) := by decide +kernel
theorem dX10_nextRow_17 : decode cX10_nextRow 17 = .ok (.isub, 1) := by decide +kernel
theorem dX10_nextRow_18 : decode cX10_nextRow 18 = .ok (.iload_n 3, 1) := by decide +kernel
theorem dX10_nextRow_19 : decode cX10_nextRow 19 = .ok (.isub, 1) := by decide +kernel
theorem dX10_nextRow_20 : decode cX10_nextRow 20 = .ok (.isub, 1) := by decide +kernel
theorem dX10_nextRow_21 : decode cX10_nextRow 21 = .ok (.if_icmp .ne 10, 3) := by decide +kernel
theorem dX10_nextRow_24 : decode cX10_nextRow 24 = .ok (.iload_n 3, 1) := by decide +kernel
theorem dX10_nextRow_25 : decode cX10_nextRow 25 = .ok (.iconst 1, 1) := by decide +kernel
theorem dX10_nextRow_26 : decode cX10_nextRow 26 = .ok (.isub, 1) := by decide +kernel
theorem dX10_nextRow_27 : decode cX10_nextRow 27 = .ok (.istore_n 3, 1) := by decide +kernel
theorem dX10_nextRow_28 : decode cX10_nextRow 28 = .ok (.goto (-24), 3) := by decide +kernel
theorem dX10_nextRow_31 : decode cX10_nextRow 31 = .ok (.iload_n 3, 1) := by decide +kernel
theorem dX10_nextRow_32 : decode cX10_nextRow 32 = .ok (.ifCond .gt 5, 3) := by decide +kernel
theorem dX10_nextRow_35 : decode cX10_nextRow 35 = .ok (.iconst 0, 1) := by decide +kernel
theorem dX10_nextRow_36 : decode cX10_nextRow 36 = .ok (.ireturn, 1) := by decide +kernel
theorem dX10_nextRow_37 : decode cX10_nextRow 37 = .ok (.aload_n 0, 1) := by decide +kernel
theorem dX10_nextRow_38 : decode cX10_nextRow 38 = .ok (.getfield 78, 3) := by decide +kernel
theorem dX10_nextRow_41 : decode cX10_nextRow 41 = .ok (.iload_n 3, 1) := by decide +kernel
theorem dX10_nextRow_42 : decode cX10_nextRow 42 = .ok (.aload_n 0, 1) := by decide +kernel
theorem dX10_nextRow_43 : decode cX10_nextRow 43 = .ok (.getfield 78, 3) := by decide +kernel
theorem dX10_nextRow_46 : decode cX10_nextRow 46 = .ok (.iload_n 3, 1) := by decide +kernel
theorem dX10_nextRow_47 : decode cX10_nextRow 47 = .ok (.iaload, 1) := by decide +kernel
theorem dX10_nextRow_48 : decode cX10_nextRow 48 = .ok (.iconst 1, 1) := by decide +kernel
theorem dX10_nextRow_49 : decode cX10_nextRow 49 = .ok (.iadd, 1) := by decide +kernel
theorem dX10_nextRow_50 : decode cX10_nextRow 50 = .ok (.iastore, 1) := by decide +kernel
theorem dX10_nextRow_51 : decode cX10_nextRow 51 = .ok (.iload_n 3, 1) := by decide +kernel
theorem dX10_nextRow_52 : decode cX10_nextRow 52 = .ok (.iconst 1, 1) := by decide +kernel
theorem dX10_nextRow_53 : decode cX10_nextRow 53 = .ok (.iadd, 1) := by decide +kernel
theorem dX10_nextRow_54 : decode cX10_nextRow 54 = .ok (.istore 4, 2) := by decide +kernel
theorem dX10_nextRow_56 : decode cX10_nextRow 56 = .ok (.iload 4, 2) := by decide +kernel
theorem dX10_nextRow_58 : decode cX10_nextRow 58 = .ok (.iload_n 1, 1) := by decide +kernel
theorem dX10_nextRow_59 : decode cX10_nextRow 59 = .ok (.if_icmp .ge 27, 3) := by decide +kernel
theorem dX10_nextRow_62 : decode cX10_nextRow 62 = .ok (.aload_n 0, 1) := by decide +kernel
theorem dX10_nextRow_63 : decode cX10_nextRow 63 = .ok (.getfield 78, 3) := by decide +kernel
theorem dX10_nextRow_66 : decode cX10_nextRow 66 = .ok (.iload 4, 2) := by decide +kernel
theorem dX10_nextRow_68 : decode cX10_nextRow 68 = .ok (.aload_n 0, 1) := by decide +kernel
theorem dX10_nextRow_69 : decode cX10_nextRow 69 = .ok (.getfield 78, 3) := by decide +kernel
theorem dX10_nextRow_72 : decode cX10_nextRow 72 = .ok (.iload 4, 2) := by decide +kernel
theorem dX10_nextRow_74 : decode cX10_nextRow 74 = .ok (.iconst 1, 1) := by decide +kernel
theorem dX10_nextRow_75 : decode cX10_nextRow 75 = .ok (.isub, 1) := by decide +kernel
theorem dX10_nextRow_76 : decode cX10_nextRow 76 = .ok (.iaload, 1) := by decide +kernel
theorem dX10_nextRow_77 : decode cX10_nextRow 77 = .ok (.iconst 1, 1) := by decide +kernel
theorem dX10_nextRow_78 : decode cX10_nextRow 78 = .ok (.iadd, 1) := by decide +kernel
theorem dX10_nextRow_79 : decode cX10_nextRow 79 = .ok (.iastore, 1) := by decide +kernel
theorem dX10_nextRow_80 : decode cX10_nextRow 80 = .ok (.iinc 4 1, 3) := by decide +kernel
theorem dX10_nextRow_83 : decode cX10_nextRow 83 = .ok (.goto (-27), 3) := by decide +kernel
theorem dX10_nextRow_86 : decode cX10_nextRow 86 = .ok (.iconst 1, 1) := by decide +kernel
theorem dX10_nextRow_87 : decode cX10_nextRow 87 = .ok (.ireturn, 1) := by decide +kernel
theorem dX10_countsWords_0 : decode cX10_countsWords 0 = .ok (.iconst 0, 1) := by decide +kernel
theorem dX10_countsWords_1 : decode cX10_countsWords 1 = .ok (.istore_n 2, 1) := by decide +kernel
theorem dX10_countsWords_2 : decode cX10_countsWords 2 = .ok (.iload_n 2, 1) := by decide +kernel
theorem dX10_countsWords_3 : decode cX10_countsWords 3 = .ok (.bipush 61, 2) := by decide +kernel
theorem dX10_countsWords_5 : decode cX10_countsWords 5 = .ok (.if_icmp .ge 16, 3) := by decide +kernel
theorem dX10_countsWords_8 : decode cX10_countsWords 8 = .ok (.aload_n 0, 1) := by decide +kernel
theorem dX10_countsWords_9 : decode cX10_countsWords 9 = .ok (.getfield 81, 3) := by decide +kernel
theorem dX10_countsWords_12 : decode cX10_countsWords 12 = .ok (.iload_n 2, 1) := by decide +kernel
theorem dX10_countsWords_13 : decode cX10_countsWords 13 = .ok (.iconst 0, 1) := by decide +kernel
theorem dX10_countsWords_14 : decode cX10_countsWords 14 = .ok (.iastore, 1) := by decide +kernel
theorem dX10_countsWords_15 : decode cX10_countsWords 15 = .ok (.iinc 2 1, 3) := by decide +kernel
theorem dX10_countsWords_18 : decode cX10_countsWords 18 = .ok (.goto (-16), 3) := by decide +kernel
theorem dX10_countsWords_21 : decode cX10_countsWords 21 = .ok (.iconst 0, 1) := by decide +kernel
theorem dX10_countsWords_22 : decode cX10_countsWords 22 = .ok (.istore_n 2, 1) := by decide +kernel
theorem dX10_countsWords_23 : decode cX10_countsWords 23 = .ok (.iload_n 2, 1) := by decide +kernel
theorem dX10_countsWords_24 : decode cX10_countsWords 24 = .ok (.iload_n 1, 1) := by decide +kernel
theorem dX10_countsWords_25 : decode cX10_countsWords 25 = .ok (.if_icmp .ge 60, 3) := by decide +kernel
theorem dX10_countsWords_28 : decode cX10_countsWords 28 = .ok (.iconst 0, 1) := by decide +kernel
theorem dX10_countsWords_29 : decode cX10_countsWords 29 = .ok (.istore_n 3, 1) := by decide +kernel
theorem dX10_countsWords_30 : decode cX10_countsWords 30 = .ok (.iload_n 3, 1) := by decide +kernel
theorem dX10_countsWords_31 : decode cX10_countsWords 31 = .ok (.iload_n 2, 1) := by decide +kernel
theorem dX10_countsWords_32 : decode cX10_countsWords 32 = .ok (.if_icmp .ge 47, 3) := by decide +kernel
theorem dX10_countsWords_35 : decode cX10_countsWords 35 = .ok (.aload_n 0, 1) := by decide +kernel
theorem dX10_countsWords_36 : decode cX10_countsWords 36 = .ok (.getfield 81, 3) := by decide +kernel
theorem dX10_countsWords_39 : decode cX10_countsWords 39 = .ok (.aload_n 0, 1) := by decide +kernel
theorem dX10_countsWords_40 : decode cX10_countsWords 40 = .ok (.getfield 78, 3) := by decide +kernel
theorem dX10_countsWords_43 : decode cX10_countsWords 43 = .ok (.iload_n 2, 1) := by decide +kernel
theorem dX10_countsWords_44 : decode cX10_countsWords 44 = .ok (.iaload, 1) := by decide +kernel
theorem dX10_countsWords_45 : decode cX10_countsWords 45 = .ok (.aload_n 0, 1) := by decide +kernel
theorem dX10_countsWords_46 : decode cX10_countsWords 46 = .ok (.getfield 78, 3) := by decide +kernel
theorem dX10_countsWords_49 : decode cX10_countsWords 49 = .ok (.iload_n 3, 1) := by decide +kernel
theorem dX10_countsWords_50 : decode cX10_countsWords 50 = .ok (.iaload, 1) := by decide +kernel
theorem dX10_countsWords_51 : decode cX10_countsWords 51 = .ok (.isub, 1) := by decide +kernel
theorem dX10_countsWords_52 : decode cX10_countsWords 52 = .ok (.aload_n 0, 1) := by decide +kernel
theorem dX10_countsWords_53 : decode cX10_countsWords 53 = .ok (.getfield 81, 3) := by decide +kernel
theorem dX10_countsWords_56 : decode cX10_countsWords 56 = .ok (.aload_n 0, 1) := by decide +kernel
theorem dX10_countsWords_57 : decode cX10_countsWords 57 = .ok (.getfield 78, 3) := by decide +kernel
theorem dX10_countsWords_60 : decode cX10_countsWords 60 = .ok (.iload_n 2, 1) := by decide +kernel
theorem dX10_countsWords_61 : decode cX10_countsWords 61 = .ok (.iaload, 1) := by decide +kernel
theorem dX10_countsWords_62 : decode cX10_countsWords 62 = .ok (.aload_n 0, 1) := by decide +kernel
theorem dX10_countsWords_63 : decode cX10_countsWords 63 = .ok (.getfield 78, 3) := by decide +kernel
theorem dX10_countsWords_66 : decode cX10_countsWords 66 = .ok (.iload_n 3, 1) := by decide +kernel
theorem dX10_countsWords_67 : decode cX10_countsWords 67 = .ok (.iaload, 1) := by decide +kernel
theorem dX10_countsWords_68 : decode cX10_countsWords 68 = .ok (.isub, 1) := by decide +kernel
theorem dX10_countsWords_69 : decode cX10_countsWords 69 = .ok (.iaload, 1) := by decide +kernel
theorem dX10_countsWords_70 : decode cX10_countsWords 70 = .ok (.iconst 1, 1) := by decide +kernel
theorem dX10_countsWords_71 : decode cX10_countsWords 71 = .ok (.iadd, 1) := by decide +kernel
theorem dX10_countsWords_72 : decode cX10_countsWords 72 = .ok (.iastore, 1) := by decide +kernel
theorem dX10_countsWords_73 : decode cX10_countsWords 73 = .ok (.iinc 3 1, 3) := by decide +kernel
theorem dX10_countsWords_76 : decode cX10_countsWords 76 = .ok (.goto (-46), 3) := by decide +kernel
theorem dX10_countsWords_79 : decode cX10_countsWords 79 = .ok (.iinc 2 1, 3) := by decide +kernel
theorem dX10_countsWords_82 : decode cX10_countsWords 82 = .ok (.goto (-59), 3) := by decide +kernel
theorem dX10_countsWords_85 : decode cX10_countsWords 85 = .ok (.return_, 1) := by decide +kernel
theorem dX10_areJustTold_0 : decode cX10_areJustTold 0 = .ok (.iload_n 1, 1) := by decide +kernel
theorem dX10_areJustTold_1 : decode cX10_areJustTold 1 = .ok (.iload_n 1, 1) := by decide +kernel
theorem dX10_areJustTold_2 : decode cX10_areJustTold 2 = .ok (.iconst 1, 1) := by decide +kernel
theorem dX10_areJustTold_3 : decode cX10_areJustTold 3 = .ok (.isub, 1) := by decide +kernel
theorem dX10_areJustTold_4 : decode cX10_areJustTold 4 = .ok (.imul, 1) := by decide +kernel
theorem dX10_areJustTold_5 : decode cX10_areJustTold 5 = .ok (.iconst 2, 1) := by decide +kernel
theorem dX10_areJustTold_6 : decode cX10_areJustTold 6 = .ok (.idiv, 1) := by decide +kernel
theorem dX10_areJustTold_7 : decode cX10_areJustTold 7 = .ok (.aload_n 0, 1) := by decide +kernel
theorem dX10_areJustTold_8 : decode cX10_areJustTold 8 = .ok (.getfield 284, 3) := by decide +kernel
theorem dX10_areJustTold_11 : decode cX10_areJustTold 11 = .ok (.if_icmp .eq 5, 3) := by decide +kernel
theorem dX10_areJustTold_14 : decode cX10_areJustTold 14 = .ok (.iconst 0, 1) := by decide +kernel
theorem dX10_areJustTold_15 : decode cX10_areJustTold 15 = .ok (.ireturn, 1) := by decide +kernel
theorem dX10_areJustTold_16 : decode cX10_areJustTold 16 = .ok (.aload_n 0, 1) := by decide +kernel
theorem dX10_areJustTold_17 : decode cX10_areJustTold 17 = .ok (.iload_n 1, 1) := by decide +kernel
theorem dX10_areJustTold_18 : decode cX10_areJustTold 18 = .ok (.invokevirtual 287, 3) := by decide +kernel
theorem dX10_areJustTold_21 : decode cX10_areJustTold 21 = .ok (.iconst 0, 1) := by decide +kernel
theorem dX10_areJustTold_22 : decode cX10_areJustTold 22 = .ok (.istore_n 2, 1) := by decide +kernel
theorem dX10_areJustTold_23 : decode cX10_areJustTold 23 = .ok (.iload_n 2, 1) := by decide +kernel
theorem dX10_areJustTold_24 : decode cX10_areJustTold 24 = .ok (.aload_n 0, 1) := by decide +kernel
theorem dX10_areJustTold_25 : decode cX10_areJustTold 25 = .ok (.getfield 284, 3) := by decide +kernel
theorem dX10_areJustTold_28 : decode cX10_areJustTold 28 = .ok (.if_icmp .ge 33, 3) := by decide +kernel
theorem dX10_areJustTold_31 : decode cX10_areJustTold 31 = .ok (.aload_n 0, 1) := by decide +kernel
theorem dX10_areJustTold_32 : decode cX10_areJustTold 32 = .ok (.getfield 81, 3) := by decide +kernel
theorem dX10_areJustTold_35 : decode cX10_areJustTold 35 = .ok (.aload_n 0, 1) := by decide +kernel
theorem dX10_areJustTold_36 : decode cX10_areJustTold 36 = .ok (.getfield 75, 3) := by decide +kernel
theorem dX10_areJustTold_39 : decode cX10_areJustTold 39 = .ok (.iload_n 2, 1) := by decide +kernel
theorem dX10_areJustTold_40 : decode cX10_areJustTold 40 = .ok (.iaload, 1) := by decide +kernel
theorem dX10_areJustTold_41 : decode cX10_areJustTold 41 = .ok (.aload_n 0, 1) := by decide +kernel
theorem dX10_areJustTold_42 : decode cX10_areJustTold 42 = .ok (.getfield 81, 3) := by decide +kernel
theorem dX10_areJustTold_45 : decode cX10_areJustTold 45 = .ok (.aload_n 0, 1) := by decide +kernel
theorem dX10_areJustTold_46 : decode cX10_areJustTold 46 = .ok (.getfield 75, 3) := by decide +kernel
theorem dX10_areJustTold_49 : decode cX10_areJustTold 49 = .ok (.iload_n 2, 1) := by decide +kernel
theorem dX10_areJustTold_50 : decode cX10_areJustTold 50 = .ok (.iaload, 1) := by decide +kernel
theorem dX10_areJustTold_51 : decode cX10_areJustTold 51 = .ok (.iaload, 1) := by decide +kernel
theorem dX10_areJustTold_52 : decode cX10_areJustTold 52 = .ok (.iconst 1, 1) := by decide +kernel
theorem dX10_areJustTold_53 : decode cX10_areJustTold 53 = .ok (.isub, 1) := by decide +kernel
theorem dX10_areJustTold_54 : decode cX10_areJustTold 54 = .ok (.iastore, 1) := by decide +kernel
theorem dX10_areJustTold_55 : decode cX10_areJustTold 55 = .ok (.iinc 2 1, 3) := by decide +kernel
theorem dX10_areJustTold_58 : decode cX10_areJustTold 58 = .ok (.goto (-35), 3) := by decide +kernel
theorem dX10_areJustTold_61 : decode cX10_areJustTold 61 = .ok (.iconst 0, 1) := by decide +kernel
theorem dX10_areJustTold_62 : decode cX10_areJustTold 62 = .ok (.istore_n 2, 1) := by decide +kernel
theorem dX10_areJustTold_63 : decode cX10_areJustTold 63 = .ok (.iload_n 2, 1) := by decide +kernel
theorem dX10_areJustTold_64 : decode cX10_areJustTold 64 = .ok (.bipush 61, 2) := by decide +kernel
theorem dX10_areJustTold_66 : decode cX10_areJustTold 66 = .ok (.if_icmp .ge 20, 3) := by decide +kernel
theorem dX10_areJustTold_69 : decode cX10_areJustTold 69 = .ok (.aload_n 0, 1) := by decide +kernel
theorem dX10_areJustTold_70 : decode cX10_areJustTold 70 = .ok (.getfield 81, 3) := by decide +kernel
theorem dX10_areJustTold_73 : decode cX10_areJustTold 73 = .ok (.iload_n 2, 1) := by decide +kernel
theorem dX10_areJustTold_74 : decode cX10_areJustTold 74 = .ok (.iaload, 1) := by decide +kernel
theorem dX10_areJustTold_75 : decode cX10_areJustTold 75 = .ok (.ifCond .eq 5, 3) := by decide +kernel
theorem dX10_areJustTold_78 : decode cX10_areJustTold 78 = .ok (.iconst 0, 1) := by decide +kernel
theorem dX10_areJustTold_79 : decode cX10_areJustTold 79 = .ok (.ireturn, 1) := by decide +kernel
theorem dX10_areJustTold_80 : decode cX10_areJustTold 80 = .ok (.iinc 2 1, 3) := by decide +kernel
theorem dX10_areJustTold_83 : decode cX10_areJustTold 83 = .ok (.goto (-20), 3) := by decide +kernel
theorem dX10_areJustTold_86 : decode cX10_areJustTold 86 = .ok (.iconst 1, 1) := by decide +kernel
theorem dX10_areJustTold_87 : decode cX10_areJustTold 87 = .ok (.ireturn, 1) := by decide +kernel
theorem dX10_fits_0 : decode cX10_fits 0 = .ok (.iconst 0, 1) := by decide +kernel
theorem dX10_fits_1 : decode cX10_fits 1 = .ok (.istore_n 2, 1) := by decide +kernel
theorem dX10_fits_2 : decode cX10_fits 2 = .ok (.iload_n 1, 1) := by decide +kernel
theorem dX10_fits_3 : decode cX10_fits 3 = .ok (.iload_n 1, 1) := by decide +kernel
theorem dX10_fits_4 : decode cX10_fits 4 = .ok (.iconst 1, 1) := by decide +kernel
theorem dX10_fits_5 : decode cX10_fits 5 = .ok (.isub, 1) := by decide +kernel
theorem dX10_fits_6 : decode cX10_fits 6 = .ok (.imul, 1) := by decide +kernel
theorem dX10_fits_7 : decode cX10_fits 7 = .ok (.iconst 2, 1) := by decide +kernel
theorem dX10_fits_8 : decode cX10_fits 8 = .ok (.idiv, 1) := by decide +kernel
theorem dX10_fits_9 : decode cX10_fits 9 = .ok (.aload_n 0, 1) := by decide +kernel
theorem dX10_fits_10 : decode cX10_fits 10 = .ok (.getfield 284, 3) := by decide +kernel
theorem dX10_fits_13 : decode cX10_fits 13 = .ok (.if_icmp .eq 5, 3) := by decide +kernel
theorem dX10_fits_16 : decode cX10_fits 16 = .ok (.iconst 0, 1) := by decide +kernel
theorem dX10_fits_17 : decode cX10_fits 17 = .ok (.ireturn, 1) := by decide +kernel
theorem dX10_fits_18 : decode cX10_fits 18 = .ok (.aload_n 0, 1) := by decide +kernel
theorem dX10_fits_19 : decode cX10_fits 19 = .ok (.iload_n 1, 1) := by decide +kernel
theorem dX10_fits_20 : decode cX10_fits 20 = .ok (.invokevirtual 290, 3) := by decide +kernel
theorem dX10_fits_23 : decode cX10_fits 23 = .ok (.iconst 1, 1) := by decide +kernel
theorem dX10_fits_24 : decode cX10_fits 24 = .ok (.istore_n 3, 1) := by decide +kernel
theorem dX10_fits_25 : decode cX10_fits 25 = .ok (.iload_n 3, 1) := by decide +kernel
theorem dX10_fits_26 : decode cX10_fits 26 = .ok (.ifCond .eq 59, 3) := by decide +kernel
theorem dX10_fits_29 : decode cX10_fits 29 = .ok (.aload_n 0, 1) := by decide +kernel
theorem dX10_fits_30 : decode cX10_fits 30 = .ok (.iload_n 1, 1) := by decide +kernel
theorem dX10_fits_31 : decode cX10_fits 31 = .ok (.invokevirtual 293, 3) := by decide +kernel
theorem dX10_fits_34 : decode cX10_fits 34 = .ok (.ifCond .eq 40, 3) := by decide +kernel
theorem dX10_fits_37 : decode cX10_fits 37 = .ok (.iconst 0, 1) := by decide +kernel
theorem dX10_fits_38 : decode cX10_fits 38 = .ok (.istore 4, 2) := by decide +kernel
theorem dX10_fits_40 : decode cX10_fits 40 = .ok (.iload 4, 2) := by decide +kernel
theorem dX10_fits_42 : decode cX10_fits 42 = .ok (.iload_n 1, 1) := by decide +kernel
theorem dX10_fits_43 : decode cX10_fits 43 = .ok (.if_icmp .ge 27, 3) := by decide +kernel
theorem dX10_fits_46 : decode cX10_fits 46 = .ok (.iload_n 2, 1) := by decide +kernel
theorem dX10_fits_47 : decode cX10_fits 47 = .ok (.ifCond .ne 23, 3) := by decide +kernel
theorem dX10_fits_50 : decode cX10_fits 50 = .ok (.aload_n 0, 1) := by decide +kernel
theorem dX10_fits_51 : decode cX10_fits 51 = .ok (.getfield 84, 3) := by decide +kernel
theorem dX10_fits_54 : decode cX10_fits 54 = .ok (.iload 4, 2) := by decide +kernel
theorem dX10_fits_56 : decode cX10_fits 56 = .ok (.aload_n 0, 1) := by decide +kernel
theorem dX10_fits_57 : decode cX10_fits 57 = .ok (.getfield 78, 3) := by decide +kernel
theorem dX10_fits_60 : decode cX10_fits 60 = .ok (.iload 4, 2) := by decide +kernel
theorem dX10_fits_62 : decode cX10_fits 62 = .ok (.iaload, 1) := by decide +kernel
theorem dX10_fits_63 : decode cX10_fits 63 = .ok (.iastore, 1) := by decide +kernel
theorem dX10_fits_64 : decode cX10_fits 64 = .ok (.iinc 4 1, 3) := by decide +kernel
theorem dX10_fits_67 : decode cX10_fits 67 = .ok (.goto (-27), 3) := by decide +kernel
theorem dX10_fits_70 : decode cX10_fits 70 = .ok (.iload_n 2, 1) := by decide +kernel
theorem dX10_fits_71 : decode cX10_fits 71 = .ok (.iconst 1, 1) := by decide +kernel
theorem dX10_fits_72 : decode cX10_fits 72 = .ok (.iadd, 1) := by decide +kernel
theorem dX10_fits_73 : decode cX10_fits 73 = .ok (.istore_n 2, 1) := by decide +kernel
theorem dX10_fits_74 : decode cX10_fits 74 = .ok (.aload_n 0, 1) := by decide +kernel
theorem dX10_fits_75 : decode cX10_fits 75 = .ok (.iload_n 1, 1) := by decide +kernel
theorem dX10_fits_76 : decode cX10_fits 76 = .ok (.bipush 24, 2) := by decide +kernel
theorem dX10_fits_78 : decode cX10_fits 78 = .ok (.invokevirtual 296, 3) := by decide +kernel
theorem dX10_fits_81 : decode cX10_fits 81 = .ok (.istore_n 3, 1) := by decide +kernel
theorem dX10_fits_82 : decode cX10_fits 82 = .ok (.goto (-57), 3) := by decide +kernel
theorem dX10_fits_85 : decode cX10_fits 85 = .ok (.iload_n 2, 1) := by decide +kernel
theorem dX10_fits_86 : decode cX10_fits 86 = .ok (.ireturn, 1) := by decide +kernel
theorem dX10_fit_0 : decode cX10_fit 0 = .ok (.aload_n 0, 1) := by decide +kernel
theorem dX10_fit_1 : decode cX10_fit 1 = .ok (.iconst 0, 1) := by decide +kernel
theorem dX10_fit_2 : decode cX10_fit 2 = .ok (.putfield 90, 3) := by decide +kernel
theorem dX10_fit_5 : decode cX10_fit 5 = .ok (.aload_n 0, 1) := by decide +kernel
theorem dX10_fit_6 : decode cX10_fit 6 = .ok (.iload_n 1, 1) := by decide +kernel
theorem dX10_fit_7 : decode cX10_fit 7 = .ok (.iconst 1, 1) := by decide +kernel
theorem dX10_fit_8 : decode cX10_fit 8 = .ok (.bipush 6, 2) := by decide +kernel
theorem dX10_fit_10 : decode cX10_fit 10 = .ok (.invokevirtual 101, 3) := by decide +kernel
theorem dX10_fit_13 : decode cX10_fit 13 = .ok (.ifCond .eq 21, 3) := by decide +kernel
theorem dX10_fit_16 : decode cX10_fit 16 = .ok (.iload_n 2, 1) := by decide +kernel
theorem dX10_fit_17 : decode cX10_fit 17 = .ok (.ifCond .eq 19, 3) := by decide +kernel
theorem dX10_fit_20 : decode cX10_fit 20 = .ok (.aload_n 0, 1) := by decide +kernel
theorem dX10_fit_21 : decode cX10_fit 21 = .ok (.iload_n 2, 1) := by decide +kernel
theorem dX10_fit_22 : decode cX10_fit 22 = .ok (.bipush 10, 2) := by decide +kernel
theorem dX10_fit_24 : decode cX10_fit 24 = .ok (.bipush 9, 2) := by decide +kernel
theorem dX10_fit_26 : decode cX10_fit 26 = .ok (.iload_n 1, 1) := by decide +kernel
theorem dX10_fit_27 : decode cX10_fit 27 = .ok (.iadd, 1) := by decide +kernel
theorem dX10_fit_28 : decode cX10_fit 28 = .ok (.invokevirtual 101, 3) := by decide +kernel
theorem dX10_fit_31 : decode cX10_fit 31 = .ok (.ifCond .ne 5, 3) := by decide +kernel
theorem dX10_fit_34 : decode cX10_fit 34 = .ok (.iconst (-1), 1) := by decide +kernel
theorem dX10_fit_35 : decode cX10_fit 35 = .ok (.ireturn, 1) := by decide +kernel
theorem dX10_fit_36 : decode cX10_fit 36 = .ok (.aload_n 0, 1) := by decide +kernel
theorem dX10_fit_37 : decode cX10_fit 37 = .ok (.iload_n 1, 1) := by decide +kernel
theorem dX10_fit_38 : decode cX10_fit 38 = .ok (.invokevirtual 299, 3) := by decide +kernel
theorem dX10_fit_41 : decode cX10_fit 41 = .ok (.istore_n 3, 1) := by decide +kernel
theorem dX10_fit_42 : decode cX10_fit 42 = .ok (.iload_n 2, 1) := by decide +kernel
theorem dX10_fit_43 : decode cX10_fit 43 = .ok (.ifCond .ne 7, 3) := by decide +kernel
theorem dX10_fit_46 : decode cX10_fit 46 = .ok (.iload_n 3, 1) := by decide +kernel
theorem dX10_fit_47 : decode cX10_fit 47 = .ok (.goto 20, 3) := by decide +kernel
theorem dX10_fit_50 : decode cX10_fit 50 = .ok (.iload_n 3, 1) := by decide +kernel
theorem dX10_fit_51 : decode cX10_fit 51 = .ok (.ifCond .ne 7, 3) := by decide +kernel
theorem dX10_fit_54 : decode cX10_fit 54 = .ok (.iconst (-1), 1) := by decide +kernel
theorem dX10_fit_55 : decode cX10_fit 55 = .ok (.goto 12, 3) := by decide +kernel
theorem dX10_fit_58 : decode cX10_fit 58 = .ok (.aload_n 0, 1) := by decide +kernel
theorem dX10_fit_59 : decode cX10_fit 59 = .ok (.getfield 84, 3) := by decide +kernel
theorem dX10_fit_62 : decode cX10_fit 62 = .ok (.iload_n 2, 1) := by decide +kernel
theorem dX10_fit_63 : decode cX10_fit 63 = .ok (.bipush 10, 2) := by decide +kernel
theorem dX10_fit_65 : decode cX10_fit 65 = .ok (.isub, 1) := by decide +kernel
theorem dX10_fit_66 : decode cX10_fit 66 = .ok (.iaload, 1) := by decide +kernel
theorem dX10_fit_67 : decode cX10_fit 67 = .ok (.ireturn, 1) := by decide +kernel
theorem dX10_haveAllTold_0 : decode cX10_haveAllTold 0 = .ok (.aload_n 0, 1) := by decide +kernel
theorem dX10_haveAllTold_1 : decode cX10_haveAllTold 1 = .ok (.iload_n 1, 1) := by decide +kernel
theorem dX10_haveAllTold_2 : decode cX10_haveAllTold 2 = .ok (.invokevirtual 287, 3) := by decide +kernel
theorem dX10_haveAllTold_5 : decode cX10_haveAllTold 5 = .ok (.iconst 0, 1) := by decide +kernel
theorem dX10_haveAllTold_6 : decode cX10_haveAllTold 6 = .ok (.istore_n 2, 1) := by decide +kernel
theorem dX10_haveAllTold_7 : decode cX10_haveAllTold 7 = .ok (.iload_n 2, 1) := by decide +kernel
theorem dX10_haveAllTold_8 : decode cX10_haveAllTold 8 = .ok (.aload_n 0, 1) := by decide +kernel
theorem dX10_haveAllTold_9 : decode cX10_haveAllTold 9 = .ok (.getfield 284, 3) := by decide +kernel
theorem dX10_haveAllTold_12 : decode cX10_haveAllTold 12 = .ok (.if_icmp .ge 25, 3) := by decide +kernel
theorem dX10_haveAllTold_15 : decode cX10_haveAllTold 15 = .ok (.aload_n 0, 1) := by decide +kernel
theorem dX10_haveAllTold_16 : decode cX10_haveAllTold 16 = .ok (.getfield 81, 3) := by decide +kernel
theorem dX10_haveAllTold_19 : decode cX10_haveAllTold 19 = .ok (.aload_n 0, 1) := by decide +kernel
theorem dX10_haveAllTold_20 : decode cX10_haveAllTold 20 = .ok (.getfield 75, 3) := by decide +kernel
theorem dX10_haveAllTold_23 : decode cX10_haveAllTold 23 = .ok (.iload_n 2, 1) := by decide +kernel
theorem dX10_haveAllTold_24 : decode cX10_haveAllTold 24 = .ok (.iaload, 1) := by decide +kernel
theorem dX10_haveAllTold_25 : decode cX10_haveAllTold 25 = .ok (.iaload, 1) := by decide +kernel
theorem dX10_haveAllTold_26 : decode cX10_haveAllTold 26 = .ok (.ifCond .ne 5, 3) := by decide +kernel
theorem dX10_haveAllTold_29 : decode cX10_haveAllTold 29 = .ok (.iconst 0, 1) := by decide +kernel
theorem dX10_haveAllTold_30 : decode cX10_haveAllTold 30 = .ok (.ireturn, 1) := by decide +kernel
theorem dX10_haveAllTold_31 : decode cX10_haveAllTold 31 = .ok (.iinc 2 1, 3) := by decide +kernel
theorem dX10_haveAllTold_34 : decode cX10_haveAllTold 34 = .ok (.goto (-27), 3) := by decide +kernel
theorem dX10_haveAllTold_37 : decode cX10_haveAllTold 37 = .ok (.iconst 1, 1) := by decide +kernel
theorem dX10_haveAllTold_38 : decode cX10_haveAllTold 38 = .ok (.ireturn, 1) := by decide +kernel
theorem dX10_fewestTones_0 : decode cX10_fewestTones 0 = .ok (.iconst 1, 1) := by decide +kernel
theorem dX10_fewestTones_1 : decode cX10_fewestTones 1 = .ok (.istore_n 1, 1) := by decide +kernel
theorem dX10_fewestTones_2 : decode cX10_fewestTones 2 = .ok (.iload_n 1, 1) := by decide +kernel
theorem dX10_fewestTones_3 : decode cX10_fewestTones 3 = .ok (.iconst 5, 1) := by decide +kernel
theorem dX10_fewestTones_4 : decode cX10_fewestTones 4 = .ok (.if_icmp .gt 41, 3) := by decide +kernel
theorem dX10_fewestTones_7 : decode cX10_fewestTones 7 = .ok (.aload_n 0, 1) := by decide +kernel
theorem dX10_fewestTones_8 : decode cX10_fewestTones 8 = .ok (.iload_n 1, 1) := by decide +kernel
theorem dX10_fewestTones_9 : decode cX10_fewestTones 9 = .ok (.invokevirtual 290, 3) := by decide +kernel
theorem dX10_fewestTones_12 : decode cX10_fewestTones 12 = .ok (.iconst 1, 1) := by decide +kernel
theorem dX10_fewestTones_13 : decode cX10_fewestTones 13 = .ok (.istore_n 2, 1) := by decide +kernel
theorem dX10_fewestTones_14 : decode cX10_fewestTones 14 = .ok (.iload_n 2, 1) := by decide +kernel
theorem dX10_fewestTones_15 : decode cX10_fewestTones 15 = .ok (.ifCond .eq 24, 3) := by decide +kernel
theorem dX10_fewestTones_18 : decode cX10_fewestTones 18 = .ok (.aload_n 0, 1) := by decide +kernel
theorem dX10_fewestTones_19 : decode cX10_fewestTones 19 = .ok (.iload_n 1, 1) := by decide +kernel
theorem dX10_fewestTones_20 : decode cX10_fewestTones 20 = .ok (.invokevirtual 302, 3) := by decide +kernel
theorem dX10_fewestTones_23 : decode cX10_fewestTones 23 = .ok (.ifCond .eq 5, 3) := by decide +kernel
theorem dX10_fewestTones_26 : decode cX10_fewestTones 26 = .ok (.iload_n 1, 1) := by decide +kernel
theorem dX10_fewestTones_27 : decode cX10_fewestTones 27 = .ok (.ireturn, 1) := by decide +kernel
theorem dX10_fewestTones_28 : decode cX10_fewestTones 28 = .ok (.aload_n 0, 1) := by decide +kernel
theorem dX10_fewestTones_29 : decode cX10_fewestTones 29 = .ok (.iload_n 1, 1) := by decide +kernel
theorem dX10_fewestTones_30 : decode cX10_fewestTones 30 = .ok (.bipush 24, 2) := by decide +kernel
theorem dX10_fewestTones_32 : decode cX10_fewestTones 32 = .ok (.invokevirtual 296, 3) := by decide +kernel
theorem dX10_fewestTones_35 : decode cX10_fewestTones 35 = .ok (.istore_n 2, 1) := by decide +kernel
theorem dX10_fewestTones_36 : decode cX10_fewestTones 36 = .ok (.goto (-22), 3) := by decide +kernel
theorem dX10_fewestTones_39 : decode cX10_fewestTones 39 = .ok (.iinc 1 1, 3) := by decide +kernel
theorem dX10_fewestTones_42 : decode cX10_fewestTones 42 = .ok (.goto (-40), 3) := by decide +kernel
theorem dX10_fewestTones_45 : decode cX10_fewestTones 45 = .ok (.iconst (-1), 1) := by decide +kernel
theorem dX10_fewestTones_46 : decode cX10_fewestTones 46 = .ok (.ireturn, 1) := by decide +kernel
theorem dX10_fewest_0 : decode cX10_fewest 0 = .ok (.aload_n 0, 1) := by decide +kernel
theorem dX10_fewest_1 : decode cX10_fewest 1 = .ok (.iconst 0, 1) := by decide +kernel
theorem dX10_fewest_2 : decode cX10_fewest 2 = .ok (.putfield 90, 3) := by decide +kernel
theorem dX10_fewest_5 : decode cX10_fewest 5 = .ok (.iload_n 1, 1) := by decide +kernel
theorem dX10_fewest_6 : decode cX10_fewest 6 = .ok (.ifCond .eq 17, 3) := by decide +kernel
theorem dX10_fewest_9 : decode cX10_fewest 9 = .ok (.aload_n 0, 1) := by decide +kernel
theorem dX10_fewest_10 : decode cX10_fewest 10 = .ok (.iload_n 1, 1) := by decide +kernel
theorem dX10_fewest_11 : decode cX10_fewest 11 = .ok (.bipush 10, 2) := by decide +kernel
theorem dX10_fewest_13 : decode cX10_fewest 13 = .ok (.bipush 14, 2) := by decide +kernel
theorem dX10_fewest_15 : decode cX10_fewest 15 = .ok (.invokevirtual 101, 3) := by decide +kernel
theorem dX10_fewest_18 : decode cX10_fewest 18 = .ok (.ifCond .ne 5, 3) := by decide +kernel
theorem dX10_fewest_21 : decode cX10_fewest 21 = .ok (.iconst (-1), 1) := by decide +kernel
theorem dX10_fewest_22 : decode cX10_fewest 22 = .ok (.ireturn, 1) := by decide +kernel
theorem dX10_fewest_23 : decode cX10_fewest 23 = .ok (.aload_n 0, 1) := by decide +kernel
theorem dX10_fewest_24 : decode cX10_fewest 24 = .ok (.invokevirtual 305, 3) := by decide +kernel
theorem dX10_fewest_27 : decode cX10_fewest 27 = .ok (.istore_n 2, 1) := by decide +kernel
theorem dX10_fewest_28 : decode cX10_fewest 28 = .ok (.iload_n 1, 1) := by decide +kernel
theorem dX10_fewest_29 : decode cX10_fewest 29 = .ok (.ifCond .ne 7, 3) := by decide +kernel
theorem dX10_fewest_32 : decode cX10_fewest 32 = .ok (.iload_n 2, 1) := by decide +kernel
theorem dX10_fewest_33 : decode cX10_fewest 33 = .ok (.goto 24, 3) := by decide +kernel
theorem dX10_fewest_36 : decode cX10_fewest 36 = .ok (.iload_n 1, 1) := by decide +kernel
theorem dX10_fewest_37 : decode cX10_fewest 37 = .ok (.bipush 10, 2) := by decide +kernel
theorem dX10_fewest_39 : decode cX10_fewest 39 = .ok (.isub, 1) := by decide +kernel
theorem dX10_fewest_40 : decode cX10_fewest 40 = .ok (.iload_n 2, 1) := by decide +kernel
theorem dX10_fewest_41 : decode cX10_fewest 41 = .ok (.if_icmp .ge 15, 3) := by decide +kernel
theorem dX10_fewest_44 : decode cX10_fewest 44 = .ok (.aload_n 0, 1) := by decide +kernel
theorem dX10_fewest_45 : decode cX10_fewest 45 = .ok (.getfield 78, 3) := by decide +kernel
theorem dX10_fewest_48 : decode cX10_fewest 48 = .ok (.iload_n 1, 1) := by decide +kernel
theorem dX10_fewest_49 : decode cX10_fewest 49 = .ok (.bipush 10, 2) := by decide +kernel
theorem dX10_fewest_51 : decode cX10_fewest 51 = .ok (.isub, 1) := by decide +kernel
theorem dX10_fewest_52 : decode cX10_fewest 52 = .ok (.iaload, 1) := by decide +kernel
theorem dX10_fewest_53 : decode cX10_fewest 53 = .ok (.goto 4, 3) := by decide +kernel
theorem dX10_fewest_56 : decode cX10_fewest 56 = .ok (.iconst (-1), 1) := by decide +kernel
theorem dX10_fewest_57 : decode cX10_fewest 57 = .ok (.ireturn, 1) := by decide +kernel
theorem dX10_areUnlike_0 : decode cX10_areUnlike 0 = .ok (.aload_n 0, 1) := by decide +kernel
theorem dX10_areUnlike_1 : decode cX10_areUnlike 1 = .ok (.iload_n 1, 1) := by decide +kernel
theorem dX10_areUnlike_2 : decode cX10_areUnlike 2 = .ok (.invokevirtual 287, 3) := by decide +kernel
theorem dX10_areUnlike_5 : decode cX10_areUnlike 5 = .ok (.iconst 0, 1) := by decide +kernel
theorem dX10_areUnlike_6 : decode cX10_areUnlike 6 = .ok (.istore_n 2, 1) := by decide +kernel
theorem dX10_areUnlike_7 : decode cX10_areUnlike 7 = .ok (.iload_n 2, 1) := by decide +kernel
theorem dX10_areUnlike_8 : decode cX10_areUnlike 8 = .ok (.bipush 61, 2) := by decide +kernel
theorem dX10_areUnlike_10 : decode cX10_areUnlike 10 = .ok (.if_icmp .ge 21, 3) := by decide +kernel
theorem dX10_areUnlike_13 : decode cX10_areUnlike 13 = .ok (.aload_n 0, 1) := by decide +kernel
theorem dX10_areUnlike_14 : decode cX10_areUnlike 14 = .ok (.getfield 81, 3) := by decide +kernel
theorem dX10_areUnlike_17 : decode cX10_areUnlike 17 = .ok (.iload_n 2, 1) := by decide +kernel
theorem dX10_areUnlike_18 : decode cX10_areUnlike 18 = .ok (.iaload, 1) := by decide +kernel
theorem dX10_areUnlike_19 : decode cX10_areUnlike 19 = .ok (.iconst 1, 1) := by decide +kernel
theorem dX10_areUnlike_20 : decode cX10_areUnlike 20 = .ok (.if_icmp .le 5, 3) := by decide +kernel
theorem dX10_areUnlike_23 : decode cX10_areUnlike 23 = .ok (.iconst 0, 1) := by decide +kernel
theorem dX10_areUnlike_24 : decode cX10_areUnlike 24 = .ok (.ireturn, 1) := by decide +kernel
theorem dX10_areUnlike_25 : decode cX10_areUnlike 25 = .ok (.iinc 2 1, 3) := by decide +kernel
theorem dX10_areUnlike_28 : decode cX10_areUnlike 28 = .ok (.goto (-21), 3) := by decide +kernel
theorem dX10_areUnlike_31 : decode cX10_areUnlike 31 = .ok (.iconst 1, 1) := by decide +kernel
theorem dX10_areUnlike_32 : decode cX10_areUnlike 32 = .ok (.ireturn, 1) := by decide +kernel
theorem dX10_findsRuler_0 : decode cX10_findsRuler 0 = .ok (.iload_n 1, 1) := by decide +kernel
theorem dX10_findsRuler_1 : decode cX10_findsRuler 1 = .ok (.iconst 1, 1) := by decide +kernel
theorem dX10_findsRuler_2 : decode cX10_findsRuler 2 = .ok (.isub, 1) := by decide +kernel
theorem dX10_findsRuler_3 : decode cX10_findsRuler 3 = .ok (.istore_n 2, 1) := by decide +kernel
theorem dX10_findsRuler_4 : decode cX10_findsRuler 4 = .ok (.aload_n 0, 1) := by decide +kernel
theorem dX10_findsRuler_5 : decode cX10_findsRuler 5 = .ok (.iload_n 1, 1) := by decide +kernel
theorem dX10_findsRuler_6 : decode cX10_findsRuler 6 = .ok (.invokevirtual 290, 3) := by decide +kernel
theorem dX10_findsRuler_9 : decode cX10_findsRuler 9 = .ok (.iconst 1, 1) := by decide +kernel
theorem dX10_findsRuler_10 : decode cX10_findsRuler 10 = .ok (.istore_n 3, 1) := by decide +kernel
theorem dX10_findsRuler_11 : decode cX10_findsRuler 11 = .ok (.iload_n 3, 1) := by decide +kernel
theorem dX10_findsRuler_12 : decode cX10_findsRuler 12 = .ok (.ifCond .eq 34, 3) := by decide +kernel
theorem dX10_findsRuler_15 : decode cX10_findsRuler 15 = .ok (.aload_n 0, 1) := by decide +kernel
theorem dX10_findsRuler_16 : decode cX10_findsRuler 16 = .ok (.getfield 78, 3) := by decide +kernel
theorem dX10_findsRuler_19 : decode cX10_findsRuler 19 = .ok (.iload_n 1, 1) := by decide +kernel
theorem dX10_findsRuler_20 : decode cX10_findsRuler 20 = .ok (.iconst 1, 1) := by decide +kernel
theorem dX10_findsRuler_21 : decode cX10_findsRuler 21 = .ok (.isub, 1) := by decide +kernel
theorem dX10_findsRuler_22 : decode cX10_findsRuler 22 = .ok (.iaload, 1) := by decide +kernel
theorem dX10_findsRuler_23 : decode cX10_findsRuler 23 = .ok (.iload_n 2, 1) := by decide +kernel
theorem dX10_findsRuler_24 : decode cX10_findsRuler 24 = .ok (.if_icmp .ne 12, 3) := by decide +kernel
theorem dX10_findsRuler_27 : decode cX10_findsRuler 27 = .ok (.aload_n 0, 1) := by decide +kernel
theorem dX10_findsRuler_28 : decode cX10_findsRuler 28 = .ok (.iload_n 1, 1) := by decide +kernel
theorem dX10_findsRuler_29 : decode cX10_findsRuler 29 = .ok (.invokevirtual 308, 3) := by decide +kernel
theorem dX10_findsRuler_32 : decode cX10_findsRuler 32 = .ok (.ifCond .eq 4, 3) := by decide +kernel
theorem dX10_findsRuler_35 : decode cX10_findsRuler 35 = .ok (.return_, 1) := by decide +kernel
theorem dX10_findsRuler_36 : decode cX10_findsRuler 36 = .ok (.aload_n 0, 1) := by decide +kernel
theorem dX10_findsRuler_37 : decode cX10_findsRuler 37 = .ok (.iload_n 1, 1) := by decide +kernel
theorem dX10_findsRuler_38 : decode cX10_findsRuler 38 = .ok (.iload_n 2, 1) := by decide +kernel
theorem dX10_findsRuler_39 : decode cX10_findsRuler 39 = .ok (.invokevirtual 296, 3) := by decide +kernel
theorem dX10_findsRuler_42 : decode cX10_findsRuler 42 = .ok (.istore_n 3, 1) := by decide +kernel
theorem dX10_findsRuler_43 : decode cX10_findsRuler 43 = .ok (.goto (-32), 3) := by decide +kernel
theorem dX10_findsRuler_46 : decode cX10_findsRuler 46 = .ok (.iload_n 2, 1) := by decide +kernel
theorem dX10_findsRuler_47 : decode cX10_findsRuler 47 = .ok (.iconst 1, 1) := by decide +kernel
theorem dX10_findsRuler_48 : decode cX10_findsRuler 48 = .ok (.iadd, 1) := by decide +kernel
theorem dX10_findsRuler_49 : decode cX10_findsRuler 49 = .ok (.istore_n 2, 1) := by decide +kernel
theorem dX10_findsRuler_50 : decode cX10_findsRuler 50 = .ok (.goto (-46), 3) := by decide +kernel
theorem dX10_ruler_0 : decode cX10_ruler 0 = .ok (.aload_n 0, 1) := by decide +kernel
theorem dX10_ruler_1 : decode cX10_ruler 1 = .ok (.iconst 0, 1) := by decide +kernel
theorem dX10_ruler_2 : decode cX10_ruler 2 = .ok (.putfield 90, 3) := by decide +kernel
theorem dX10_ruler_5 : decode cX10_ruler 5 = .ok (.aload_n 0, 1) := by decide +kernel
theorem dX10_ruler_6 : decode cX10_ruler 6 = .ok (.iload_n 1, 1) := by decide +kernel
theorem dX10_ruler_7 : decode cX10_ruler 7 = .ok (.iconst 1, 1) := by decide +kernel
theorem dX10_ruler_8 : decode cX10_ruler 8 = .ok (.bipush 6, 2) := by decide +kernel
theorem dX10_ruler_10 : decode cX10_ruler 10 = .ok (.invokevirtual 101, 3) := by decide +kernel
theorem dX10_ruler_13 : decode cX10_ruler 13 = .ok (.ifCond .eq 21, 3) := by decide +kernel
theorem dX10_ruler_16 : decode cX10_ruler 16 = .ok (.iload_n 2, 1) := by decide +kernel
theorem dX10_ruler_17 : decode cX10_ruler 17 = .ok (.ifCond .eq 19, 3) := by decide +kernel
theorem dX10_ruler_20 : decode cX10_ruler 20 = .ok (.aload_n 0, 1) := by decide +kernel
theorem dX10_ruler_21 : decode cX10_ruler 21 = .ok (.iload_n 2, 1) := by decide +kernel
theorem dX10_ruler_22 : decode cX10_ruler 22 = .ok (.bipush 10, 2) := by decide +kernel
theorem dX10_ruler_24 : decode cX10_ruler 24 = .ok (.bipush 9, 2) := by decide +kernel
theorem dX10_ruler_26 : decode cX10_ruler 26 = .ok (.iload_n 1, 1) := by decide +kernel
theorem dX10_ruler_27 : decode cX10_ruler 27 = .ok (.iadd, 1) := by decide +kernel
theorem dX10_ruler_28 : decode cX10_ruler 28 = .ok (.invokevirtual 101, 3) := by decide +kernel
theorem dX10_ruler_31 : decode cX10_ruler 31 = .ok (.ifCond .ne 5, 3) := by decide +kernel
theorem dX10_ruler_34 : decode cX10_ruler 34 = .ok (.iconst (-1), 1) := by decide +kernel
theorem dX10_ruler_35 : decode cX10_ruler 35 = .ok (.ireturn, 1) := by decide +kernel
theorem dX10_ruler_36 : decode cX10_ruler 36 = .ok (.aload_n 0, 1) := by decide +kernel
theorem dX10_ruler_37 : decode cX10_ruler 37 = .ok (.iload_n 1, 1) := by decide +kernel
theorem dX10_ruler_38 : decode cX10_ruler 38 = .ok (.invokevirtual 311, 3) := by decide +kernel
theorem dX10_ruler_41 : decode cX10_ruler 41 = .ok (.iload_n 2, 1) := by decide +kernel
theorem dX10_ruler_42 : decode cX10_ruler 42 = .ok (.ifCond .ne 14, 3) := by decide +kernel
theorem dX10_ruler_45 : decode cX10_ruler 45 = .ok (.aload_n 0, 1) := by decide +kernel
theorem dX10_ruler_46 : decode cX10_ruler 46 = .ok (.getfield 78, 3) := by decide +kernel
theorem dX10_ruler_49 : decode cX10_ruler 49 = .ok (.iload_n 1, 1) := by decide +kernel
theorem dX10_ruler_50 : decode cX10_ruler 50 = .ok (.iconst 1, 1) := by decide +kernel
theorem dX10_ruler_51 : decode cX10_ruler 51 = .ok (.isub, 1) := by decide +kernel
theorem dX10_ruler_52 : decode cX10_ruler 52 = .ok (.iaload, 1) := by decide +kernel
theorem dX10_ruler_53 : decode cX10_ruler 53 = .ok (.goto 12, 3) := by decide +kernel
theorem dX10_ruler_56 : decode cX10_ruler 56 = .ok (.aload_n 0, 1) := by decide +kernel
theorem dX10_ruler_57 : decode cX10_ruler 57 = .ok (.getfield 78, 3) := by decide +kernel
theorem dX10_ruler_60 : decode cX10_ruler 60 = .ok (.iload_n 2, 1) := by decide +kernel
theorem dX10_ruler_61 : decode cX10_ruler 61 = .ok (.bipush 10, 2) := by decide +kernel
theorem dX10_ruler_63 : decode cX10_ruler 63 = .ok (.isub, 1) := by decide +kernel
theorem dX10_ruler_64 : decode cX10_ruler 64 = .ok (.iaload, 1) := by decide +kernel
theorem dX10_ruler_65 : decode cX10_ruler 65 = .ok (.ireturn, 1) := by decide +kernel
theorem dX10_isAlone_0 : decode cX10_isAlone 0 = .ok (.iconst 0, 1) := by decide +kernel
theorem dX10_isAlone_1 : decode cX10_isAlone 1 = .ok (.istore 6, 2) := by decide +kernel
theorem dX10_isAlone_3 : decode cX10_isAlone 3 = .ok (.iload 6, 2) := by decide +kernel
theorem dX10_isAlone_5 : decode cX10_isAlone 5 = .ok (.aload_n 0, 1) := by decide +kernel
theorem dX10_isAlone_6 : decode cX10_isAlone 6 = .ok (.getfield 98, 3) := by decide +kernel
theorem dX10_isAlone_9 : decode cX10_isAlone 9 = .ok (.if_icmp .ge 53, 3) := by decide +kernel
theorem dX10_isAlone_12 : decode cX10_isAlone 12 = .ok (.iload 6, 2) := by decide +kernel
theorem dX10_isAlone_14 : decode cX10_isAlone 14 = .ok (.iload_n 2, 1) := by decide +kernel
theorem dX10_isAlone_15 : decode cX10_isAlone 15 = .ok (.if_icmp .eq 41, 3) := by decide +kernel
theorem dX10_isAlone_18 : decode cX10_isAlone 18 = .ok (.iload 6, 2) := by decide +kernel
theorem dX10_isAlone_20 : decode cX10_isAlone 20 = .ok (.iload_n 3, 1) := by decide +kernel
theorem dX10_isAlone_21 : decode cX10_isAlone 21 = .ok (.if_icmp .eq 35, 3) := by decide +kernel
theorem dX10_isAlone_24 : decode cX10_isAlone 24 = .ok (.aload_n 0, 1) := by decide +kernel
theorem dX10_isAlone_25 : decode cX10_isAlone 25 = .ok (.iload 6, 2) := by decide +kernel
theorem dX10_isAlone_27 : decode cX10_isAlone 27 = .ok (.iload_n 2, 1) := by decide +kernel
theorem dX10_isAlone_28 : decode cX10_isAlone 28 = .ok (.iload_n 3, 1) := by decide +kernel
theorem dX10_isAlone_29 : decode cX10_isAlone 29 = .ok (.iload 4, 2) := by decide +kernel
theorem dX10_isAlone_31 : decode cX10_isAlone 31 = .ok (.iload 5, 2) := by decide +kernel
theorem dX10_isAlone_33 : decode cX10_isAlone 33 = .ok (.aload_n 0, 1) := by decide +kernel
theorem dX10_isAlone_34 : decode cX10_isAlone 34 = .ok (.getfield 116, 3) := by decide +kernel
theorem dX10_isAlone_37 : decode cX10_isAlone 37 = .ok (.invokevirtual 233, 3) := by decide +kernel
theorem dX10_isAlone_40 : decode cX10_isAlone 40 = .ok (.iload 6, 2) := by decide +kernel
theorem dX10_isAlone_42 : decode cX10_isAlone 42 = .ok (.iload_n 1, 1) := by decide +kernel
theorem dX10_isAlone_43 : decode cX10_isAlone 43 = .ok (.if_icmp .ne 7, 3) := by decide +kernel
theorem dX10_isAlone_46 : decode cX10_isAlone 46 = .ok (.iconst 1, 1) := by decide +kernel
theorem dX10_isAlone_47 : decode cX10_isAlone 47 = .ok (.goto 4, 3) := by decide +kernel
theorem dX10_isAlone_50 : decode cX10_isAlone 50 = .ok (.iconst 0, 1) := by decide +kernel
theorem dX10_isAlone_51 : decode cX10_isAlone 51 = .ok (.if_icmp .eq 5, 3) := by decide +kernel
theorem dX10_isAlone_54 : decode cX10_isAlone 54 = .ok (.iconst 0, 1) := by decide +kernel
theorem dX10_isAlone_55 : decode cX10_isAlone 55 = .ok (.ireturn, 1) := by decide +kernel
theorem dX10_isAlone_56 : decode cX10_isAlone 56 = .ok (.iinc 6 1, 3) := by decide +kernel
theorem dX10_isAlone_59 : decode cX10_isAlone 59 = .ok (.goto (-56), 3) := by decide +kernel
theorem dX10_isAlone_62 : decode cX10_isAlone 62 = .ok (.iconst 1, 1) := by decide +kernel
theorem dX10_isAlone_63 : decode cX10_isAlone 63 = .ok (.ireturn, 1) := by decide +kernel
theorem dX10_alone_0 : decode cX10_alone 0 = .ok (.aload_n 0, 1) := by decide +kernel
theorem dX10_alone_1 : decode cX10_alone 1 = .ok (.iconst 0, 1) := by decide +kernel
theorem dX10_alone_2 : decode cX10_alone 2 = .ok (.putfield 90, 3) := by decide +kernel
theorem dX10_alone_5 : decode cX10_alone 5 = .ok (.aload_n 0, 1) := by decide +kernel
theorem dX10_alone_6 : decode cX10_alone 6 = .ok (.iload_n 1, 1) := by decide +kernel
theorem dX10_alone_7 : decode cX10_alone 7 = .ok (.iload_n 2, 1) := by decide +kernel
theorem dX10_alone_8 : decode cX10_alone 8 = .ok (.iload_n 3, 1) := by decide +kernel
theorem dX10_alone_9 : decode cX10_alone 9 = .ok (.invokevirtual 237, 3) := by decide +kernel
theorem dX10_alone_12 : decode cX10_alone 12 = .ok (.ifCond .eq 35, 3) := by decide +kernel
theorem dX10_alone_15 : decode cX10_alone 15 = .ok (.aload_n 0, 1) := by decide +kernel
theorem dX10_alone_16 : decode cX10_alone 16 = .ok (.iload_n 1, 1) := by decide +kernel
theorem dX10_alone_17 : decode cX10_alone 17 = .ok (.invokevirtual 109, 3) := by decide +kernel
theorem dX10_alone_20 : decode cX10_alone 20 = .ok (.iconst (-1), 1) := by decide +kernel
theorem dX10_alone_21 : decode cX10_alone 21 = .ok (.if_icmp .eq 26, 3) := by decide +kernel
theorem dX10_alone_24 : decode cX10_alone 24 = .ok (.aload_n 0, 1) := by decide +kernel
theorem dX10_alone_25 : decode cX10_alone 25 = .ok (.iload 4, 2) := by decide +kernel
theorem dX10_alone_27 : decode cX10_alone 27 = .ok (.iconst 0, 1) := by decide +kernel
theorem dX10_alone_28 : decode cX10_alone 28 = .ok (.bipush 60, 2) := by decide +kernel
theorem dX10_alone_30 : decode cX10_alone 30 = .ok (.invokevirtual 101, 3) := by decide +kernel
theorem dX10_alone_33 : decode cX10_alone 33 = .ok (.ifCond .eq 14, 3) := by decide +kernel
theorem dX10_alone_36 : decode cX10_alone 36 = .ok (.aload_n 0, 1) := by decide +kernel
theorem dX10_alone_37 : decode cX10_alone 37 = .ok (.iload 5, 2) := by decide +kernel
theorem dX10_alone_39 : decode cX10_alone 39 = .ok (.iconst 0, 1) := by decide +kernel
theorem dX10_alone_40 : decode cX10_alone 40 = .ok (.iconst 1, 1) := by decide +kernel
theorem dX10_alone_41 : decode cX10_alone 41 = .ok (.invokevirtual 101, 3) := by decide +kernel
theorem dX10_alone_44 : decode cX10_alone 44 = .ok (.ifCond .ne 5, 3) := by decide +kernel
theorem dX10_alone_47 : decode cX10_alone 47 = .ok (.iconst (-1), 1) := by decide +kernel
theorem dX10_alone_48 : decode cX10_alone 48 = .ok (.ireturn, 1) := by decide +kernel
theorem dX10_alone_49 : decode cX10_alone 49 = .ok (.iconst 0, 1) := by decide +kernel
theorem dX10_alone_50 : decode cX10_alone 50 = .ok (.istore 6, 2) := by decide +kernel
theorem dX10_alone_52 : decode cX10_alone 52 = .ok (.iconst (-1), 1) := by decide +kernel
theorem dX10_alone_53 : decode cX10_alone 53 = .ok (.istore 7, 2) := by decide +kernel
theorem dX10_alone_55 : decode cX10_alone 55 = .ok (.iconst 0, 1) := by decide +kernel
theorem dX10_alone_56 : decode cX10_alone 56 = .ok (.istore 8, 2) := by decide +kernel
theorem dX10_alone_58 : decode cX10_alone 58 = .ok (.iload 8, 2) := by decide +kernel
theorem dX10_alone_60 : decode cX10_alone 60 = .ok (.iload 4, 2) := by decide +kernel
theorem dX10_alone_62 : decode cX10_alone 62 = .ok (.iadd, 1) := by decide +kernel
theorem dX10_alone_63 : decode cX10_alone 63 = .ok (.bipush 60, 2) := by decide +kernel
theorem dX10_alone_65 : decode cX10_alone 65 = .ok (.if_icmp .gt 49, 3) := by decide +kernel
theorem dX10_alone_68 : decode cX10_alone 68 = .ok (.aload_n 0, 1) := by decide +kernel
theorem dX10_alone_69 : decode cX10_alone 69 = .ok (.iload_n 1, 1) := by decide +kernel
theorem dX10_alone_70 : decode cX10_alone 70 = .ok (.iload_n 2, 1) := by decide +kernel
theorem dX10_alone_71 : decode cX10_alone 71 = .ok (.iload_n 3, 1) := by decide +kernel
theorem dX10_alone_72 : decode cX10_alone 72 = .ok (.iload 8, 2) := by decide +kernel
theorem dX10_alone_74 : decode cX10_alone 74 = .ok (.iload 8, 2) := by decide +kernel
theorem dX10_alone_76 : decode cX10_alone 76 = .ok (.iload 4, 2) := by decide +kernel
theorem dX10_alone_78 : decode cX10_alone 78 = .ok (.iadd, 1) := by decide +kernel
theorem dX10_alone_79 : decode cX10_alone 79 = .ok (.invokevirtual 314, 3) := by decide +kernel
theorem dX10_alone_82 : decode cX10_alone 82 = .ok (.ifCond .ne 6, 3) := by decide +kernel
theorem dX10_alone_85 : decode cX10_alone 85 = .ok (.goto 23, 3) := by decide +kernel
theorem dX10_alone_88 : decode cX10_alone 88 = .ok (.iload 6, 2) := by decide +kernel
theorem dX10_alone_90 : decode cX10_alone 90 = .ok (.ifCond .ne 8, 3) := by decide +kernel
theorem dX10_alone_93 : decode cX10_alone 93 = .ok (.iload 8, 2) := by decide +kernel
theorem dX10_alone_95 : decode cX10_alone 95 = .ok (.goto 5, 3) := by decide +kernel
theorem dX10_alone_98 : decode cX10_alone 98 = .ok (.iload 7, 2) := by decide +kernel
theorem dX10_alone_100 : decode cX10_alone 100 = .ok (.istore 7, 2) := by decide +kernel
theorem dX10_alone_102 : decode cX10_alone 102 = .ok (.iload 6, 2) := by decide +kernel
theorem dX10_alone_104 : decode cX10_alone 104 = .ok (.iconst 1, 1) := by decide +kernel
theorem dX10_alone_105 : decode cX10_alone 105 = .ok (.iadd, 1) := by decide +kernel
theorem dX10_alone_106 : decode cX10_alone 106 = .ok (.istore 6, 2) := by decide +kernel
theorem dX10_alone_108 : decode cX10_alone 108 = .ok (.iinc 8 1, 3) := by decide +kernel
theorem dX10_alone_111 : decode cX10_alone 111 = .ok (.goto (-53), 3) := by decide +kernel
theorem dX10_alone_114 : decode cX10_alone 114 = .ok (.iload 5, 2) := by decide +kernel
theorem dX10_alone_116 : decode cX10_alone 116 = .ok (.ifCond .ne 8, 3) := by decide +kernel
theorem dX10_alone_119 : decode cX10_alone 119 = .ok (.iload 6, 2) := by decide +kernel
theorem dX10_alone_121 : decode cX10_alone 121 = .ok (.goto 5, 3) := by decide +kernel
theorem dX10_alone_124 : decode cX10_alone 124 = .ok (.iload 7, 2) := by decide +kernel
theorem dX10_alone_126 : decode cX10_alone 126 = .ok (.ireturn, 1) := by decide +kernel
theorem dX10_canSay_0 : decode cX10_canSay 0 = .ok (.iconst 0, 1) := by decide +kernel
theorem dX10_canSay_1 : decode cX10_canSay 1 = .ok (.istore_n 2, 1) := by decide +kernel
theorem dX10_canSay_2 : decode cX10_canSay 2 = .ok (.iload_n 2, 1) := by decide +kernel
theorem dX10_canSay_3 : decode cX10_canSay 3 = .ok (.aload_n 0, 1) := by decide +kernel
theorem dX10_canSay_4 : decode cX10_canSay 4 = .ok (.getfield 98, 3) := by decide +kernel
theorem dX10_canSay_7 : decode cX10_canSay 7 = .ok (.if_icmp .ge 61, 3) := by decide +kernel
theorem dX10_canSay_10 : decode cX10_canSay 10 = .ok (.iconst 0, 1) := by decide +kernel
theorem dX10_canSay_11 : decode cX10_canSay 11 = .ok (.istore_n 3, 1) := by decide +kernel
theorem dX10_canSay_12 : decode cX10_canSay 12 = .ok (.iload_n 3, 1) := by decide +kernel
theorem dX10_canSay_13 : decode cX10_canSay 13 = .ok (.iload_n 2, 1) := by decide +kernel
theorem dX10_canSay_14 : decode cX10_canSay 14 = .ok (.if_icmp .ge 48, 3) := by decide +kernel
theorem dX10_canSay_17 : decode cX10_canSay 17 = .ok (.aload_n 0, 1) := by decide +kernel
theorem dX10_canSay_18 : decode cX10_canSay 18 = .ok (.iload_n 2, 1) := by decide +kernel
theorem dX10_canSay_19 : decode cX10_canSay 19 = .ok (.invokevirtual 109, 3) := by decide +kernel
theorem dX10_canSay_22 : decode cX10_canSay 22 = .ok (.iconst (-1), 1) := by decide +kernel
theorem dX10_canSay_23 : decode cX10_canSay 23 = .ok (.if_icmp .eq 33, 3) := by decide +kernel
theorem dX10_canSay_26 : decode cX10_canSay 26 = .ok (.aload_n 0, 1) := by decide +kernel
theorem dX10_canSay_27 : decode cX10_canSay 27 = .ok (.iload_n 3, 1) := by decide +kernel
theorem dX10_canSay_28 : decode cX10_canSay 28 = .ok (.invokevirtual 109, 3) := by decide +kernel
theorem dX10_canSay_31 : decode cX10_canSay 31 = .ok (.iconst (-1), 1) := by decide +kernel
theorem dX10_canSay_32 : decode cX10_canSay 32 = .ok (.if_icmp .eq 24, 3) := by decide +kernel
theorem dX10_canSay_35 : decode cX10_canSay 35 = .ok (.aload_n 0, 1) := by decide +kernel
theorem dX10_canSay_36 : decode cX10_canSay 36 = .ok (.aload_n 0, 1) := by decide +kernel
theorem dX10_canSay_37 : decode cX10_canSay 37 = .ok (.iload_n 2, 1) := by decide +kernel
theorem dX10_canSay_38 : decode cX10_canSay 38 = .ok (.invokevirtual 109, 3) := by decide +kernel
theorem dX10_canSay_41 : decode cX10_canSay 41 = .ok (.aload_n 0, 1) := by decide +kernel
theorem dX10_canSay_42 : decode cX10_canSay 42 = .ok (.iload_n 3, 1) := by decide +kernel
theorem dX10_canSay_43 : decode cX10_canSay 43 = .ok (.invokevirtual 109, 3) := by decide +kernel
theorem dX10_canSay_46 : decode cX10_canSay 46 = .ok (.isub, 1) := by decide +kernel
theorem dX10_canSay_47 : decode cX10_canSay 47 = .ok (.invokevirtual 223, 3) := by decide +kernel
theorem dX10_canSay_50 : decode cX10_canSay 50 = .ok (.iload_n 1, 1) := by decide +kernel
theorem dX10_canSay_51 : decode cX10_canSay 51 = .ok (.if_icmp .ne 5, 3) := by decide +kernel
theorem dX10_canSay_54 : decode cX10_canSay 54 = .ok (.iconst 1, 1) := by decide +kernel
theorem dX10_canSay_55 : decode cX10_canSay 55 = .ok (.ireturn, 1) := by decide +kernel
theorem dX10_canSay_56 : decode cX10_canSay 56 = .ok (.iinc 3 1, 3) := by decide +kernel
theorem dX10_canSay_59 : decode cX10_canSay 59 = .ok (.goto (-47), 3) := by decide +kernel
theorem dX10_canSay_62 : decode cX10_canSay 62 = .ok (.iinc 2 1, 3) := by decide +kernel
theorem dX10_canSay_65 : decode cX10_canSay 65 = .ok (.goto (-63), 3) := by decide +kernel
theorem dX10_canSay_68 : decode cX10_canSay 68 = .ok (.iconst 0, 1) := by decide +kernel
theorem dX10_canSay_69 : decode cX10_canSay 69 = .ok (.ireturn, 1) := by decide +kernel
theorem dX10_safe_0 : decode cX10_safe 0 = .ok (.aload_n 0, 1) := by decide +kernel
theorem dX10_safe_1 : decode cX10_safe 1 = .ok (.iconst 0, 1) := by decide +kernel
theorem dX10_safe_2 : decode cX10_safe 2 = .ok (.putfield 90, 3) := by decide +kernel
theorem dX10_safe_5 : decode cX10_safe 5 = .ok (.aload_n 0, 1) := by decide +kernel
theorem dX10_safe_6 : decode cX10_safe 6 = .ok (.iload_n 1, 1) := by decide +kernel
theorem dX10_safe_7 : decode cX10_safe 7 = .ok (.iconst 0, 1) := by decide +kernel
theorem dX10_safe_8 : decode cX10_safe 8 = .ok (.iconst 1, 1) := by decide +kernel
theorem dX10_safe_9 : decode cX10_safe 9 = .ok (.invokevirtual 101, 3) := by decide +kernel
theorem dX10_safe_12 : decode cX10_safe 12 = .ok (.ifCond .ne 5, 3) := by decide +kernel
theorem dX10_safe_15 : decode cX10_safe 15 = .ok (.iconst (-1), 1) := by decide +kernel
theorem dX10_safe_16 : decode cX10_safe 16 = .ok (.ireturn, 1) := by decide +kernel
theorem dX10_safe_17 : decode cX10_safe 17 = .ok (.iconst 0, 1) := by decide +kernel
theorem dX10_safe_18 : decode cX10_safe 18 = .ok (.istore_n 2, 1) := by decide +kernel
theorem dX10_safe_19 : decode cX10_safe 19 = .ok (.bipush (-3), 2) := by decide +kernel
theorem dX10_safe_21 : decode cX10_safe 21 = .ok (.istore_n 3, 1) := by decide +kernel
theorem dX10_safe_22 : decode cX10_safe 22 = .ok (.iconst 1, 1) := by decide +kernel
theorem dX10_safe_23 : decode cX10_safe 23 = .ok (.istore 4, 2) := by decide +kernel
theorem dX10_safe_25 : decode cX10_safe 25 = .ok (.iload 4, 2) := by decide +kernel
theorem dX10_safe_27 : decode cX10_safe 27 = .ok (.bipush 24, 2) := by decide +kernel
theorem dX10_safe_29 : decode cX10_safe 29 = .ok (.if_icmp .gt 39, 3) := by decide +kernel
theorem dX10_safe_32 : decode cX10_safe 32 = .ok (.iload 4, 2) := by decide +kernel
theorem dX10_safe_34 : decode cX10_safe 34 = .ok (.iload_n 3, 1) := by decide +kernel
theorem dX10_safe_35 : decode cX10_safe 35 = .ok (.isub, 1) := by decide +kernel
theorem dX10_safe_36 : decode cX10_safe 36 = .ok (.iconst 3, 1) := by decide +kernel
theorem dX10_safe_37 : decode cX10_safe 37 = .ok (.if_icmp .lt 25, 3) := by decide +kernel
theorem dX10_safe_40 : decode cX10_safe 40 = .ok (.aload_n 0, 1) := by decide +kernel
theorem dX10_safe_41 : decode cX10_safe 41 = .ok (.iload 4, 2) := by decide +kernel
theorem dX10_safe_43 : decode cX10_safe 43 = .ok (.invokevirtual 318, 3) := by decide +kernel
theorem dX10_safe_46 : decode cX10_safe 46 = .ok (.ifCond .ne 6, 3) := by decide +kernel
theorem dX10_safe_49 : decode cX10_safe 49 = .ok (.goto 13, 3) := by decide +kernel
theorem dX10_safe_52 : decode cX10_safe 52 = .ok (.iload_n 2, 1) := by decide +kernel
theorem dX10_safe_53 : decode cX10_safe 53 = .ok (.iconst 1, 1) := by decide +kernel
theorem dX10_safe_54 : decode cX10_safe 54 = .ok (.iload 4, 2) := by decide +kernel
theorem dX10_safe_56 : decode cX10_safe 56 = .ok (.ishl, 1) := by decide +kernel
theorem dX10_safe_57 : decode cX10_safe 57 = .ok (.ior, 1) := by decide +kernel
theorem dX10_safe_58 : decode cX10_safe 58 = .ok (.istore_n 2, 1) := by decide +kernel
theorem dX10_safe_59 : decode cX10_safe 59 = .ok (.iload 4, 2) := by decide +kernel
theorem dX10_safe_61 : decode cX10_safe 61 = .ok (.istore_n 3, 1) := by decide +kernel
theorem dX10_safe_62 : decode cX10_safe 62 = .ok (.iinc 4 1, 3) := by decide +kernel
theorem dX10_safe_65 : decode cX10_safe 65 = .ok (.goto (-40), 3) := by decide +kernel
theorem dX10_safe_68 : decode cX10_safe 68 = .ok (.iload_n 1, 1) := by decide +kernel
theorem dX10_safe_69 : decode cX10_safe 69 = .ok (.ifCond .ne 11, 3) := by decide +kernel
theorem dX10_safe_72 : decode cX10_safe 72 = .ok (.aload_n 0, 1) := by decide +kernel
theorem dX10_safe_73 : decode cX10_safe 73 = .ok (.iload_n 2, 1) := by decide +kernel
theorem dX10_safe_74 : decode cX10_safe 74 = .ok (.invokevirtual 226, 3) := by decide +kernel
theorem dX10_safe_77 : decode cX10_safe 77 = .ok (.goto 4, 3) := by decide +kernel
theorem dX10_safe_80 : decode cX10_safe 80 = .ok (.iload_n 2, 1) := by decide +kernel
theorem dX10_safe_81 : decode cX10_safe 81 = .ok (.ireturn, 1) := by decide +kernel
theorem dX10_kept_0 : decode cX10_kept 0 = .ok (.aload_n 0, 1) := by decide +kernel
theorem dX10_kept_1 : decode cX10_kept 1 = .ok (.aload_n 0, 1) := by decide +kernel
theorem dX10_kept_2 : decode cX10_kept 2 = .ok (.getfield 321, 3) := by decide +kernel
theorem dX10_kept_5 : decode cX10_kept 5 = .ok (.iconst 1, 1) := by decide +kernel
theorem dX10_kept_6 : decode cX10_kept 6 = .ok (.iadd, 1) := by decide +kernel
theorem dX10_kept_7 : decode cX10_kept 7 = .ok (.putfield 321, 3) := by decide +kernel
theorem dX10_kept_10 : decode cX10_kept 10 = .ok (.aload_n 0, 1) := by decide +kernel
theorem dX10_kept_11 : decode cX10_kept 11 = .ok (.getfield 324, 3) := by decide +kernel
theorem dX10_kept_14 : decode cX10_kept 14 = .ok (.ifCond .ne 15, 3) := by decide +kernel
theorem dX10_kept_17 : decode cX10_kept 17 = .ok (.aload_n 0, 1) := by decide +kernel
theorem dX10_kept_18 : decode cX10_kept 18 = .ok (.getfield 87, 3) := by decide +kernel
theorem dX10_kept_21 : decode cX10_kept 21 = .ok (.aload_n 0, 1) := by decide +kernel
theorem dX10_kept_22 : decode cX10_kept 22 = .ok (.getfield 321, 3) := by decide +kernel
theorem dX10_kept_25 : decode cX10_kept 25 = .ok (.iconst 1, 1) := by decide +kernel
theorem dX10_kept_26 : decode cX10_kept 26 = .ok (.isub, 1) := by decide +kernel
theorem dX10_kept_27 : decode cX10_kept 27 = .ok (.iaload, 1) := by decide +kernel
theorem dX10_kept_28 : decode cX10_kept 28 = .ok (.ireturn, 1) := by decide +kernel
theorem dX10_kept_29 : decode cX10_kept 29 = .ok (.aload_n 0, 1) := by decide +kernel
theorem dX10_kept_30 : decode cX10_kept 30 = .ok (.getfield 87, 3) := by decide +kernel
theorem dX10_kept_33 : decode cX10_kept 33 = .ok (.aload_n 0, 1) := by decide +kernel
theorem dX10_kept_34 : decode cX10_kept 34 = .ok (.getfield 321, 3) := by decide +kernel
theorem dX10_kept_37 : decode cX10_kept 37 = .ok (.iconst 1, 1) := by decide +kernel
theorem dX10_kept_38 : decode cX10_kept 38 = .ok (.isub, 1) := by decide +kernel
theorem dX10_kept_39 : decode cX10_kept 39 = .ok (.iload_n 1, 1) := by decide +kernel
theorem dX10_kept_40 : decode cX10_kept 40 = .ok (.iastore, 1) := by decide +kernel
theorem dX10_kept_41 : decode cX10_kept 41 = .ok (.iload_n 1, 1) := by decide +kernel
theorem dX10_kept_42 : decode cX10_kept 42 = .ok (.ireturn, 1) := by decide +kernel
theorem dX10_keepsLaw_0 : decode cX10_keepsLaw 0 = .ok (.aload_n 0, 1) := by decide +kernel
theorem dX10_keepsLaw_1 : decode cX10_keepsLaw 1 = .ok (.aload_n 0, 1) := by decide +kernel
theorem dX10_keepsLaw_2 : decode cX10_keepsLaw 2 = .ok (.aload_n 0, 1) := by decide +kernel
theorem dX10_keepsLaw_3 : decode cX10_keepsLaw 3 = .ok (.getfield 216, 3) := by decide +kernel
theorem dX10_keepsLaw_6 : decode cX10_keepsLaw 6 = .ok (.invokevirtual 328, 3) := by decide +kernel
theorem dX10_keepsLaw_9 : decode cX10_keepsLaw 9 = .ok (.putfield 216, 3) := by decide +kernel
theorem dX10_keepsLaw_12 : decode cX10_keepsLaw 12 = .ok (.iconst 0, 1) := by decide +kernel
theorem dX10_keepsLaw_13 : decode cX10_keepsLaw 13 = .ok (.istore_n 1, 1) := by decide +kernel
theorem dX10_keepsLaw_14 : decode cX10_keepsLaw 14 = .ok (.iload_n 1, 1) := by decide +kernel
theorem dX10_keepsLaw_15 : decode cX10_keepsLaw 15 = .ok (.bipush 16, 2) := by decide +kernel
theorem dX10_keepsLaw_17 : decode cX10_keepsLaw 17 = .ok (.if_icmp .ge 57, 3) := by decide +kernel
theorem dX10_keepsLaw_20 : decode cX10_keepsLaw 20 = .ok (.aload_n 0, 1) := by decide +kernel
theorem dX10_keepsLaw_21 : decode cX10_keepsLaw 21 = .ok (.getfield 28, 3) := by decide +kernel
theorem dX10_keepsLaw_24 : decode cX10_keepsLaw 24 = .ok (.iload_n 1, 1) := by decide +kernel
theorem dX10_keepsLaw_25 : decode cX10_keepsLaw 25 = .ok (.aload_n 0, 1) := by decide +kernel
theorem dX10_keepsLaw_26 : decode cX10_keepsLaw 26 = .ok (.aload_n 0, 1) := by decide +kernel
theorem dX10_keepsLaw_27 : decode cX10_keepsLaw 27 = .ok (.getfield 28, 3) := by decide +kernel
theorem dX10_keepsLaw_30 : decode cX10_keepsLaw 30 = .ok (.iload_n 1, 1) := by decide +kernel
theorem dX10_keepsLaw_31 : decode cX10_keepsLaw 31 = .ok (.iaload, 1) := by decide +kernel
theorem dX10_keepsLaw_32 : decode cX10_keepsLaw 32 = .ok (.invokevirtual 328, 3) := by decide +kernel
theorem dX10_keepsLaw_35 : decode cX10_keepsLaw 35 = .ok (.iastore, 1) := by decide +kernel
theorem dX10_keepsLaw_36 : decode cX10_keepsLaw 36 = .ok (.aload_n 0, 1) := by decide +kernel
theorem dX10_keepsLaw_37 : decode cX10_keepsLaw 37 = .ok (.getfield 31, 3) := by decide +kernel
theorem dX10_keepsLaw_40 : decode cX10_keepsLaw 40 = .ok (.iload_n 1, 1) := by decide +kernel
theorem dX10_keepsLaw_41 : decode cX10_keepsLaw 41 = .ok (.aload_n 0, 1) := by decide +kernel
theorem dX10_keepsLaw_42 : decode cX10_keepsLaw 42 = .ok (.aload_n 0, 1) := by decide +kernel
theorem dX10_keepsLaw_43 : decode cX10_keepsLaw 43 = .ok (.getfield 31, 3) := by decide +kernel
theorem dX10_keepsLaw_46 : decode cX10_keepsLaw 46 = .ok (.iload_n 1, 1) := by decide +kernel
theorem dX10_keepsLaw_47 : decode cX10_keepsLaw 47 = .ok (.iaload, 1) := by decide +kernel
theorem dX10_keepsLaw_48 : decode cX10_keepsLaw 48 = .ok (.invokevirtual 328, 3) := by decide +kernel
theorem dX10_keepsLaw_51 : decode cX10_keepsLaw 51 = .ok (.iastore, 1) := by decide +kernel
theorem dX10_keepsLaw_52 : decode cX10_keepsLaw 52 = .ok (.aload_n 0, 1) := by decide +kernel
theorem dX10_keepsLaw_53 : decode cX10_keepsLaw 53 = .ok (.getfield 34, 3) := by decide +kernel
theorem dX10_keepsLaw_56 : decode cX10_keepsLaw 56 = .ok (.iload_n 1, 1) := by decide +kernel
theorem dX10_keepsLaw_57 : decode cX10_keepsLaw 57 = .ok (.aload_n 0, 1) := by decide +kernel
theorem dX10_keepsLaw_58 : decode cX10_keepsLaw 58 = .ok (.aload_n 0, 1) := by decide +kernel
theorem dX10_keepsLaw_59 : decode cX10_keepsLaw 59 = .ok (.getfield 34, 3) := by decide +kernel
theorem dX10_keepsLaw_62 : decode cX10_keepsLaw 62 = .ok (.iload_n 1, 1) := by decide +kernel
theorem dX10_keepsLaw_63 : decode cX10_keepsLaw 63 = .ok (.iaload, 1) := by decide +kernel
theorem dX10_keepsLaw_64 : decode cX10_keepsLaw 64 = .ok (.invokevirtual 328, 3) := by decide +kernel
theorem dX10_keepsLaw_67 : decode cX10_keepsLaw 67 = .ok (.iastore, 1) := by decide +kernel
theorem dX10_keepsLaw_68 : decode cX10_keepsLaw 68 = .ok (.iinc 1 1, 3) := by decide +kernel
theorem dX10_keepsLaw_71 : decode cX10_keepsLaw 71 = .ok (.goto (-57), 3) := by decide +kernel
theorem dX10_keepsLaw_74 : decode cX10_keepsLaw 74 = .ok (.iconst 0, 1) := by decide +kernel
theorem dX10_keepsLaw_75 : decode cX10_keepsLaw 75 = .ok (.istore_n 1, 1) := by decide +kernel
theorem dX10_keepsLaw_76 : decode cX10_keepsLaw 76 = .ok (.iload_n 1, 1) := by decide +kernel
theorem dX10_keepsLaw_77 : decode cX10_keepsLaw 77 = .ok (.sipush 400, 3) := by decide +kernel
theorem dX10_keepsLaw_80 : decode cX10_keepsLaw 80 = .ok (.if_icmp .ge 41, 3) := by decide +kernel
theorem dX10_keepsLaw_83 : decode cX10_keepsLaw 83 = .ok (.aload_n 0, 1) := by decide +kernel
theorem dX10_keepsLaw_84 : decode cX10_keepsLaw 84 = .ok (.getfield 37, 3) := by decide +kernel
theorem dX10_keepsLaw_87 : decode cX10_keepsLaw 87 = .ok (.iload_n 1, 1) := by decide +kernel
theorem dX10_keepsLaw_88 : decode cX10_keepsLaw 88 = .ok (.aload_n 0, 1) := by decide +kernel
theorem dX10_keepsLaw_89 : decode cX10_keepsLaw 89 = .ok (.aload_n 0, 1) := by decide +kernel
theorem dX10_keepsLaw_90 : decode cX10_keepsLaw 90 = .ok (.getfield 37, 3) := by decide +kernel
theorem dX10_keepsLaw_93 : decode cX10_keepsLaw 93 = .ok (.iload_n 1, 1) := by decide +kernel
theorem dX10_keepsLaw_94 : decode cX10_keepsLaw 94 = .ok (.iaload, 1) := by decide +kernel
theorem dX10_keepsLaw_95 : decode cX10_keepsLaw 95 = .ok (.invokevirtual 328, 3) := by decide +kernel
theorem dX10_keepsLaw_98 : decode cX10_keepsLaw 98 = .ok (.iastore, 1) := by decide +kernel
theorem dX10_keepsLaw_99 : decode cX10_keepsLaw 99 = .ok (.aload_n 0, 1) := by decide +kernel
theorem dX10_keepsLaw_100 : decode cX10_keepsLaw 100 = .ok (.getfield 40, 3) := by decide +kernel
theorem dX10_keepsLaw_103 : decode cX10_keepsLaw 103 = .ok (.iload_n 1, 1) := by decide +kernel
theorem dX10_keepsLaw_104 : decode cX10_keepsLaw 104 = .ok (.aload_n 0, 1) := by decide +kernel
theorem dX10_keepsLaw_105 : decode cX10_keepsLaw 105 = .ok (.aload_n 0, 1) := by decide +kernel
theorem dX10_keepsLaw_106 : decode cX10_keepsLaw 106 = .ok (.getfield 40, 3) := by decide +kernel
theorem dX10_keepsLaw_109 : decode cX10_keepsLaw 109 = .ok (.iload_n 1, 1) := by decide +kernel
theorem dX10_keepsLaw_110 : decode cX10_keepsLaw 110 = .ok (.iaload, 1) := by decide +kernel
theorem dX10_keepsLaw_111 : decode cX10_keepsLaw 111 = .ok (.invokevirtual 328, 3) := by decide +kernel
theorem dX10_keepsLaw_114 : decode cX10_keepsLaw 114 = .ok (.iastore, 1) := by decide +kernel
theorem dX10_keepsLaw_115 : decode cX10_keepsLaw 115 = .ok (.iinc 1 1, 3) := by decide +kernel
theorem dX10_keepsLaw_118 : decode cX10_keepsLaw 118 = .ok (.goto (-42), 3) := by decide +kernel
theorem dX10_keepsLaw_121 : decode cX10_keepsLaw 121 = .ok (.return_, 1) := by decide +kernel
theorem dX10_keepsRows_0 : decode cX10_keepsRows 0 = .ok (.iconst 0, 1) := by decide +kernel
theorem dX10_keepsRows_1 : decode cX10_keepsRows 1 = .ok (.istore_n 1, 1) := by decide +kernel
theorem dX10_keepsRows_2 : decode cX10_keepsRows 2 = .ok (.iload_n 1, 1) := by decide +kernel
theorem dX10_keepsRows_3 : decode cX10_keepsRows 3 = .ok (.iconst 4, 1) := by decide +kernel
theorem dX10_keepsRows_4 : decode cX10_keepsRows 4 = .ok (.if_icmp .ge 25, 3) := by decide +kernel
theorem dX10_keepsRows_7 : decode cX10_keepsRows 7 = .ok (.aload_n 0, 1) := by decide +kernel
theorem dX10_keepsRows_8 : decode cX10_keepsRows 8 = .ok (.getfield 60, 3) := by decide +kernel
theorem dX10_keepsRows_11 : decode cX10_keepsRows 11 = .ok (.iload_n 1, 1) := by decide +kernel
theorem dX10_keepsRows_12 : decode cX10_keepsRows 12 = .ok (.aload_n 0, 1) := by decide +kernel
theorem dX10_keepsRows_13 : decode cX10_keepsRows 13 = .ok (.aload_n 0, 1) := by decide +kernel
theorem dX10_keepsRows_14 : decode cX10_keepsRows 14 = .ok (.getfield 60, 3) := by decide +kernel
theorem dX10_keepsRows_17 : decode cX10_keepsRows 17 = .ok (.iload_n 1, 1) := by decide +kernel
theorem dX10_keepsRows_18 : decode cX10_keepsRows 18 = .ok (.iaload, 1) := by decide +kernel
theorem dX10_keepsRows_19 : decode cX10_keepsRows 19 = .ok (.invokevirtual 328, 3) := by decide +kernel
theorem dX10_keepsRows_22 : decode cX10_keepsRows 22 = .ok (.iastore, 1) := by decide +kernel
theorem dX10_keepsRows_23 : decode cX10_keepsRows 23 = .ok (.iinc 1 1, 3) := by decide +kernel
theorem dX10_keepsRows_26 : decode cX10_keepsRows 26 = .ok (.goto (-24), 3) := by decide +kernel
theorem dX10_keepsRows_29 : decode cX10_keepsRows 29 = .ok (.iconst 0, 1) := by decide +kernel
theorem dX10_keepsRows_30 : decode cX10_keepsRows 30 = .ok (.istore_n 1, 1) := by decide +kernel
theorem dX10_keepsRows_31 : decode cX10_keepsRows 31 = .ok (.iload_n 1, 1) := by decide +kernel
theorem dX10_keepsRows_32 : decode cX10_keepsRows 32 = .ok (.bipush 48, 2) := by decide +kernel
theorem dX10_keepsRows_34 : decode cX10_keepsRows 34 = .ok (.if_icmp .ge 25, 3) := by decide +kernel
theorem dX10_keepsRows_37 : decode cX10_keepsRows 37 = .ok (.aload_n 0, 1) := by decide +kernel
theorem dX10_keepsRows_38 : decode cX10_keepsRows 38 = .ok (.getfield 63, 3) := by decide +kernel
theorem dX10_keepsRows_41 : decode cX10_keepsRows 41 = .ok (.iload_n 1, 1) := by decide +kernel
theorem dX10_keepsRows_42 : decode cX10_keepsRows 42 = .ok (.aload_n 0, 1) := by decide +kernel
theorem dX10_keepsRows_43 : decode cX10_keepsRows 43 = .ok (.aload_n 0, 1) := by decide +kernel
theorem dX10_keepsRows_44 : decode cX10_keepsRows 44 = .ok (.getfield 63, 3) := by decide +kernel
theorem dX10_keepsRows_47 : decode cX10_keepsRows 47 = .ok (.iload_n 1, 1) := by decide +kernel
theorem dX10_keepsRows_48 : decode cX10_keepsRows 48 = .ok (.iaload, 1) := by decide +kernel
theorem dX10_keepsRows_49 : decode cX10_keepsRows 49 = .ok (.invokevirtual 328, 3) := by decide +kernel
theorem dX10_keepsRows_52 : decode cX10_keepsRows 52 = .ok (.iastore, 1) := by decide +kernel
theorem dX10_keepsRows_53 : decode cX10_keepsRows 53 = .ok (.iinc 1 1, 3) := by decide +kernel
theorem dX10_keepsRows_56 : decode cX10_keepsRows 56 = .ok (.goto (-25), 3) := by decide +kernel
theorem dX10_keepsRows_59 : decode cX10_keepsRows 59 = .ok (.aload_n 0, 1) := by decide +kernel
theorem dX10_keepsRows_60 : decode cX10_keepsRows 60 = .ok (.aload_n 0, 1) := by decide +kernel
theorem dX10_keepsRows_61 : decode cX10_keepsRows 61 = .ok (.aload_n 0, 1) := by decide +kernel
theorem dX10_keepsRows_62 : decode cX10_keepsRows 62 = .ok (.getfield 269, 3) := by decide +kernel
theorem dX10_keepsRows_65 : decode cX10_keepsRows 65 = .ok (.invokevirtual 328, 3) := by decide +kernel
theorem dX10_keepsRows_68 : decode cX10_keepsRows 68 = .ok (.putfield 269, 3) := by decide +kernel
theorem dX10_keepsRows_71 : decode cX10_keepsRows 71 = .ok (.iconst 0, 1) := by decide +kernel
theorem dX10_keepsRows_72 : decode cX10_keepsRows 72 = .ok (.istore_n 1, 1) := by decide +kernel
theorem dX10_keepsRows_73 : decode cX10_keepsRows 73 = .ok (.iload_n 1, 1) := by decide +kernel
theorem dX10_keepsRows_74 : decode cX10_keepsRows 74 = .ok (.bipush 8, 2) := by decide +kernel
theorem dX10_keepsRows_76 : decode cX10_keepsRows 76 = .ok (.if_icmp .ge 41, 3) := by decide +kernel
theorem dX10_keepsRows_79 : decode cX10_keepsRows 79 = .ok (.aload_n 0, 1) := by decide +kernel
theorem dX10_keepsRows_80 : decode cX10_keepsRows 80 = .ok (.getfield 66, 3) := by decide +kernel
theorem dX10_keepsRows_83 : decode cX10_keepsRows 83 = .ok (.iload_n 1, 1) := by decide +kernel
theorem dX10_keepsRows_84 : decode cX10_keepsRows 84 = .ok (.aload_n 0, 1) := by decide +kernel
theorem dX10_keepsRows_85 : decode cX10_keepsRows 85 = .ok (.aload_n 0, 1) := by decide +kernel
theorem dX10_keepsRows_86 : decode cX10_keepsRows 86 = .ok (.getfield 66, 3) := by decide +kernel
theorem dX10_keepsRows_89 : decode cX10_keepsRows 89 = .ok (.iload_n 1, 1) := by decide +kernel
theorem dX10_keepsRows_90 : decode cX10_keepsRows 90 = .ok (.iaload, 1) := by decide +kernel
theorem dX10_keepsRows_91 : decode cX10_keepsRows 91 = .ok (.invokevirtual 328, 3) := by decide +kernel
theorem dX10_keepsRows_94 : decode cX10_keepsRows 94 = .ok (.iastore, 1) := by decide +kernel
theorem dX10_keepsRows_95 : decode cX10_keepsRows 95 = .ok (.aload_n 0, 1) := by decide +kernel
theorem dX10_keepsRows_96 : decode cX10_keepsRows 96 = .ok (.getfield 69, 3) := by decide +kernel
theorem dX10_keepsRows_99 : decode cX10_keepsRows 99 = .ok (.iload_n 1, 1) := by decide +kernel
theorem dX10_keepsRows_100 : decode cX10_keepsRows 100 = .ok (.aload_n 0, 1) := by decide +kernel
theorem dX10_keepsRows_101 : decode cX10_keepsRows 101 = .ok (.aload_n 0, 1) := by decide +kernel
theorem dX10_keepsRows_102 : decode cX10_keepsRows 102 = .ok (.getfield 69, 3) := by decide +kernel
theorem dX10_keepsRows_105 : decode cX10_keepsRows 105 = .ok (.iload_n 1, 1) := by decide +kernel
theorem dX10_keepsRows_106 : decode cX10_keepsRows 106 = .ok (.iaload, 1) := by decide +kernel
theorem dX10_keepsRows_107 : decode cX10_keepsRows 107 = .ok (.invokevirtual 328, 3) := by decide +kernel
theorem dX10_keepsRows_110 : decode cX10_keepsRows 110 = .ok (.iastore, 1) := by decide +kernel
theorem dX10_keepsRows_111 : decode cX10_keepsRows 111 = .ok (.iinc 1 1, 3) := by decide +kernel
theorem dX10_keepsRows_114 : decode cX10_keepsRows 114 = .ok (.goto (-41), 3) := by decide +kernel
theorem dX10_keepsRows_117 : decode cX10_keepsRows 117 = .ok (.aload_n 0, 1) := by decide +kernel
theorem dX10_keepsRows_118 : decode cX10_keepsRows 118 = .ok (.aload_n 0, 1) := by decide +kernel
theorem dX10_keepsRows_119 : decode cX10_keepsRows 119 = .ok (.aload_n 0, 1) := by decide +kernel
theorem dX10_keepsRows_120 : decode cX10_keepsRows 120 = .ok (.getfield 284, 3) := by decide +kernel
theorem dX10_keepsRows_123 : decode cX10_keepsRows 123 = .ok (.invokevirtual 328, 3) := by decide +kernel
theorem dX10_keepsRows_126 : decode cX10_keepsRows 126 = .ok (.putfield 284, 3) := by decide +kernel
theorem dX10_keepsRows_129 : decode cX10_keepsRows 129 = .ok (.iconst 0, 1) := by decide +kernel
theorem dX10_keepsRows_130 : decode cX10_keepsRows 130 = .ok (.istore_n 1, 1) := by decide +kernel
theorem dX10_keepsRows_131 : decode cX10_keepsRows 131 = .ok (.iload_n 1, 1) := by decide +kernel
theorem dX10_keepsRows_132 : decode cX10_keepsRows 132 = .ok (.bipush 15, 2) := by decide +kernel
theorem dX10_keepsRows_134 : decode cX10_keepsRows 134 = .ok (.if_icmp .ge 25, 3) := by decide +kernel
theorem dX10_keepsRows_137 : decode cX10_keepsRows 137 = .ok (.aload_n 0, 1) := by decide +kernel
theorem dX10_keepsRows_138 : decode cX10_keepsRows 138 = .ok (.getfield 75, 3) := by decide +kernel
theorem dX10_keepsRows_141 : decode cX10_keepsRows 141 = .ok (.iload_n 1, 1) := by decide +kernel
theorem dX10_keepsRows_142 : decode cX10_keepsRows 142 = .ok (.aload_n 0, 1) := by decide +kernel
theorem dX10_keepsRows_143 : decode cX10_keepsRows 143 = .ok (.aload_n 0, 1) := by decide +kernel
theorem dX10_keepsRows_144 : decode cX10_keepsRows 144 = .ok (.getfield 75, 3) := by decide +kernel
theorem dX10_keepsRows_147 : decode cX10_keepsRows 147 = .ok (.iload_n 1, 1) := by decide +kernel
theorem dX10_keepsRows_148 : decode cX10_keepsRows 148 = .ok (.iaload, 1) := by decide +kernel
theorem dX10_keepsRows_149 : decode cX10_keepsRows 149 = .ok (.invokevirtual 328, 3) := by decide +kernel
theorem dX10_keepsRows_152 : decode cX10_keepsRows 152 = .ok (.iastore, 1) := by decide +kernel
theorem dX10_keepsRows_153 : decode cX10_keepsRows 153 = .ok (.iinc 1 1, 3) := by decide +kernel
theorem dX10_keepsRows_156 : decode cX10_keepsRows 156 = .ok (.goto (-25), 3) := by decide +kernel
theorem dX10_keepsRows_159 : decode cX10_keepsRows 159 = .ok (.return_, 1) := by decide +kernel
theorem dX10_image_0 : decode cX10_image 0 = .ok (.aload_n 0, 1) := by decide +kernel
theorem dX10_image_1 : decode cX10_image 1 = .ok (.iconst 0, 1) := by decide +kernel
theorem dX10_image_2 : decode cX10_image 2 = .ok (.putfield 90, 3) := by decide +kernel
theorem dX10_image_5 : decode cX10_image 5 = .ok (.iload_n 1, 1) := by decide +kernel
theorem dX10_image_6 : decode cX10_image 6 = .ok (.ifCond .ne 12, 3) := by decide +kernel
theorem dX10_image_9 : decode cX10_image 9 = .ok (.aload_n 0, 1) := by decide +kernel
theorem dX10_image_10 : decode cX10_image 10 = .ok (.getfield 331, 3) := by decide +kernel
theorem dX10_image_13 : decode cX10_image 13 = .ok (.ifCond .ne 5, 3) := by decide +kernel
theorem dX10_image_16 : decode cX10_image 16 = .ok (.iconst 0, 1) := by decide +kernel
theorem dX10_image_17 : decode cX10_image 17 = .ok (.ireturn, 1) := by decide +kernel
theorem dX10_image_18 : decode cX10_image 18 = .ok (.aload_n 0, 1) := by decide +kernel
theorem dX10_image_19 : decode cX10_image 19 = .ok (.iload_n 1, 1) := by decide +kernel
theorem dX10_image_20 : decode cX10_image 20 = .ok (.putfield 324, 3) := by decide +kernel
theorem dX10_image_23 : decode cX10_image 23 = .ok (.aload_n 0, 1) := by decide +kernel
theorem dX10_image_24 : decode cX10_image 24 = .ok (.iconst 1, 1) := by decide +kernel
theorem dX10_image_25 : decode cX10_image 25 = .ok (.putfield 331, 3) := by decide +kernel
theorem dX10_image_28 : decode cX10_image 28 = .ok (.aload_n 0, 1) := by decide +kernel
theorem dX10_image_29 : decode cX10_image 29 = .ok (.iconst 0, 1) := by decide +kernel
theorem dX10_image_30 : decode cX10_image 30 = .ok (.putfield 321, 3) := by decide +kernel
theorem dX10_image_33 : decode cX10_image 33 = .ok (.iconst 0, 1) := by decide +kernel
theorem dX10_image_34 : decode cX10_image 34 = .ok (.istore_n 2, 1) := by decide +kernel
theorem dX10_image_35 : decode cX10_image 35 = .ok (.iload_n 2, 1) := by decide +kernel
theorem dX10_image_36 : decode cX10_image 36 = .ok (.bipush 13, 2) := by decide +kernel
theorem dX10_image_38 : decode cX10_image 38 = .ok (.if_icmp .ge 25, 3) := by decide +kernel
theorem dX10_image_41 : decode cX10_image 41 = .ok (.aload_n 0, 1) := by decide +kernel
theorem dX10_image_42 : decode cX10_image 42 = .ok (.getfield 7, 3) := by decide +kernel
theorem dX10_image_45 : decode cX10_image 45 = .ok (.iload_n 2, 1) := by decide +kernel
theorem dX10_image_46 : decode cX10_image 46 = .ok (.aload_n 0, 1) := by decide +kernel
theorem dX10_image_47 : decode cX10_image 47 = .ok (.aload_n 0, 1) := by decide +kernel
theorem dX10_image_48 : decode cX10_image 48 = .ok (.getfield 7, 3) := by decide +kernel
theorem dX10_image_51 : decode cX10_image 51 = .ok (.iload_n 2, 1) := by decide +kernel
theorem dX10_image_52 : decode cX10_image 52 = .ok (.iaload, 1) := by decide +kernel
theorem dX10_image_53 : decode cX10_image 53 = .ok (.invokevirtual 328, 3) := by decide +kernel
theorem dX10_image_56 : decode cX10_image 56 = .ok (.iastore, 1) := by decide +kernel
theorem dX10_image_57 : decode cX10_image 57 = .ok (.iinc 2 1, 3) := by decide +kernel
theorem dX10_image_60 : decode cX10_image 60 = .ok (.goto (-25), 3) := by decide +kernel
theorem dX10_image_63 : decode cX10_image 63 = .ok (.aload_n 0, 1) := by decide +kernel
theorem dX10_image_64 : decode cX10_image 64 = .ok (.aload_n 0, 1) := by decide +kernel
theorem dX10_image_65 : decode cX10_image 65 = .ok (.aload_n 0, 1) := by decide +kernel
theorem dX10_image_66 : decode cX10_image 66 = .ok (.getfield 98, 3) := by decide +kernel
theorem dX10_image_69 : decode cX10_image 69 = .ok (.invokevirtual 328, 3) := by decide +kernel
theorem dX10_image_72 : decode cX10_image 72 = .ok (.putfield 98, 3) := by decide +kernel
theorem dX10_image_75 : decode cX10_image 75 = .ok (.aload_n 0, 1) := by decide +kernel
theorem dX10_image_76 : decode cX10_image 76 = .ok (.aload_n 0, 1) := by decide +kernel
theorem dX10_image_77 : decode cX10_image 77 = .ok (.aload_n 0, 1) := by decide +kernel
theorem dX10_image_78 : decode cX10_image 78 = .ok (.getfield 116, 3) := by decide +kernel
theorem dX10_image_81 : decode cX10_image 81 = .ok (.invokevirtual 328, 3) := by decide +kernel
theorem dX10_image_84 : decode cX10_image 84 = .ok (.putfield 116, 3) := by decide +kernel
theorem dX10_image_87 : decode cX10_image 87 = .ok (.iconst 0, 1) := by decide +kernel
theorem dX10_image_88 : decode cX10_image 88 = .ok (.istore_n 2, 1) := by decide +kernel
theorem dX10_image_89 : decode cX10_image 89 = .ok (.iload_n 2, 1) := by decide +kernel
theorem dX10_image_90 : decode cX10_image 90 = .ok (.bipush 10, 2) := by decide +kernel
theorem dX10_image_92 : decode cX10_image 92 = .ok (.if_icmp .ge 25, 3) := by decide +kernel
theorem dX10_image_95 : decode cX10_image 95 = .ok (.aload_n 0, 1) := by decide +kernel
theorem dX10_image_96 : decode cX10_image 96 = .ok (.getfield 16, 3) := by decide +kernel
theorem dX10_image_99 : decode cX10_image 99 = .ok (.iload_n 2, 1) := by decide +kernel
theorem dX10_image_100 : decode cX10_image 100 = .ok (.aload_n 0, 1) := by decide +kernel
theorem dX10_image_101 : decode cX10_image 101 = .ok (.aload_n 0, 1) := by decide +kernel
theorem dX10_image_102 : decode cX10_image 102 = .ok (.getfield 16, 3) := by decide +kernel
theorem dX10_image_105 : decode cX10_image 105 = .ok (.iload_n 2, 1) := by decide +kernel
theorem dX10_image_106 : decode cX10_image 106 = .ok (.iaload, 1) := by decide +kernel
theorem dX10_image_107 : decode cX10_image 107 = .ok (.invokevirtual 328, 3) := by decide +kernel
theorem dX10_image_110 : decode cX10_image 110 = .ok (.iastore, 1) := by decide +kernel
theorem dX10_image_111 : decode cX10_image 111 = .ok (.iinc 2 1, 3) := by decide +kernel
theorem dX10_image_114 : decode cX10_image 114 = .ok (.goto (-25), 3) := by decide +kernel
theorem dX10_image_117 : decode cX10_image 117 = .ok (.aload_n 0, 1) := by decide +kernel
theorem dX10_image_118 : decode cX10_image 118 = .ok (.aload_n 0, 1) := by decide +kernel
theorem dX10_image_119 : decode cX10_image 119 = .ok (.aload_n 0, 1) := by decide +kernel
theorem dX10_image_120 : decode cX10_image 120 = .ok (.getfield 119, 3) := by decide +kernel
theorem dX10_image_123 : decode cX10_image 123 = .ok (.invokevirtual 328, 3) := by decide +kernel
theorem dX10_image_126 : decode cX10_image 126 = .ok (.putfield 119, 3) := by decide +kernel
theorem dX10_image_129 : decode cX10_image 129 = .ok (.iconst 0, 1) := by decide +kernel
theorem dX10_image_130 : decode cX10_image 130 = .ok (.istore_n 2, 1) := by decide +kernel
theorem dX10_image_131 : decode cX10_image 131 = .ok (.iload_n 2, 1) := by decide +kernel
theorem dX10_image_132 : decode cX10_image 132 = .ok (.sipush 500, 3) := by decide +kernel
theorem dX10_image_135 : decode cX10_image 135 = .ok (.if_icmp .ge 25, 3) := by decide +kernel
theorem dX10_image_138 : decode cX10_image 138 = .ok (.aload_n 0, 1) := by decide +kernel
theorem dX10_image_139 : decode cX10_image 139 = .ok (.getfield 19, 3) := by decide +kernel
theorem dX10_image_142 : decode cX10_image 142 = .ok (.iload_n 2, 1) := by decide +kernel
theorem dX10_image_143 : decode cX10_image 143 = .ok (.aload_n 0, 1) := by decide +kernel
theorem dX10_image_144 : decode cX10_image 144 = .ok (.aload_n 0, 1) := by decide +kernel
theorem dX10_image_145 : decode cX10_image 145 = .ok (.getfield 19, 3) := by decide +kernel
theorem dX10_image_148 : decode cX10_image 148 = .ok (.iload_n 2, 1) := by decide +kernel
theorem dX10_image_149 : decode cX10_image 149 = .ok (.iaload, 1) := by decide +kernel
theorem dX10_image_150 : decode cX10_image 150 = .ok (.invokevirtual 328, 3) := by decide +kernel
theorem dX10_image_153 : decode cX10_image 153 = .ok (.iastore, 1) := by decide +kernel
theorem dX10_image_154 : decode cX10_image 154 = .ok (.iinc 2 1, 3) := by decide +kernel
theorem dX10_image_157 : decode cX10_image 157 = .ok (.goto (-26), 3) := by decide +kernel
theorem dX10_image_160 : decode cX10_image 160 = .ok (.aload_n 0, 1) := by decide +kernel
theorem dX10_image_161 : decode cX10_image 161 = .ok (.invokevirtual 334, 3) := by decide +kernel
theorem dX10_image_164 : decode cX10_image 164 = .ok (.aload_n 0, 1) := by decide +kernel
theorem dX10_image_165 : decode cX10_image 165 = .ok (.invokevirtual 337, 3) := by decide +kernel
theorem dX10_image_168 : decode cX10_image 168 = .ok (.iload_n 1, 1) := by decide +kernel
theorem dX10_image_169 : decode cX10_image 169 = .ok (.ifCond .ne 8, 3) := by decide +kernel
theorem dX10_image_172 : decode cX10_image 172 = .ok (.aload_n 0, 1) := by decide +kernel
theorem dX10_image_173 : decode cX10_image 173 = .ok (.iconst 0, 1) := by decide +kernel
theorem dX10_image_174 : decode cX10_image 174 = .ok (.putfield 93, 3) := by decide +kernel
theorem dX10_image_177 : decode cX10_image 177 = .ok (.iconst 1, 1) := by decide +kernel
theorem dX10_image_178 : decode cX10_image 178 = .ok (.ireturn, 1) := by decide +kernel
theorem dX10_look_0 : decode cX10_look 0 = .ok (.aload_n 0, 1) := by decide +kernel
theorem dX10_look_1 : decode cX10_look 1 = .ok (.iconst 0, 1) := by decide +kernel
theorem dX10_look_2 : decode cX10_look 2 = .ok (.putfield 90, 3) := by decide +kernel
theorem dX10_look_5 : decode cX10_look 5 = .ok (.iload_n 1, 1) := by decide +kernel
theorem dX10_look_6 : decode cX10_look 6 = .ok (.ifCond .ne 8, 3) := by decide +kernel
theorem dX10_look_9 : decode cX10_look 9 = .ok (.aload_n 0, 1) := by decide +kernel
theorem dX10_look_10 : decode cX10_look 10 = .ok (.getfield 98, 3) := by decide +kernel
theorem dX10_look_13 : decode cX10_look 13 = .ok (.ireturn, 1) := by decide +kernel
theorem dX10_look_14 : decode cX10_look 14 = .ok (.iload_n 1, 1) := by decide +kernel
theorem dX10_look_15 : decode cX10_look 15 = .ok (.iconst 1, 1) := by decide +kernel
theorem dX10_look_16 : decode cX10_look 16 = .ok (.if_icmp .ne 11, 3) := by decide +kernel
theorem dX10_look_19 : decode cX10_look 19 = .ok (.aload_n 0, 1) := by decide +kernel
theorem dX10_look_20 : decode cX10_look 20 = .ok (.getfield 7, 3) := by decide +kernel
theorem dX10_look_23 : decode cX10_look 23 = .ok (.bipush 11, 2) := by decide +kernel
theorem dX10_look_25 : decode cX10_look 25 = .ok (.iaload, 1) := by decide +kernel
theorem dX10_look_26 : decode cX10_look 26 = .ok (.ireturn, 1) := by decide +kernel
theorem dX10_look_27 : decode cX10_look 27 = .ok (.iload_n 1, 1) := by decide +kernel
theorem dX10_look_28 : decode cX10_look 28 = .ok (.iconst 2, 1) := by decide +kernel
theorem dX10_look_29 : decode cX10_look 29 = .ok (.if_icmp .ne 11, 3) := by decide +kernel
theorem dX10_look_32 : decode cX10_look 32 = .ok (.aload_n 0, 1) := by decide +kernel
theorem dX10_look_33 : decode cX10_look 33 = .ok (.getfield 7, 3) := by decide +kernel
theorem dX10_look_36 : decode cX10_look 36 = .ok (.bipush 10, 2) := by decide +kernel
theorem dX10_look_38 : decode cX10_look 38 = .ok (.iaload, 1) := by decide +kernel
theorem dX10_look_39 : decode cX10_look 39 = .ok (.ireturn, 1) := by decide +kernel
theorem dX10_look_40 : decode cX10_look 40 = .ok (.iload_n 1, 1) := by decide +kernel
theorem dX10_look_41 : decode cX10_look 41 = .ok (.iconst 3, 1) := by decide +kernel
theorem dX10_look_42 : decode cX10_look 42 = .ok (.if_icmp .ne 8, 3) := by decide +kernel
theorem dX10_look_45 : decode cX10_look 45 = .ok (.aload_n 0, 1) := by decide +kernel
theorem dX10_look_46 : decode cX10_look 46 = .ok (.getfield 119, 3) := by decide +kernel
theorem dX10_look_49 : decode cX10_look 49 = .ok (.ireturn, 1) := by decide +kernel
theorem dX10_look_50 : decode cX10_look 50 = .ok (.iload_n 1, 1) := by decide +kernel
theorem dX10_look_51 : decode cX10_look 51 = .ok (.iconst 4, 1) := by decide +kernel
theorem dX10_look_52 : decode cX10_look 52 = .ok (.if_icmp .ne 11, 3) := by decide +kernel
theorem dX10_look_55 : decode cX10_look 55 = .ok (.aload_n 0, 1) := by decide +kernel
theorem dX10_look_56 : decode cX10_look 56 = .ok (.getfield 7, 3) := by decide +kernel
theorem dX10_look_59 : decode cX10_look 59 = .ok (.bipush 12, 2) := by decide +kernel
theorem dX10_look_61 : decode cX10_look 61 = .ok (.iaload, 1) := by decide +kernel
theorem dX10_look_62 : decode cX10_look 62 = .ok (.ireturn, 1) := by decide +kernel
theorem dX10_look_63 : decode cX10_look 63 = .ok (.iload_n 1, 1) := by decide +kernel
theorem dX10_look_64 : decode cX10_look 64 = .ok (.iconst 5, 1) := by decide +kernel
theorem dX10_look_65 : decode cX10_look 65 = .ok (.if_icmp .ne 8, 3) := by decide +kernel
theorem dX10_look_68 : decode cX10_look 68 = .ok (.aload_n 0, 1) := by decide +kernel
theorem dX10_look_69 : decode cX10_look 69 = .ok (.getfield 216, 3) := by decide +kernel
theorem dX10_look_72 : decode cX10_look 72 = .ok (.ireturn, 1) := by decide +kernel
theorem dX10_look_73 : decode cX10_look 73 = .ok (.iload_n 1, 1) := by decide +kernel
theorem dX10_look_74 : decode cX10_look 74 = .ok (.bipush 6, 2) := by decide +kernel
theorem dX10_look_76 : decode cX10_look 76 = .ok (.if_icmp .ne 8, 3) := by decide +kernel
theorem dX10_look_79 : decode cX10_look 79 = .ok (.aload_n 0, 1) := by decide +kernel
theorem dX10_look_80 : decode cX10_look 80 = .ok (.getfield 93, 3) := by decide +kernel
theorem dX10_look_83 : decode cX10_look 83 = .ok (.ireturn, 1) := by decide +kernel
theorem dX10_look_84 : decode cX10_look 84 = .ok (.iload_n 1, 1) := by decide +kernel
theorem dX10_look_85 : decode cX10_look 85 = .ok (.bipush 7, 2) := by decide +kernel
theorem dX10_look_87 : decode cX10_look 87 = .ok (.if_icmp .ne 8, 3) := by decide +kernel
theorem dX10_look_90 : decode cX10_look 90 = .ok (.aload_n 0, 1) := by decide +kernel
theorem dX10_look_91 : decode cX10_look 91 = .ok (.getfield 269, 3) := by decide +kernel
theorem dX10_look_94 : decode cX10_look 94 = .ok (.ireturn, 1) := by decide +kernel
theorem dX10_look_95 : decode cX10_look 95 = .ok (.iload_n 1, 1) := by decide +kernel
theorem dX10_look_96 : decode cX10_look 96 = .ok (.bipush 8, 2) := by decide +kernel
theorem dX10_look_98 : decode cX10_look 98 = .ok (.if_icmp .ne 8, 3) := by decide +kernel
theorem dX10_look_101 : decode cX10_look 101 = .ok (.aload_n 0, 1) := by decide +kernel
theorem dX10_look_102 : decode cX10_look 102 = .ok (.getfield 284, 3) := by decide +kernel
theorem dX10_look_105 : decode cX10_look 105 = .ok (.ireturn, 1) := by decide +kernel
theorem dX10_look_106 : decode cX10_look 106 = .ok (.aload_n 0, 1) := by decide +kernel
theorem dX10_look_107 : decode cX10_look 107 = .ok (.iload_n 1, 1) := by decide +kernel
theorem dX10_look_108 : decode cX10_look 108 = .ok (.bipush 10, 2) := by decide +kernel
theorem dX10_look_110 : decode cX10_look 110 = .ok (.bipush 13, 2) := by decide +kernel
theorem dX10_look_112 : decode cX10_look 112 = .ok (.invokevirtual 101, 3) := by decide +kernel
theorem dX10_look_115 : decode cX10_look 115 = .ok (.ifCond .eq 15, 3) := by decide +kernel
theorem dX10_look_118 : decode cX10_look 118 = .ok (.aload_n 0, 1) := by decide +kernel
theorem dX10_look_119 : decode cX10_look 119 = .ok (.getfield 60, 3) := by decide +kernel
theorem dX10_look_122 : decode cX10_look 122 = .ok (.iload_n 1, 1) := by decide +kernel
theorem dX10_look_123 : decode cX10_look 123 = .ok (.bipush 10, 2) := by decide +kernel
theorem dX10_look_125 : decode cX10_look 125 = .ok (.isub, 1) := by decide +kernel
theorem dX10_look_126 : decode cX10_look 126 = .ok (.iaload, 1) := by decide +kernel
theorem dX10_look_127 : decode cX10_look 127 = .ok (.goto 4, 3) := by decide +kernel
theorem dX10_look_130 : decode cX10_look 130 = .ok (.iconst (-1), 1) := by decide +kernel
theorem dX10_look_131 : decode cX10_look 131 = .ok (.ireturn, 1) := by decide +kernel
theorem zz_end : True := trivial
