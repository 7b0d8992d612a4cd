theorem dX12_fewestFor_21 : decode cX12_fewestFor 21 = .ok (.sipush 4096, 3) := by decide +kernel
theorem dX12_fewestFor_24 : decode cX12_fewestFor 24 = .ok (.if_icmp .ge 98, 3) := by decide +kernel
theorem dX12_fewestFor_27 : decode cX12_fewestFor 27 = .ok (.aload_n 0, 1) := by decide +kernel
theorem dX12_fewestFor_28 : decode cX12_fewestFor 28 = .ok (.getfield 119, 3) := by decide +kernel
theorem dX12_fewestFor_31 : decode cX12_fewestFor 31 = .ok (.iload 5, 2) := by decide +kernel
theorem dX12_fewestFor_33 : decode cX12_fewestFor 33 = .ok (.bipush 99, 2) := by decide +kernel
theorem dX12_fewestFor_35 : decode cX12_fewestFor 35 = .ok (.iastore, 1) := by decide +kernel
theorem dX12_fewestFor_36 : decode cX12_fewestFor 36 = .ok (.iload 5, 2) := by decide +kernel
theorem dX12_fewestFor_38 : decode cX12_fewestFor 38 = .ok (.iload 4, 2) := by decide +kernel
theorem dX12_fewestFor_40 : decode cX12_fewestFor 40 = .ok (.iconst (-1), 1) := by decide +kernel
theorem dX12_fewestFor_41 : decode cX12_fewestFor 41 = .ok (.ixor, 1) := by decide +kernel
theorem dX12_fewestFor_42 : decode cX12_fewestFor 42 = .ok (.iand, 1) := by decide +kernel
theorem dX12_fewestFor_43 : decode cX12_fewestFor 43 = .ok (.ifCond .eq 6, 3) := by decide +kernel
theorem dX12_fewestFor_46 : decode cX12_fewestFor 46 = .ok (.goto 70, 3) := by decide +kernel
theorem dX12_fewestFor_49 : decode cX12_fewestFor 49 = .ok (.iconst 0, 1) := by decide +kernel
theorem dX12_fewestFor_50 : decode cX12_fewestFor 50 = .ok (.istore 6, 2) := by decide +kernel
theorem dX12_fewestFor_52 : decode cX12_fewestFor 52 = .ok (.iload 6, 2) := by decide +kernel
theorem dX12_fewestFor_54 : decode cX12_fewestFor 54 = .ok (.aload_n 0, 1) := by decide +kernel
theorem dX12_fewestFor_55 : decode cX12_fewestFor 55 = .ok (.getfield 463, 3) := by decide +kernel
theorem dX12_fewestFor_58 : decode cX12_fewestFor 58 = .ok (.if_icmp .ge 58, 3) := by decide +kernel
theorem dX12_fewestFor_61 : decode cX12_fewestFor 61 = .ok (.aload_n 0, 1) := by decide +kernel
theorem dX12_fewestFor_62 : decode cX12_fewestFor 62 = .ok (.getfield 113, 3) := by decide +kernel
theorem dX12_fewestFor_65 : decode cX12_fewestFor 65 = .ok (.iload 6, 2) := by decide +kernel
theorem dX12_fewestFor_67 : decode cX12_fewestFor 67 = .ok (.iaload, 1) := by decide +kernel
theorem dX12_fewestFor_68 : decode cX12_fewestFor 68 = .ok (.iload 5, 2) := by decide +kernel
theorem dX12_fewestFor_70 : decode cX12_fewestFor 70 = .ok (.iand, 1) := by decide +kernel
theorem dX12_fewestFor_71 : decode cX12_fewestFor 71 = .ok (.ifCond .eq 39, 3) := by decide +kernel
theorem dX12_fewestFor_74 : decode cX12_fewestFor 74 = .ok (.aload_n 0, 1) := by decide +kernel
theorem dX12_fewestFor_75 : decode cX12_fewestFor 75 = .ok (.getfield 119, 3) := by decide +kernel
theorem dX12_fewestFor_78 : decode cX12_fewestFor 78 = .ok (.iload 5, 2) := by decide +kernel
theorem dX12_fewestFor_80 : decode cX12_fewestFor 80 = .ok (.aload_n 0, 1) := by decide +kernel
theorem dX12_fewestFor_81 : decode cX12_fewestFor 81 = .ok (.getfield 119, 3) := by decide +kernel
theorem dX12_fewestFor_84 : decode cX12_fewestFor 84 = .ok (.iload 5, 2) := by decide +kernel
theorem dX12_fewestFor_86 : decode cX12_fewestFor 86 = .ok (.iaload, 1) := by decide +kernel
theorem dX12_fewestFor_87 : decode cX12_fewestFor 87 = .ok (.iconst 1, 1) := by decide +kernel
theorem dX12_fewestFor_88 : decode cX12_fewestFor 88 = .ok (.aload_n 0, 1) := by decide +kernel
theorem dX12_fewestFor_89 : decode cX12_fewestFor 89 = .ok (.getfield 119, 3) := by decide +kernel
theorem dX12_fewestFor_92 : decode cX12_fewestFor 92 = .ok (.iload 5, 2) := by decide +kernel
theorem dX12_fewestFor_94 : decode cX12_fewestFor 94 = .ok (.aload_n 0, 1) := by decide +kernel
theorem dX12_fewestFor_95 : decode cX12_fewestFor 95 = .ok (.getfield 113, 3) := by decide +kernel
theorem dX12_fewestFor_98 : decode cX12_fewestFor 98 = .ok (.iload 6, 2) := by decide +kernel
theorem dX12_fewestFor_100 : decode cX12_fewestFor 100 = .ok (.iaload, 1) := by decide +kernel
theorem dX12_fewestFor_101 : decode cX12_fewestFor 101 = .ok (.iconst (-1), 1) := by decide +kernel
theorem dX12_fewestFor_102 : decode cX12_fewestFor 102 = .ok (.ixor, 1) := by decide +kernel
theorem dX12_fewestFor_103 : decode cX12_fewestFor 103 = .ok (.iand, 1) := by decide +kernel
theorem dX12_fewestFor_104 : decode cX12_fewestFor 104 = .ok (.iaload, 1) := by decide +kernel
theorem dX12_fewestFor_105 : decode cX12_fewestFor 105 = .ok (.iadd, 1) := by decide +kernel
theorem dX12_fewestFor_106 : decode cX12_fewestFor 106 = .ok (.invokestatic 470, 3) := by decide +kernel
theorem dX12_fewestFor_109 : decode cX12_fewestFor 109 = .ok (.iastore, 1) := by decide +kernel
theorem dX12_fewestFor_110 : decode cX12_fewestFor 110 = .ok (.iinc 6 1, 3) := by decide +kernel
theorem dX12_fewestFor_113 : decode cX12_fewestFor 113 = .ok (.goto (-61), 3) := by decide +kernel
theorem dX12_fewestFor_116 : decode cX12_fewestFor 116 = .ok (.iinc 5 1, 3) := by decide +kernel
theorem dX12_fewestFor_119 : decode cX12_fewestFor 119 = .ok (.goto (-100), 3) := by decide +kernel
theorem dX12_fewestFor_122 : decode cX12_fewestFor 122 = .ok (.aload_n 0, 1) := by decide +kernel
theorem dX12_fewestFor_123 : decode cX12_fewestFor 123 = .ok (.aload_n 0, 1) := by decide +kernel
theorem dX12_fewestFor_124 : decode cX12_fewestFor 124 = .ok (.getfield 119, 3) := by decide +kernel
theorem dX12_fewestFor_127 : decode cX12_fewestFor 127 = .ok (.iload 4, 2) := by decide +kernel
theorem dX12_fewestFor_129 : decode cX12_fewestFor 129 = .ok (.iaload, 1) := by decide +kernel
theorem dX12_fewestFor_130 : decode cX12_fewestFor 130 = .ok (.putfield 473, 3) := by decide +kernel
theorem dX12_fewestFor_133 : decode cX12_fewestFor 133 = .ok (.aload_n 0, 1) := by decide +kernel
theorem dX12_fewestFor_134 : decode cX12_fewestFor 134 = .ok (.iconst 0, 1) := by decide +kernel
theorem dX12_fewestFor_135 : decode cX12_fewestFor 135 = .ok (.iconst 0, 1) := by decide +kernel
theorem dX12_fewestFor_136 : decode cX12_fewestFor 136 = .ok (.iload 4, 2) := by decide +kernel
theorem dX12_fewestFor_138 : decode cX12_fewestFor 138 = .ok (.invokevirtual 476, 3) := by decide +kernel
theorem dX12_fewestFor_141 : decode cX12_fewestFor 141 = .ok (.pop, 1) := by decide +kernel
theorem dX12_fewestFor_142 : decode cX12_fewestFor 142 = .ok (.iload 4, 2) := by decide +kernel
theorem dX12_fewestFor_144 : decode cX12_fewestFor 144 = .ok (.ireturn, 1) := by decide +kernel
theorem dX12_goesOn_0 : decode cX12_goesOn 0 = .ok (.iload_n 3, 1) := by decide +kernel
theorem dX12_goesOn_1 : decode cX12_goesOn 1 = .ok (.ifCond .ne 5, 3) := by decide +kernel
theorem dX12_goesOn_4 : decode cX12_goesOn 4 = .ok (.iconst 1, 1) := by decide +kernel
theorem dX12_goesOn_5 : decode cX12_goesOn 5 = .ok (.ireturn, 1) := by decide +kernel
theorem dX12_goesOn_6 : decode cX12_goesOn 6 = .ok (.iload_n 2, 1) := by decide +kernel
theorem dX12_goesOn_7 : decode cX12_goesOn 7 = .ok (.istore 4, 2) := by decide +kernel
theorem dX12_goesOn_9 : decode cX12_goesOn 9 = .ok (.iload 4, 2) := by decide +kernel
theorem dX12_goesOn_11 : decode cX12_goesOn 11 = .ok (.aload_n 0, 1) := by decide +kernel
theorem dX12_goesOn_12 : decode cX12_goesOn 12 = .ok (.getfield 463, 3) := by decide +kernel
theorem dX12_goesOn_15 : decode cX12_goesOn 15 = .ok (.if_icmp .ge 88, 3) := by decide +kernel
theorem dX12_goesOn_18 : decode cX12_goesOn 18 = .ok (.iload_n 1, 1) := by decide +kernel
theorem dX12_goesOn_19 : decode cX12_goesOn 19 = .ok (.aload_n 0, 1) := by decide +kernel
theorem dX12_goesOn_20 : decode cX12_goesOn 20 = .ok (.getfield 473, 3) := by decide +kernel
theorem dX12_goesOn_23 : decode cX12_goesOn 23 = .ok (.if_icmp .ge 80, 3) := by decide +kernel
theorem dX12_goesOn_26 : decode cX12_goesOn 26 = .ok (.iload_n 3, 1) := by decide +kernel
theorem dX12_goesOn_27 : decode cX12_goesOn 27 = .ok (.aload_n 0, 1) := by decide +kernel
theorem dX12_goesOn_28 : decode cX12_goesOn 28 = .ok (.getfield 113, 3) := by decide +kernel
theorem dX12_goesOn_31 : decode cX12_goesOn 31 = .ok (.iload 4, 2) := by decide +kernel
theorem dX12_goesOn_33 : decode cX12_goesOn 33 = .ok (.iaload, 1) := by decide +kernel
theorem dX12_goesOn_34 : decode cX12_goesOn 34 = .ok (.iconst (-1), 1) := by decide +kernel
theorem dX12_goesOn_35 : decode cX12_goesOn 35 = .ok (.ixor, 1) := by decide +kernel
theorem dX12_goesOn_36 : decode cX12_goesOn 36 = .ok (.iand, 1) := by decide +kernel
theorem dX12_goesOn_37 : decode cX12_goesOn 37 = .ok (.istore 5, 2) := by decide +kernel
theorem dX12_goesOn_39 : decode cX12_goesOn 39 = .ok (.iload 5, 2) := by decide +kernel
theorem dX12_goesOn_41 : decode cX12_goesOn 41 = .ok (.iload_n 3, 1) := by decide +kernel
theorem dX12_goesOn_42 : decode cX12_goesOn 42 = .ok (.if_icmp .eq 55, 3) := by decide +kernel
theorem dX12_goesOn_45 : decode cX12_goesOn 45 = .ok (.aload_n 0, 1) := by decide +kernel
theorem dX12_goesOn_46 : decode cX12_goesOn 46 = .ok (.getfield 119, 3) := by decide +kernel
theorem dX12_goesOn_49 : decode cX12_goesOn 49 = .ok (.iload 5, 2) := by decide +kernel
theorem dX12_goesOn_51 : decode cX12_goesOn 51 = .ok (.iaload, 1) := by decide +kernel
theorem dX12_goesOn_52 : decode cX12_goesOn 52 = .ok (.aload_n 0, 1) := by decide +kernel
theorem dX12_goesOn_53 : decode cX12_goesOn 53 = .ok (.getfield 473, 3) := by decide +kernel
theorem dX12_goesOn_56 : decode cX12_goesOn 56 = .ok (.iload_n 1, 1) := by decide +kernel
theorem dX12_goesOn_57 : decode cX12_goesOn 57 = .ok (.isub, 1) := by decide +kernel
theorem dX12_goesOn_58 : decode cX12_goesOn 58 = .ok (.iconst 1, 1) := by decide +kernel
theorem dX12_goesOn_59 : decode cX12_goesOn 59 = .ok (.isub, 1) := by decide +kernel
theorem dX12_goesOn_60 : decode cX12_goesOn 60 = .ok (.if_icmp .le 6, 3) := by decide +kernel
theorem dX12_goesOn_63 : decode cX12_goesOn 63 = .ok (.goto 34, 3) := by decide +kernel
theorem dX12_goesOn_66 : decode cX12_goesOn 66 = .ok (.aload_n 0, 1) := by decide +kernel
theorem dX12_goesOn_67 : decode cX12_goesOn 67 = .ok (.getfield 122, 3) := by decide +kernel
theorem dX12_goesOn_70 : decode cX12_goesOn 70 = .ok (.iload_n 1, 1) := by decide +kernel
theorem dX12_goesOn_71 : decode cX12_goesOn 71 = .ok (.aload_n 0, 1) := by decide +kernel
theorem dX12_goesOn_72 : decode cX12_goesOn 72 = .ok (.getfield 116, 3) := by decide +kernel
theorem dX12_goesOn_75 : decode cX12_goesOn 75 = .ok (.iload 4, 2) := by decide +kernel
theorem dX12_goesOn_77 : decode cX12_goesOn 77 = .ok (.iaload, 1) := by decide +kernel
theorem dX12_goesOn_78 : decode cX12_goesOn 78 = .ok (.iastore, 1) := by decide +kernel
theorem dX12_goesOn_79 : decode cX12_goesOn 79 = .ok (.aload_n 0, 1) := by decide +kernel
theorem dX12_goesOn_80 : decode cX12_goesOn 80 = .ok (.iload_n 1, 1) := by decide +kernel
theorem dX12_goesOn_81 : decode cX12_goesOn 81 = .ok (.iconst 1, 1) := by decide +kernel
theorem dX12_goesOn_82 : decode cX12_goesOn 82 = .ok (.iadd, 1) := by decide +kernel
theorem dX12_goesOn_83 : decode cX12_goesOn 83 = .ok (.iload 4, 2) := by decide +kernel
theorem dX12_goesOn_85 : decode cX12_goesOn 85 = .ok (.iconst 1, 1) := by decide +kernel
theorem dX12_goesOn_86 : decode cX12_goesOn 86 = .ok (.iadd, 1) := by decide +kernel
theorem dX12_goesOn_87 : decode cX12_goesOn 87 = .ok (.iload 5, 2) := by decide +kernel
theorem dX12_goesOn_89 : decode cX12_goesOn 89 = .ok (.invokevirtual 476, 3) := by decide +kernel
theorem dX12_goesOn_92 : decode cX12_goesOn 92 = .ok (.ifCond .eq 5, 3) := by decide +kernel
theorem dX12_goesOn_95 : decode cX12_goesOn 95 = .ok (.iconst 1, 1) := by decide +kernel
theorem dX12_goesOn_96 : decode cX12_goesOn 96 = .ok (.ireturn, 1) := by decide +kernel
theorem dX12_goesOn_97 : decode cX12_goesOn 97 = .ok (.iinc 4 1, 3) := by decide +kernel
theorem dX12_goesOn_100 : decode cX12_goesOn 100 = .ok (.goto (-91), 3) := by decide +kernel
theorem dX12_goesOn_103 : decode cX12_goesOn 103 = .ok (.iconst 0, 1) := by decide +kernel
theorem dX12_goesOn_104 : decode cX12_goesOn 104 = .ok (.ireturn, 1) := by decide +kernel
theorem dX12_bitsOf_0 : decode cX12_bitsOf 0 = .ok (.iconst 0, 1) := by decide +kernel
theorem dX12_bitsOf_1 : decode cX12_bitsOf 1 = .ok (.istore_n 1, 1) := by decide +kernel
theorem dX12_bitsOf_2 : decode cX12_bitsOf 2 = .ok (.iconst 0, 1) := by decide +kernel
theorem dX12_bitsOf_3 : decode cX12_bitsOf 3 = .ok (.istore_n 2, 1) := by decide +kernel
theorem dX12_bitsOf_4 : decode cX12_bitsOf 4 = .ok (.iload_n 2, 1) := by decide +kernel
theorem dX12_bitsOf_5 : decode cX12_bitsOf 5 = .ok (.bipush 31, 2) := by decide +kernel
theorem dX12_bitsOf_7 : decode cX12_bitsOf 7 = .ok (.if_icmp .ge 17, 3) := by decide +kernel
theorem dX12_bitsOf_10 : decode cX12_bitsOf 10 = .ok (.iload_n 1, 1) := by decide +kernel
theorem dX12_bitsOf_11 : decode cX12_bitsOf 11 = .ok (.iload_n 0, 1) := by decide +kernel
theorem dX12_bitsOf_12 : decode cX12_bitsOf 12 = .ok (.iload_n 2, 1) := by decide +kernel
theorem dX12_bitsOf_13 : decode cX12_bitsOf 13 = .ok (.ishr, 1) := by decide +kernel
theorem dX12_bitsOf_14 : decode cX12_bitsOf 14 = .ok (.iconst 1, 1) := by decide +kernel
theorem dX12_bitsOf_15 : decode cX12_bitsOf 15 = .ok (.iand, 1) := by decide +kernel
theorem dX12_bitsOf_16 : decode cX12_bitsOf 16 = .ok (.iadd, 1) := by decide +kernel
theorem dX12_bitsOf_17 : decode cX12_bitsOf 17 = .ok (.istore_n 1, 1) := by decide +kernel
theorem dX12_bitsOf_18 : decode cX12_bitsOf 18 = .ok (.iinc 2 1, 3) := by decide +kernel
theorem dX12_bitsOf_21 : decode cX12_bitsOf 21 = .ok (.goto (-17), 3) := by decide +kernel
theorem dX12_bitsOf_24 : decode cX12_bitsOf 24 = .ok (.iload_n 1, 1) := by decide +kernel
theorem dX12_bitsOf_25 : decode cX12_bitsOf 25 = .ok (.ireturn, 1) := by decide +kernel
theorem dX12_missing_0 : decode cX12_missing 0 = .ok (.aload_n 0, 1) := by decide +kernel
theorem dX12_missing_1 : decode cX12_missing 1 = .ok (.iconst 0, 1) := by decide +kernel
theorem dX12_missing_2 : decode cX12_missing 2 = .ok (.putfield 195, 3) := by decide +kernel
theorem dX12_missing_5 : decode cX12_missing 5 = .ok (.aload_n 0, 1) := by decide +kernel
theorem dX12_missing_6 : decode cX12_missing 6 = .ok (.iload_n 1, 1) := by decide +kernel
theorem dX12_missing_7 : decode cX12_missing 7 = .ok (.invokevirtual 437, 3) := by decide +kernel
theorem dX12_missing_10 : decode cX12_missing 10 = .ok (.ifCond .eq 11, 3) := by decide +kernel
theorem dX12_missing_13 : decode cX12_missing 13 = .ok (.aload_n 0, 1) := by decide +kernel
theorem dX12_missing_14 : decode cX12_missing 14 = .ok (.iload_n 2, 1) := by decide +kernel
theorem dX12_missing_15 : decode cX12_missing 15 = .ok (.invokevirtual 480, 3) := by decide +kernel
theorem dX12_missing_18 : decode cX12_missing 18 = .ok (.ifCond .ne 7, 3) := by decide +kernel
theorem dX12_missing_21 : decode cX12_missing 21 = .ok (.iconst (-1), 1) := by decide +kernel
theorem dX12_missing_22 : decode cX12_missing 22 = .ok (.goto 23, 3) := by decide +kernel
theorem dX12_missing_25 : decode cX12_missing 25 = .ok (.iconst 1, 1) := by decide +kernel
theorem dX12_missing_26 : decode cX12_missing 26 = .ok (.aload_n 0, 1) := by decide +kernel
theorem dX12_missing_27 : decode cX12_missing 27 = .ok (.getfield 45, 3) := by decide +kernel
theorem dX12_missing_30 : decode cX12_missing 30 = .ok (.iload_n 1, 1) := by decide +kernel
theorem dX12_missing_31 : decode cX12_missing 31 = .ok (.iaload, 1) := by decide +kernel
theorem dX12_missing_32 : decode cX12_missing 32 = .ok (.ishl, 1) := by decide +kernel
theorem dX12_missing_33 : decode cX12_missing 33 = .ok (.iconst 1, 1) := by decide +kernel
theorem dX12_missing_34 : decode cX12_missing 34 = .ok (.isub, 1) := by decide +kernel
theorem dX12_missing_35 : decode cX12_missing 35 = .ok (.aload_n 0, 1) := by decide +kernel
theorem dX12_missing_36 : decode cX12_missing 36 = .ok (.iload_n 1, 1) := by decide +kernel
theorem dX12_missing_37 : decode cX12_missing 37 = .ok (.iload_n 2, 1) := by decide +kernel
theorem dX12_missing_38 : decode cX12_missing 38 = .ok (.iload_n 3, 1) := by decide +kernel
theorem dX12_missing_39 : decode cX12_missing 39 = .ok (.invokevirtual 466, 3) := by decide +kernel
theorem dX12_missing_42 : decode cX12_missing 42 = .ok (.iconst (-1), 1) := by decide +kernel
theorem dX12_missing_43 : decode cX12_missing 43 = .ok (.ixor, 1) := by decide +kernel
theorem dX12_missing_44 : decode cX12_missing 44 = .ok (.iand, 1) := by decide +kernel
theorem dX12_missing_45 : decode cX12_missing 45 = .ok (.ireturn, 1) := by decide +kernel
theorem dX12_fewest_0 : decode cX12_fewest 0 = .ok (.aload_n 0, 1) := by decide +kernel
theorem dX12_fewest_1 : decode cX12_fewest 1 = .ok (.iconst 0, 1) := by decide +kernel
theorem dX12_fewest_2 : decode cX12_fewest 2 = .ok (.putfield 195, 3) := by decide +kernel
theorem dX12_fewest_5 : decode cX12_fewest 5 = .ok (.aload_n 0, 1) := by decide +kernel
theorem dX12_fewest_6 : decode cX12_fewest 6 = .ok (.iload_n 1, 1) := by decide +kernel
theorem dX12_fewest_7 : decode cX12_fewest 7 = .ok (.invokevirtual 437, 3) := by decide +kernel
theorem dX12_fewest_10 : decode cX12_fewest 10 = .ok (.ifCond .eq 16, 3) := by decide +kernel
theorem dX12_fewest_13 : decode cX12_fewest 13 = .ok (.aload_n 0, 1) := by decide +kernel
theorem dX12_fewest_14 : decode cX12_fewest 14 = .ok (.iload_n 2, 1) := by decide +kernel
theorem dX12_fewest_15 : decode cX12_fewest 15 = .ok (.invokevirtual 480, 3) := by decide +kernel
theorem dX12_fewest_18 : decode cX12_fewest 18 = .ok (.ifCond .eq 8, 3) := by decide +kernel
theorem dX12_fewest_21 : decode cX12_fewest 21 = .ok (.iload 4, 2) := by decide +kernel
theorem dX12_fewest_23 : decode cX12_fewest 23 = .ok (.ifCond .ge 5, 3) := by decide +kernel
theorem dX12_fewest_26 : decode cX12_fewest 26 = .ok (.iconst (-1), 1) := by decide +kernel
theorem dX12_fewest_27 : decode cX12_fewest 27 = .ok (.ireturn, 1) := by decide +kernel
theorem dX12_fewest_28 : decode cX12_fewest 28 = .ok (.aload_n 0, 1) := by decide +kernel
theorem dX12_fewest_29 : decode cX12_fewest 29 = .ok (.iload_n 1, 1) := by decide +kernel
theorem dX12_fewest_30 : decode cX12_fewest 30 = .ok (.iload_n 2, 1) := by decide +kernel
theorem dX12_fewest_31 : decode cX12_fewest 31 = .ok (.iload_n 3, 1) := by decide +kernel
theorem dX12_fewest_32 : decode cX12_fewest 32 = .ok (.invokevirtual 483, 3) := by decide +kernel
theorem dX12_fewest_35 : decode cX12_fewest 35 = .ok (.pop, 1) := by decide +kernel
theorem dX12_fewest_36 : decode cX12_fewest 36 = .ok (.iload 4, 2) := by decide +kernel
theorem dX12_fewest_38 : decode cX12_fewest 38 = .ok (.ifCond .ne 10, 3) := by decide +kernel
theorem dX12_fewest_41 : decode cX12_fewest 41 = .ok (.aload_n 0, 1) := by decide +kernel
theorem dX12_fewest_42 : decode cX12_fewest 42 = .ok (.getfield 473, 3) := by decide +kernel
theorem dX12_fewest_45 : decode cX12_fewest 45 = .ok (.goto 25, 3) := by decide +kernel
theorem dX12_fewest_48 : decode cX12_fewest 48 = .ok (.iload 4, 2) := by decide +kernel
theorem dX12_fewest_50 : decode cX12_fewest 50 = .ok (.aload_n 0, 1) := by decide +kernel
theorem dX12_fewest_51 : decode cX12_fewest 51 = .ok (.getfield 473, 3) := by decide +kernel
theorem dX12_fewest_54 : decode cX12_fewest 54 = .ok (.if_icmp .gt 15, 3) := by decide +kernel
theorem dX12_fewest_57 : decode cX12_fewest 57 = .ok (.aload_n 0, 1) := by decide +kernel
theorem dX12_fewest_58 : decode cX12_fewest 58 = .ok (.getfield 122, 3) := by decide +kernel
theorem dX12_fewest_61 : decode cX12_fewest 61 = .ok (.iload 4, 2) := by decide +kernel
theorem dX12_fewest_63 : decode cX12_fewest 63 = .ok (.iconst 1, 1) := by decide +kernel
theorem dX12_fewest_64 : decode cX12_fewest 64 = .ok (.isub, 1) := by decide +kernel
theorem dX12_fewest_65 : decode cX12_fewest 65 = .ok (.iaload, 1) := by decide +kernel
theorem dX12_fewest_66 : decode cX12_fewest 66 = .ok (.goto 4, 3) := by decide +kernel
theorem dX12_fewest_69 : decode cX12_fewest 69 = .ok (.iconst (-1), 1) := by decide +kernel
theorem dX12_fewest_70 : decode cX12_fewest 70 = .ok (.ireturn, 1) := by decide +kernel
theorem dX12_minutesOf_0 : decode cX12_minutesOf 0 = .ok (.iconst 2, 1) := by decide +kernel
theorem dX12_minutesOf_1 : decode cX12_minutesOf 1 = .ok (.aload_n 0, 1) := by decide +kernel
theorem dX12_minutesOf_2 : decode cX12_minutesOf 2 = .ok (.iload_n 1, 1) := by decide +kernel
theorem dX12_minutesOf_3 : decode cX12_minutesOf 3 = .ok (.iload_n 2, 1) := by decide +kernel
theorem dX12_minutesOf_4 : decode cX12_minutesOf 4 = .ok (.iload_n 3, 1) := by decide +kernel
theorem dX12_minutesOf_5 : decode cX12_minutesOf 5 = .ok (.invokevirtual 483, 3) := by decide +kernel
theorem dX12_minutesOf_8 : decode cX12_minutesOf 8 = .ok (.invokestatic 486, 3) := by decide +kernel
theorem dX12_minutesOf_11 : decode cX12_minutesOf 11 = .ok (.imul, 1) := by decide +kernel
theorem dX12_minutesOf_12 : decode cX12_minutesOf 12 = .ok (.istore 4, 2) := by decide +kernel
theorem dX12_minutesOf_14 : decode cX12_minutesOf 14 = .ok (.iconst 0, 1) := by decide +kernel
theorem dX12_minutesOf_15 : decode cX12_minutesOf 15 = .ok (.istore 5, 2) := by decide +kernel
theorem dX12_minutesOf_17 : decode cX12_minutesOf 17 = .ok (.iload 5, 2) := by decide +kernel
theorem dX12_minutesOf_19 : decode cX12_minutesOf 19 = .ok (.aload_n 0, 1) := by decide +kernel
theorem dX12_minutesOf_20 : decode cX12_minutesOf 20 = .ok (.getfield 473, 3) := by decide +kernel
theorem dX12_minutesOf_23 : decode cX12_minutesOf 23 = .ok (.if_icmp .ge 37, 3) := by decide +kernel
theorem dX12_minutesOf_26 : decode cX12_minutesOf 26 = .ok (.iload 4, 2) := by decide +kernel
theorem dX12_minutesOf_28 : decode cX12_minutesOf 28 = .ok (.aload_n 0, 1) := by decide +kernel
theorem dX12_minutesOf_29 : decode cX12_minutesOf 29 = .ok (.aload_n 0, 1) := by decide +kernel
theorem dX12_minutesOf_30 : decode cX12_minutesOf 30 = .ok (.getfield 122, 3) := by decide +kernel
theorem dX12_minutesOf_33 : decode cX12_minutesOf 33 = .ok (.iload 5, 2) := by decide +kernel
theorem dX12_minutesOf_35 : decode cX12_minutesOf 35 = .ok (.iaload, 1) := by decide +kernel
theorem dX12_minutesOf_36 : decode cX12_minutesOf 36 = .ok (.bipush 16, 2) := by decide +kernel
theorem dX12_minutesOf_38 : decode cX12_minutesOf 38 = .ok (.irem, 1) := by decide +kernel
theorem dX12_minutesOf_39 : decode cX12_minutesOf 39 = .ok (.invokevirtual 440, 3) := by decide +kernel
theorem dX12_minutesOf_42 : decode cX12_minutesOf 42 = .ok (.ifCond .eq 8, 3) := by decide +kernel
theorem dX12_minutesOf_45 : decode cX12_minutesOf 45 = .ok (.bipush 6, 2) := by decide +kernel
theorem dX12_minutesOf_47 : decode cX12_minutesOf 47 = .ok (.goto 4, 3) := by decide +kernel
theorem dX12_minutesOf_50 : decode cX12_minutesOf 50 = .ok (.iconst 3, 1) := by decide +kernel
theorem dX12_minutesOf_51 : decode cX12_minutesOf 51 = .ok (.iadd, 1) := by decide +kernel
theorem dX12_minutesOf_52 : decode cX12_minutesOf 52 = .ok (.istore 4, 2) := by decide +kernel
theorem dX12_minutesOf_54 : decode cX12_minutesOf 54 = .ok (.iinc 5 1, 3) := by decide +kernel
theorem dX12_minutesOf_57 : decode cX12_minutesOf 57 = .ok (.goto (-40), 3) := by decide +kernel
theorem dX12_minutesOf_60 : decode cX12_minutesOf 60 = .ok (.iload 4, 2) := by decide +kernel
theorem dX12_minutesOf_62 : decode cX12_minutesOf 62 = .ok (.ireturn, 1) := by decide +kernel
theorem dX12_minutes_0 : decode cX12_minutes 0 = .ok (.aload_n 0, 1) := by decide +kernel
theorem dX12_minutes_1 : decode cX12_minutes 1 = .ok (.iconst 0, 1) := by decide +kernel
theorem dX12_minutes_2 : decode cX12_minutes 2 = .ok (.putfield 195, 3) := by decide +kernel
theorem dX12_minutes_5 : decode cX12_minutes 5 = .ok (.aload_n 0, 1) := by decide +kernel
theorem dX12_minutes_6 : decode cX12_minutes 6 = .ok (.iload_n 1, 1) := by decide +kernel
theorem dX12_minutes_7 : decode cX12_minutes 7 = .ok (.invokevirtual 437, 3) := by decide +kernel
theorem dX12_minutes_10 : decode cX12_minutes 10 = .ok (.ifCond .eq 11, 3) := by decide +kernel
theorem dX12_minutes_13 : decode cX12_minutes 13 = .ok (.aload_n 0, 1) := by decide +kernel
theorem dX12_minutes_14 : decode cX12_minutes 14 = .ok (.iload_n 2, 1) := by decide +kernel
theorem dX12_minutes_15 : decode cX12_minutes 15 = .ok (.invokevirtual 480, 3) := by decide +kernel
theorem dX12_minutes_18 : decode cX12_minutes 18 = .ok (.ifCond .ne 7, 3) := by decide +kernel
theorem dX12_minutes_21 : decode cX12_minutes 21 = .ok (.iconst (-1), 1) := by decide +kernel
theorem dX12_minutes_22 : decode cX12_minutes 22 = .ok (.goto 10, 3) := by decide +kernel
theorem dX12_minutes_25 : decode cX12_minutes 25 = .ok (.aload_n 0, 1) := by decide +kernel
theorem dX12_minutes_26 : decode cX12_minutes 26 = .ok (.iload_n 1, 1) := by decide +kernel
theorem dX12_minutes_27 : decode cX12_minutes 27 = .ok (.iload_n 2, 1) := by decide +kernel
theorem dX12_minutes_28 : decode cX12_minutes 28 = .ok (.iload_n 3, 1) := by decide +kernel
theorem dX12_minutes_29 : decode cX12_minutes 29 = .ok (.invokevirtual 489, 3) := by decide +kernel
theorem dX12_minutes_32 : decode cX12_minutes 32 = .ok (.ireturn, 1) := by decide +kernel
theorem dX12_begins_0 : decode cX12_begins 0 = .ok (.aload_n 0, 1) := by decide +kernel
theorem dX12_begins_1 : decode cX12_begins 1 = .ok (.iconst 0, 1) := by decide +kernel
theorem dX12_begins_2 : decode cX12_begins 2 = .ok (.putfield 492, 3) := by decide +kernel
theorem dX12_begins_5 : decode cX12_begins 5 = .ok (.aload_n 0, 1) := by decide +kernel
theorem dX12_begins_6 : decode cX12_begins 6 = .ok (.iconst 0, 1) := by decide +kernel
theorem dX12_begins_7 : decode cX12_begins 7 = .ok (.putfield 495, 3) := by decide +kernel
theorem dX12_begins_10 : decode cX12_begins 10 = .ok (.aload_n 0, 1) := by decide +kernel
theorem dX12_begins_11 : decode cX12_begins 11 = .ok (.iconst 0, 1) := by decide +kernel
theorem dX12_begins_12 : decode cX12_begins 12 = .ok (.putfield 498, 3) := by decide +kernel
theorem dX12_begins_15 : decode cX12_begins 15 = .ok (.iconst 0, 1) := by decide +kernel
theorem dX12_begins_16 : decode cX12_begins 16 = .ok (.istore_n 1, 1) := by decide +kernel
theorem dX12_begins_17 : decode cX12_begins 17 = .ok (.iload_n 1, 1) := by decide +kernel
theorem dX12_begins_18 : decode cX12_begins 18 = .ok (.bipush 10, 2) := by decide +kernel
theorem dX12_begins_20 : decode cX12_begins 20 = .ok (.if_icmp .ge 75, 3) := by decide +kernel
theorem dX12_begins_23 : decode cX12_begins 23 = .ok (.aload_n 0, 1) := by decide +kernel
theorem dX12_begins_24 : decode cX12_begins 24 = .ok (.getfield 125, 3) := by decide +kernel
theorem dX12_begins_27 : decode cX12_begins 27 = .ok (.iload_n 1, 1) := by decide +kernel
theorem dX12_begins_28 : decode cX12_begins 28 = .ok (.aload_n 0, 1) := by decide +kernel
theorem dX12_begins_29 : decode cX12_begins 29 = .ok (.getfield 94, 3) := by decide +kernel
theorem dX12_begins_32 : decode cX12_begins 32 = .ok (.iload_n 1, 1) := by decide +kernel
theorem dX12_begins_33 : decode cX12_begins 33 = .ok (.iaload, 1) := by decide +kernel
theorem dX12_begins_34 : decode cX12_begins 34 = .ok (.iastore, 1) := by decide +kernel
theorem dX12_begins_35 : decode cX12_begins 35 = .ok (.aload_n 0, 1) := by decide +kernel
theorem dX12_begins_36 : decode cX12_begins 36 = .ok (.getfield 128, 3) := by decide +kernel
theorem dX12_begins_39 : decode cX12_begins 39 = .ok (.iload_n 1, 1) := by decide +kernel
theorem dX12_begins_40 : decode cX12_begins 40 = .ok (.iconst 0, 1) := by decide +kernel
theorem dX12_begins_41 : decode cX12_begins 41 = .ok (.iastore, 1) := by decide +kernel
theorem dX12_begins_42 : decode cX12_begins 42 = .ok (.aload_n 0, 1) := by decide +kernel
theorem dX12_begins_43 : decode cX12_begins 43 = .ok (.getfield 131, 3) := by decide +kernel
theorem dX12_begins_46 : decode cX12_begins 46 = .ok (.iload_n 1, 1) := by decide +kernel
theorem dX12_begins_47 : decode cX12_begins 47 = .ok (.iconst 0, 1) := by decide +kernel
theorem dX12_begins_48 : decode cX12_begins 48 = .ok (.iastore, 1) := by decide +kernel
theorem dX12_begins_49 : decode cX12_begins 49 = .ok (.aload_n 0, 1) := by decide +kernel
theorem dX12_begins_50 : decode cX12_begins 50 = .ok (.getfield 134, 3) := by decide +kernel
theorem dX12_begins_53 : decode cX12_begins 53 = .ok (.iload_n 1, 1) := by decide +kernel
theorem dX12_begins_54 : decode cX12_begins 54 = .ok (.iconst 0, 1) := by decide +kernel
theorem dX12_begins_55 : decode cX12_begins 55 = .ok (.iastore, 1) := by decide +kernel
theorem dX12_begins_56 : decode cX12_begins 56 = .ok (.aload_n 0, 1) := by decide +kernel
theorem dX12_begins_57 : decode cX12_begins 57 = .ok (.getfield 137, 3) := by decide +kernel
theorem dX12_begins_60 : decode cX12_begins 60 = .ok (.iload_n 1, 1) := by decide +kernel
theorem dX12_begins_61 : decode cX12_begins 61 = .ok (.iconst 0, 1) := by decide +kernel
theorem dX12_begins_62 : decode cX12_begins 62 = .ok (.iastore, 1) := by decide +kernel
theorem dX12_begins_63 : decode cX12_begins 63 = .ok (.aload_n 0, 1) := by decide +kernel
theorem dX12_begins_64 : decode cX12_begins 64 = .ok (.getfield 140, 3) := by decide +kernel
theorem dX12_begins_67 : decode cX12_begins 67 = .ok (.iload_n 1, 1) := by decide +kernel
theorem dX12_begins_68 : decode cX12_begins 68 = .ok (.iconst (-1), 1) := by decide +kernel
theorem dX12_begins_69 : decode cX12_begins 69 = .ok (.iastore, 1) := by decide +kernel
theorem dX12_begins_70 : decode cX12_begins 70 = .ok (.aload_n 0, 1) := by decide +kernel
theorem dX12_begins_71 : decode cX12_begins 71 = .ok (.getfield 143, 3) := by decide +kernel
theorem dX12_begins_74 : decode cX12_begins 74 = .ok (.iload_n 1, 1) := by decide +kernel
theorem dX12_begins_75 : decode cX12_begins 75 = .ok (.iconst 0, 1) := by decide +kernel
theorem dX12_begins_76 : decode cX12_begins 76 = .ok (.iastore, 1) := by decide +kernel
theorem dX12_begins_77 : decode cX12_begins 77 = .ok (.aload_n 0, 1) := by decide +kernel
theorem dX12_begins_78 : decode cX12_begins 78 = .ok (.getfield 146, 3) := by decide +kernel
theorem dX12_begins_81 : decode cX12_begins 81 = .ok (.iload_n 1, 1) := by decide +kernel
theorem dX12_begins_82 : decode cX12_begins 82 = .ok (.aload_n 0, 1) := by decide +kernel
theorem dX12_begins_83 : decode cX12_begins 83 = .ok (.getfield 72, 3) := by decide +kernel
theorem dX12_begins_86 : decode cX12_begins 86 = .ok (.iload_n 1, 1) := by decide +kernel
theorem dX12_begins_87 : decode cX12_begins 87 = .ok (.iaload, 1) := by decide +kernel
theorem dX12_begins_88 : decode cX12_begins 88 = .ok (.iastore, 1) := by decide +kernel
theorem dX12_begins_89 : decode cX12_begins 89 = .ok (.iinc 1 1, 3) := by decide +kernel
theorem dX12_begins_92 : decode cX12_begins 92 = .ok (.goto (-75), 3) := by decide +kernel
theorem dX12_begins_95 : decode cX12_begins 95 = .ok (.iconst 0, 1) := by decide +kernel
theorem dX12_begins_96 : decode cX12_begins 96 = .ok (.istore_n 1, 1) := by decide +kernel
theorem dX12_begins_97 : decode cX12_begins 97 = .ok (.iload_n 1, 1) := by decide +kernel
theorem dX12_begins_98 : decode cX12_begins 98 = .ok (.aload_n 0, 1) := by decide +kernel
theorem dX12_begins_99 : decode cX12_begins 99 = .ok (.getfield 397, 3) := by decide +kernel
theorem dX12_begins_102 : decode cX12_begins 102 = .ok (.if_icmp .ge 34, 3) := by decide +kernel
theorem dX12_begins_105 : decode cX12_begins 105 = .ok (.aload_n 0, 1) := by decide +kernel
theorem dX12_begins_106 : decode cX12_begins 106 = .ok (.getfield 170, 3) := by decide +kernel
theorem dX12_begins_109 : decode cX12_begins 109 = .ok (.iload_n 1, 1) := by decide +kernel
theorem dX12_begins_110 : decode cX12_begins 110 = .ok (.aload_n 0, 1) := by decide +kernel
theorem dX12_begins_111 : decode cX12_begins 111 = .ok (.iload_n 1, 1) := by decide +kernel
theorem dX12_begins_112 : decode cX12_begins 112 = .ok (.iconst 1, 1) := by decide +kernel
theorem dX12_begins_113 : decode cX12_begins 113 = .ok (.aload_n 0, 1) := by decide +kernel
theorem dX12_begins_114 : decode cX12_begins 114 = .ok (.getfield 391, 3) := by decide +kernel
theorem dX12_begins_117 : decode cX12_begins 117 = .ok (.aload_n 0, 1) := by decide +kernel
theorem dX12_begins_118 : decode cX12_begins 118 = .ok (.getfield 394, 3) := by decide +kernel
theorem dX12_begins_121 : decode cX12_begins 121 = .ok (.iadd, 1) := by decide +kernel
theorem dX12_begins_122 : decode cX12_begins 122 = .ok (.ishl, 1) := by decide +kernel
theorem dX12_begins_123 : decode cX12_begins 123 = .ok (.iconst 1, 1) := by decide +kernel
theorem dX12_begins_124 : decode cX12_begins 124 = .ok (.isub, 1) := by decide +kernel
theorem dX12_begins_125 : decode cX12_begins 125 = .ok (.iconst 0, 1) := by decide +kernel
theorem dX12_begins_126 : decode cX12_begins 126 = .ok (.invokevirtual 489, 3) := by decide +kernel
theorem dX12_begins_129 : decode cX12_begins 129 = .ok (.iastore, 1) := by decide +kernel
theorem dX12_begins_130 : decode cX12_begins 130 = .ok (.iinc 1 1, 3) := by decide +kernel
theorem dX12_begins_133 : decode cX12_begins 133 = .ok (.goto (-36), 3) := by decide +kernel
theorem dX12_begins_136 : decode cX12_begins 136 = .ok (.return_, 1) := by decide +kernel
theorem dX12_apart_0 : decode cX12_apart 0 = .ok (.iload_n 2, 1) := by decide +kernel
theorem dX12_apart_1 : decode cX12_apart 1 = .ok (.iload 4, 2) := by decide +kernel
theorem dX12_apart_3 : decode cX12_apart 3 = .ok (.isub, 1) := by decide +kernel
theorem dX12_apart_4 : decode cX12_apart 4 = .ok (.invokestatic 502, 3) := by decide +kernel
theorem dX12_apart_7 : decode cX12_apart 7 = .ok (.bipush 10, 2) := by decide +kernel
theorem dX12_apart_9 : decode cX12_apart 9 = .ok (.iload_n 1, 1) := by decide +kernel
theorem dX12_apart_10 : decode cX12_apart 10 = .ok (.iload_n 3, 1) := by decide +kernel
theorem dX12_apart_11 : decode cX12_apart 11 = .ok (.isub, 1) := by decide +kernel
theorem dX12_apart_12 : decode cX12_apart 12 = .ok (.invokestatic 502, 3) := by decide +kernel
theorem dX12_apart_15 : decode cX12_apart 15 = .ok (.imul, 1) := by decide +kernel
theorem dX12_apart_16 : decode cX12_apart 16 = .ok (.iadd, 1) := by decide +kernel
theorem dX12_apart_17 : decode cX12_apart 17 = .ok (.ireturn, 1) := by decide +kernel
theorem dX12_between_0 : decode cX12_between 0 = .ok (.aload_n 0, 1) := by decide +kernel
theorem dX12_between_1 : decode cX12_between 1 = .ok (.aload_n 0, 1) := by decide +kernel
theorem dX12_between_2 : decode cX12_between 2 = .ok (.getfield 75, 3) := by decide +kernel
theorem dX12_between_5 : decode cX12_between 5 = .ok (.iload_n 1, 1) := by decide +kernel
theorem dX12_between_6 : decode cX12_between 6 = .ok (.iaload, 1) := by decide +kernel
theorem dX12_between_7 : decode cX12_between 7 = .ok (.aload_n 0, 1) := by decide +kernel
theorem dX12_between_8 : decode cX12_between 8 = .ok (.getfield 78, 3) := by decide +kernel
theorem dX12_between_11 : decode cX12_between 11 = .ok (.iload_n 1, 1) := by decide +kernel
theorem dX12_between_12 : decode cX12_between 12 = .ok (.iaload, 1) := by decide +kernel
theorem dX12_between_13 : decode cX12_between 13 = .ok (.aload_n 0, 1) := by decide +kernel
theorem dX12_between_14 : decode cX12_between 14 = .ok (.getfield 75, 3) := by decide +kernel
theorem dX12_between_17 : decode cX12_between 17 = .ok (.iload_n 2, 1) := by decide +kernel
theorem dX12_between_18 : decode cX12_between 18 = .ok (.iaload, 1) := by decide +kernel
theorem dX12_between_19 : decode cX12_between 19 = .ok (.aload_n 0, 1) := by decide +kernel
theorem dX12_between_20 : decode cX12_between 20 = .ok (.getfield 78, 3) := by decide +kernel
theorem dX12_between_23 : decode cX12_between 23 = .ok (.iload_n 2, 1) := by decide +kernel
theorem dX12_between_24 : decode cX12_between 24 = .ok (.iaload, 1) := by decide +kernel
theorem dX12_between_25 : decode cX12_between 25 = .ok (.invokevirtual 505, 3) := by decide +kernel
theorem dX12_between_28 : decode cX12_between 28 = .ok (.ireturn, 1) := by decide +kernel
theorem dX12_fromHome_0 : decode cX12_fromHome 0 = .ok (.aload_n 0, 1) := by decide +kernel
theorem dX12_fromHome_1 : decode cX12_fromHome 1 = .ok (.aload_n 0, 1) := by decide +kernel
theorem dX12_fromHome_2 : decode cX12_fromHome 2 = .ok (.getfield 57, 3) := by decide +kernel
theorem dX12_fromHome_5 : decode cX12_fromHome 5 = .ok (.iload_n 1, 1) := by decide +kernel
theorem dX12_fromHome_6 : decode cX12_fromHome 6 = .ok (.iaload, 1) := by decide +kernel
theorem dX12_fromHome_7 : decode cX12_fromHome 7 = .ok (.aload_n 0, 1) := by decide +kernel
theorem dX12_fromHome_8 : decode cX12_fromHome 8 = .ok (.getfield 60, 3) := by decide +kernel
theorem dX12_fromHome_11 : decode cX12_fromHome 11 = .ok (.iload_n 1, 1) := by decide +kernel
theorem dX12_fromHome_12 : decode cX12_fromHome 12 = .ok (.iaload, 1) := by decide +kernel
theorem dX12_fromHome_13 : decode cX12_fromHome 13 = .ok (.aload_n 0, 1) := by decide +kernel
theorem dX12_fromHome_14 : decode cX12_fromHome 14 = .ok (.getfield 75, 3) := by decide +kernel
theorem dX12_fromHome_17 : decode cX12_fromHome 17 = .ok (.iload_n 2, 1) := by decide +kernel
theorem dX12_fromHome_18 : decode cX12_fromHome 18 = .ok (.iaload, 1) := by decide +kernel
theorem dX12_fromHome_19 : decode cX12_fromHome 19 = .ok (.aload_n 0, 1) := by decide +kernel
theorem dX12_fromHome_20 : decode cX12_fromHome 20 = .ok (.getfield 78, 3) := by decide +kernel
theorem dX12_fromHome_23 : decode cX12_fromHome 23 = .ok (.iload_n 2, 1) := by decide +kernel
theorem dX12_fromHome_24 : decode cX12_fromHome 24 = .ok (.iaload, 1) := by decide +kernel
theorem dX12_fromHome_25 : decode cX12_fromHome 25 = .ok (.invokevirtual 505, 3) := by decide +kernel
theorem dX12_fromHome_28 : decode cX12_fromHome 28 = .ok (.ireturn, 1) := by decide +kernel
theorem dX12_counts_0 : decode cX12_counts 0 = .ok (.iconst 0, 1) := by decide +kernel
theorem dX12_counts_1 : decode cX12_counts 1 = .ok (.istore_n 2, 1) := by decide +kernel
theorem dX12_counts_2 : decode cX12_counts 2 = .ok (.iload_n 2, 1) := by decide +kernel
theorem dX12_counts_3 : decode cX12_counts 3 = .ok (.iload_n 1, 1) := by decide +kernel
theorem dX12_counts_4 : decode cX12_counts 4 = .ok (.if_icmp .ge 16, 3) := by decide +kernel
theorem dX12_counts_7 : decode cX12_counts 7 = .ok (.aload_n 0, 1) := by decide +kernel
theorem dX12_counts_8 : decode cX12_counts 8 = .ok (.getfield 167, 3) := by decide +kernel
theorem dX12_counts_11 : decode cX12_counts 11 = .ok (.iload_n 2, 1) := by decide +kernel
theorem dX12_counts_12 : decode cX12_counts 12 = .ok (.iconst 0, 1) := by decide +kernel
theorem dX12_counts_13 : decode cX12_counts 13 = .ok (.bastore, 1) := by decide +kernel
theorem dX12_counts_14 : decode cX12_counts 14 = .ok (.iinc 2 1, 3) := by decide +kernel
theorem dX12_counts_17 : decode cX12_counts 17 = .ok (.goto (-15), 3) := by decide +kernel
theorem dX12_counts_20 : decode cX12_counts 20 = .ok (.iload_n 1, 1) := by decide +kernel
theorem dX12_counts_21 : decode cX12_counts 21 = .ok (.iconst 1, 1) := by decide +kernel
theorem dX12_counts_22 : decode cX12_counts 22 = .ok (.isub, 1) := by decide +kernel
theorem dX12_counts_23 : decode cX12_counts 23 = .ok (.istore_n 2, 1) := by decide +kernel
theorem dX12_counts_24 : decode cX12_counts 24 = .ok (.iload_n 2, 1) := by decide +kernel
theorem dX12_counts_25 : decode cX12_counts 25 = .ok (.ifCond .lt 40, 3) := by decide +kernel
theorem dX12_counts_28 : decode cX12_counts 28 = .ok (.aload_n 0, 1) := by decide +kernel
theorem dX12_counts_29 : decode cX12_counts 29 = .ok (.getfield 167, 3) := by decide +kernel
theorem dX12_counts_32 : decode cX12_counts 32 = .ok (.iload_n 2, 1) := by decide +kernel
theorem dX12_counts_33 : decode cX12_counts 33 = .ok (.baload, 1) := by decide +kernel
theorem dX12_counts_34 : decode cX12_counts 34 = .ok (.ifCond .ne 25, 3) := by decide +kernel
theorem dX12_counts_37 : decode cX12_counts 37 = .ok (.aload_n 0, 1) := by decide +kernel
theorem dX12_counts_38 : decode cX12_counts 38 = .ok (.getfield 161, 3) := by decide +kernel
theorem dX12_counts_41 : decode cX12_counts 41 = .ok (.iload_n 2, 1) := by decide +kernel
theorem dX12_counts_42 : decode cX12_counts 42 = .ok (.iaload, 1) := by decide +kernel
theorem dX12_counts_43 : decode cX12_counts 43 = .ok (.iconst (-1), 1) := by decide +kernel
theorem dX12_counts_44 : decode cX12_counts 44 = .ok (.if_icmp .ne 15, 3) := by decide +kernel
theorem dX12_counts_47 : decode cX12_counts 47 = .ok (.aload_n 0, 1) := by decide +kernel
theorem dX12_counts_48 : decode cX12_counts 48 = .ok (.getfield 167, 3) := by decide +kernel
theorem dX12_counts_51 : decode cX12_counts 51 = .ok (.aload_n 0, 1) := by decide +kernel
theorem dX12_counts_52 : decode cX12_counts 52 = .ok (.getfield 164, 3) := by decide +kernel
theorem dX12_counts_55 : decode cX12_counts 55 = .ok (.iload_n 2, 1) := by decide +kernel
theorem dX12_counts_56 : decode cX12_counts 56 = .ok (.iaload, 1) := by decide +kernel
theorem dX12_counts_57 : decode cX12_counts 57 = .ok (.iconst 1, 1) := by decide +kernel
theorem dX12_counts_58 : decode cX12_counts 58 = .ok (.bastore, 1) := by decide +kernel
theorem dX12_counts_59 : decode cX12_counts 59 = .ok (.iinc 2 (-1), 3) := by decide +kernel
theorem dX12_counts_62 : decode cX12_counts 62 = .ok (.goto (-38), 3) := by decide +kernel
theorem dX12_counts_65 : decode cX12_counts 65 = .ok (.return_, 1) := by decide +kernel
theorem dX12_paidBy_0 : decode cX12_paidBy 0 = .ok (.aload_n 0, 1) := by decide +kernel
theorem dX12_paidBy_1 : decode cX12_paidBy 1 = .ok (.iload_n 2, 1) := by decide +kernel
theorem dX12_paidBy_2 : decode cX12_paidBy 2 = .ok (.invokevirtual 509, 3) := by decide +kernel
theorem dX12_paidBy_5 : decode cX12_paidBy 5 = .ok (.aload_n 0, 1) := by decide +kernel
theorem dX12_paidBy_6 : decode cX12_paidBy 6 = .ok (.getfield 143, 3) := by decide +kernel
theorem dX12_paidBy_9 : decode cX12_paidBy 9 = .ok (.iload_n 1, 1) := by decide +kernel
theorem dX12_paidBy_10 : decode cX12_paidBy 10 = .ok (.iaload, 1) := by decide +kernel
theorem dX12_paidBy_11 : decode cX12_paidBy 11 = .ok (.istore_n 3, 1) := by decide +kernel
theorem dX12_paidBy_12 : decode cX12_paidBy 12 = .ok (.iconst 0, 1) := by decide +kernel
theorem dX12_paidBy_13 : decode cX12_paidBy 13 = .ok (.istore 4, 2) := by decide +kernel
theorem dX12_paidBy_15 : decode cX12_paidBy 15 = .ok (.iload 4, 2) := by decide +kernel
theorem dX12_paidBy_17 : decode cX12_paidBy 17 = .ok (.iload_n 2, 1) := by decide +kernel
theorem dX12_paidBy_18 : decode cX12_paidBy 18 = .ok (.if_icmp .ge 44, 3) := by decide +kernel
theorem dX12_paidBy_21 : decode cX12_paidBy 21 = .ok (.iload_n 3, 1) := by decide +kernel
theorem dX12_paidBy_22 : decode cX12_paidBy 22 = .ok (.aload_n 0, 1) := by decide +kernel
theorem dX12_paidBy_23 : decode cX12_paidBy 23 = .ok (.getfield 167, 3) := by decide +kernel
theorem dX12_paidBy_26 : decode cX12_paidBy 26 = .ok (.iload 4, 2) := by decide +kernel
theorem dX12_paidBy_28 : decode cX12_paidBy 28 = .ok (.baload, 1) := by decide +kernel
theorem dX12_paidBy_29 : decode cX12_paidBy 29 = .ok (.ifCond .ne 24, 3) := by decide +kernel
theorem dX12_paidBy_32 : decode cX12_paidBy 32 = .ok (.aload_n 0, 1) := by decide +kernel
theorem dX12_paidBy_33 : decode cX12_paidBy 33 = .ok (.getfield 161, 3) := by decide +kernel
theorem dX12_paidBy_36 : decode cX12_paidBy 36 = .ok (.iload 4, 2) := by decide +kernel
theorem dX12_paidBy_38 : decode cX12_paidBy 38 = .ok (.iaload, 1) := by decide +kernel
theorem dX12_paidBy_39 : decode cX12_paidBy 39 = .ok (.iload_n 1, 1) := by decide +kernel
theorem dX12_paidBy_40 : decode cX12_paidBy 40 = .ok (.if_icmp .ne 13, 3) := by decide +kernel
theorem dX12_paidBy_43 : decode cX12_paidBy 43 = .ok (.aload_n 0, 1) := by decide +kernel
theorem dX12_paidBy_44 : decode cX12_paidBy 44 = .ok (.getfield 164, 3) := by decide +kernel
theorem dX12_paidBy_47 : decode cX12_paidBy 47 = .ok (.iload 4, 2) := by decide +kernel
theorem dX12_paidBy_49 : decode cX12_paidBy 49 = .ok (.iaload, 1) := by decide +kernel
theorem dX12_paidBy_50 : decode cX12_paidBy 50 = .ok (.goto 4, 3) := by decide +kernel
theorem dX12_paidBy_53 : decode cX12_paidBy 53 = .ok (.iconst 0, 1) := by decide +kernel
theorem dX12_paidBy_54 : decode cX12_paidBy 54 = .ok (.iadd, 1) := by decide +kernel
theorem dX12_paidBy_55 : decode cX12_paidBy 55 = .ok (.istore_n 3, 1) := by decide +kernel
theorem dX12_paidBy_56 : decode cX12_paidBy 56 = .ok (.iinc 4 1, 3) := by decide +kernel
theorem dX12_paidBy_59 : decode cX12_paidBy 59 = .ok (.goto (-44), 3) := by decide +kernel
theorem dX12_paidBy_62 : decode cX12_paidBy 62 = .ok (.iload_n 3, 1) := by decide +kernel
theorem dX12_paidBy_63 : decode cX12_paidBy 63 = .ok (.ireturn, 1) := by decide +kernel
theorem dX12_balanceOf_0 : decode cX12_balanceOf 0 = .ok (.aload_n 0, 1) := by decide +kernel
theorem dX12_balanceOf_1 : decode cX12_balanceOf 1 = .ok (.getfield 128, 3) := by decide +kernel
theorem dX12_balanceOf_4 : decode cX12_balanceOf 4 = .ok (.iload_n 1, 1) := by decide +kernel
theorem dX12_balanceOf_5 : decode cX12_balanceOf 5 = .ok (.iaload, 1) := by decide +kernel
theorem dX12_balanceOf_6 : decode cX12_balanceOf 6 = .ok (.aload_n 0, 1) := by decide +kernel
theorem dX12_balanceOf_7 : decode cX12_balanceOf 7 = .ok (.getfield 87, 3) := by decide +kernel
theorem dX12_balanceOf_10 : decode cX12_balanceOf 10 = .ok (.iload_n 1, 1) := by decide +kernel
theorem dX12_balanceOf_11 : decode cX12_balanceOf 11 = .ok (.iaload, 1) := by decide +kernel
theorem dX12_balanceOf_12 : decode cX12_balanceOf 12 = .ok (.imul, 1) := by decide +kernel
theorem dX12_balanceOf_13 : decode cX12_balanceOf 13 = .ok (.aload_n 0, 1) := by decide +kernel
theorem dX12_balanceOf_14 : decode cX12_balanceOf 14 = .ok (.iload_n 1, 1) := by decide +kernel
theorem dX12_balanceOf_15 : decode cX12_balanceOf 15 = .ok (.iload_n 2, 1) := by decide +kernel
theorem dX12_balanceOf_16 : decode cX12_balanceOf 16 = .ok (.invokevirtual 512, 3) := by decide +kernel
theorem dX12_balanceOf_19 : decode cX12_balanceOf 19 = .ok (.isub, 1) := by decide +kernel
theorem dX12_balanceOf_20 : decode cX12_balanceOf 20 = .ok (.ireturn, 1) := by decide +kernel
theorem dX12_isNotes_0 : decode cX12_isNotes 0 = .ok (.iload_n 1, 1) := by decide +kernel
theorem dX12_isNotes_1 : decode cX12_isNotes 1 = .ok (.iconst (-1), 1) := by decide +kernel
theorem dX12_isNotes_2 : decode cX12_isNotes 2 = .ok (.if_icmp .lt 15, 3) := by decide +kernel
theorem dX12_isNotes_5 : decode cX12_isNotes 5 = .ok (.iload_n 1, 1) := by decide +kernel
theorem dX12_isNotes_6 : decode cX12_isNotes 6 = .ok (.aload_n 0, 1) := by decide +kernel
theorem dX12_isNotes_7 : decode cX12_isNotes 7 = .ok (.getfield 495, 3) := by decide +kernel
theorem dX12_isNotes_10 : decode cX12_isNotes 10 = .ok (.if_icmp .gt 7, 3) := by decide +kernel
theorem dX12_isNotes_13 : decode cX12_isNotes 13 = .ok (.iconst 1, 1) := by decide +kernel
theorem dX12_isNotes_14 : decode cX12_isNotes 14 = .ok (.goto 4, 3) := by decide +kernel
theorem dX12_isNotes_17 : decode cX12_isNotes 17 = .ok (.iconst 0, 1) := by decide +kernel
theorem dX12_isNotes_18 : decode cX12_isNotes 18 = .ok (.ireturn, 1) := by decide +kernel
theorem dX12_balance_0 : decode cX12_balance 0 = .ok (.aload_n 0, 1) := by decide +kernel
theorem dX12_balance_1 : decode cX12_balance 1 = .ok (.iconst 0, 1) := by decide +kernel
theorem dX12_balance_2 : decode cX12_balance 2 = .ok (.putfield 195, 3) := by decide +kernel
theorem dX12_balance_5 : decode cX12_balance 5 = .ok (.aload_n 0, 1) := by decide +kernel
theorem dX12_balance_6 : decode cX12_balance 6 = .ok (.iload_n 1, 1) := by decide +kernel
theorem dX12_balance_7 : decode cX12_balance 7 = .ok (.invokevirtual 434, 3) := by decide +kernel
theorem dX12_balance_10 : decode cX12_balance 10 = .ok (.ifCond .eq 32, 3) := by decide +kernel
theorem dX12_balance_13 : decode cX12_balance 13 = .ok (.aload_n 0, 1) := by decide +kernel
theorem dX12_balance_14 : decode cX12_balance 14 = .ok (.iload_n 2, 1) := by decide +kernel
theorem dX12_balance_15 : decode cX12_balance 15 = .ok (.invokevirtual 515, 3) := by decide +kernel
theorem dX12_balance_18 : decode cX12_balance 18 = .ok (.ifCond .eq 24, 3) := by decide +kernel
theorem dX12_balance_21 : decode cX12_balance 21 = .ok (.aload_n 0, 1) := by decide +kernel
theorem dX12_balance_22 : decode cX12_balance 22 = .ok (.iload_n 1, 1) := by decide +kernel
theorem dX12_balance_23 : decode cX12_balance 23 = .ok (.iload_n 2, 1) := by decide +kernel
theorem dX12_balance_24 : decode cX12_balance 24 = .ok (.iconst (-1), 1) := by decide +kernel
theorem dX12_balance_25 : decode cX12_balance 25 = .ok (.if_icmp .ne 10, 3) := by decide +kernel
theorem dX12_balance_28 : decode cX12_balance 28 = .ok (.aload_n 0, 1) := by decide +kernel
theorem dX12_balance_29 : decode cX12_balance 29 = .ok (.getfield 495, 3) := by decide +kernel
theorem dX12_balance_32 : decode cX12_balance 32 = .ok (.goto 4, 3) := by decide +kernel
theorem dX12_balance_35 : decode cX12_balance 35 = .ok (.iload_n 2, 1) := by decide +kernel
theorem dX12_balance_36 : decode cX12_balance 36 = .ok (.invokevirtual 518, 3) := by decide +kernel
theorem dX12_balance_39 : decode cX12_balance 39 = .ok (.goto 6, 3) := by decide +kernel
theorem dX12_balance_42 : decode cX12_balance 42 = .ok (.ldc_w 521, 3) := by decide +kernel
theorem dX12_balance_45 : decode cX12_balance 45 = .ok (.ireturn, 1) := by decide +kernel
theorem dX12_oldest_0 : decode cX12_oldest 0 = .ok (.aload_n 0, 1) := by decide +kernel
theorem dX12_oldest_1 : decode cX12_oldest 1 = .ok (.iconst 0, 1) := by decide +kernel
theorem dX12_oldest_2 : decode cX12_oldest 2 = .ok (.putfield 195, 3) := by decide +kernel
theorem dX12_oldest_5 : decode cX12_oldest 5 = .ok (.aload_n 0, 1) := by decide +kernel
theorem dX12_oldest_6 : decode cX12_oldest 6 = .ok (.iload_n 1, 1) := by decide +kernel
theorem dX12_oldest_7 : decode cX12_oldest 7 = .ok (.invokevirtual 434, 3) := by decide +kernel
theorem dX12_oldest_10 : decode cX12_oldest 10 = .ok (.ifCond .eq 11, 3) := by decide +kernel
theorem dX12_oldest_13 : decode cX12_oldest 13 = .ok (.aload_n 0, 1) := by decide +kernel
theorem dX12_oldest_14 : decode cX12_oldest 14 = .ok (.iload_n 2, 1) := by decide +kernel
theorem dX12_oldest_15 : decode cX12_oldest 15 = .ok (.invokevirtual 515, 3) := by decide +kernel
theorem dX12_oldest_18 : decode cX12_oldest 18 = .ok (.ifCond .ne 6, 3) := by decide +kernel
theorem dX12_oldest_21 : decode cX12_oldest 21 = .ok (.bipush (-2), 2) := by decide +kernel
theorem dX12_oldest_23 : decode cX12_oldest 23 = .ok (.ireturn, 1) := by decide +kernel
theorem dX12_oldest_24 : decode cX12_oldest 24 = .ok (.aload_n 0, 1) := by decide +kernel
theorem dX12_oldest_25 : decode cX12_oldest 25 = .ok (.iload_n 1, 1) := by decide +kernel
theorem dX12_oldest_26 : decode cX12_oldest 26 = .ok (.iload_n 2, 1) := by decide +kernel
theorem dX12_oldest_27 : decode cX12_oldest 27 = .ok (.iconst (-1), 1) := by decide +kernel
theorem dX12_oldest_28 : decode cX12_oldest 28 = .ok (.if_icmp .ne 10, 3) := by decide +kernel
theorem dX12_oldest_31 : decode cX12_oldest 31 = .ok (.aload_n 0, 1) := by decide +kernel
theorem dX12_oldest_32 : decode cX12_oldest 32 = .ok (.getfield 495, 3) := by decide +kernel
theorem dX12_oldest_35 : decode cX12_oldest 35 = .ok (.goto 4, 3) := by decide +kernel
theorem dX12_oldest_38 : decode cX12_oldest 38 = .ok (.iload_n 2, 1) := by decide +kernel
theorem dX12_oldest_39 : decode cX12_oldest 39 = .ok (.invokevirtual 512, 3) := by decide +kernel
theorem dX12_oldest_42 : decode cX12_oldest 42 = .ok (.istore_n 3, 1) := by decide +kernel
theorem dX12_oldest_43 : decode cX12_oldest 43 = .ok (.iconst 0, 1) := by decide +kernel
theorem dX12_oldest_44 : decode cX12_oldest 44 = .ok (.istore 4, 2) := by decide +kernel
theorem dX12_oldest_46 : decode cX12_oldest 46 = .ok (.iload 4, 2) := by decide +kernel
theorem dX12_oldest_48 : decode cX12_oldest 48 = .ok (.aload_n 0, 1) := by decide +kernel
theorem dX12_oldest_49 : decode cX12_oldest 49 = .ok (.getfield 128, 3) := by decide +kernel
theorem dX12_oldest_52 : decode cX12_oldest 52 = .ok (.iload_n 1, 1) := by decide +kernel
theorem dX12_oldest_53 : decode cX12_oldest 53 = .ok (.iaload, 1) := by decide +kernel
theorem dX12_oldest_54 : decode cX12_oldest 54 = .ok (.if_icmp .ge 37, 3) := by decide +kernel
theorem dX12_oldest_57 : decode cX12_oldest 57 = .ok (.iload 4, 2) := by decide +kernel
theorem dX12_oldest_59 : decode cX12_oldest 59 = .ok (.iconst 1, 1) := by decide +kernel
theorem dX12_oldest_60 : decode cX12_oldest 60 = .ok (.iadd, 1) := by decide +kernel
theorem dX12_oldest_61 : decode cX12_oldest 61 = .ok (.aload_n 0, 1) := by decide +kernel
theorem dX12_oldest_62 : decode cX12_oldest 62 = .ok (.getfield 87, 3) := by decide +kernel
theorem dX12_oldest_65 : decode cX12_oldest 65 = .ok (.iload_n 1, 1) := by decide +kernel
theorem dX12_oldest_66 : decode cX12_oldest 66 = .ok (.iaload, 1) := by decide +kernel
theorem dX12_oldest_67 : decode cX12_oldest 67 = .ok (.imul, 1) := by decide +kernel
theorem dX12_oldest_68 : decode cX12_oldest 68 = .ok (.iload_n 3, 1) := by decide +kernel
theorem dX12_oldest_69 : decode cX12_oldest 69 = .ok (.if_icmp .le 16, 3) := by decide +kernel
theorem dX12_oldest_72 : decode cX12_oldest 72 = .ok (.aload_n 0, 1) := by decide +kernel
theorem dX12_oldest_73 : decode cX12_oldest 73 = .ok (.getfield 149, 3) := by decide +kernel
theorem dX12_oldest_76 : decode cX12_oldest 76 = .ok (.bipush 30, 2) := by decide +kernel
theorem dX12_oldest_78 : decode cX12_oldest 78 = .ok (.iload_n 1, 1) := by decide +kernel
theorem dX12_oldest_79 : decode cX12_oldest 79 = .ok (.imul, 1) := by decide +kernel
theorem dX12_oldest_80 : decode cX12_oldest 80 = .ok (.iload 4, 2) := by decide +kernel
theorem dX12_oldest_82 : decode cX12_oldest 82 = .ok (.iadd, 1) := by decide +kernel
theorem dX12_oldest_83 : decode cX12_oldest 83 = .ok (.iaload, 1) := by decide +kernel
theorem dX12_oldest_84 : decode cX12_oldest 84 = .ok (.ireturn, 1) := by decide +kernel
theorem dX12_oldest_85 : decode cX12_oldest 85 = .ok (.iinc 4 1, 3) := by decide +kernel
theorem dX12_oldest_88 : decode cX12_oldest 88 = .ok (.goto (-42), 3) := by decide +kernel
theorem dX12_oldest_91 : decode cX12_oldest 91 = .ok (.iconst (-1), 1) := by decide +kernel
theorem dX12_oldest_92 : decode cX12_oldest 92 = .ok (.ireturn, 1) := by decide +kernel
theorem dX12_owed_0 : decode cX12_owed 0 = .ok (.aload_n 0, 1) := by decide +kernel
theorem dX12_owed_1 : decode cX12_owed 1 = .ok (.iconst 0, 1) := by decide +kernel
theorem dX12_owed_2 : decode cX12_owed 2 = .ok (.putfield 195, 3) := by decide +kernel
theorem dX12_owed_5 : decode cX12_owed 5 = .ok (.aload_n 0, 1) := by decide +kernel
theorem dX12_owed_6 : decode cX12_owed 6 = .ok (.iload_n 1, 1) := by decide +kernel
theorem dX12_owed_7 : decode cX12_owed 7 = .ok (.invokevirtual 522, 3) := by decide +kernel
theorem dX12_owed_10 : decode cX12_owed 10 = .ok (.ifCond .ne 5, 3) := by decide +kernel
theorem dX12_owed_13 : decode cX12_owed 13 = .ok (.iconst (-1), 1) := by decide +kernel
theorem dX12_owed_14 : decode cX12_owed 14 = .ok (.ireturn, 1) := by decide +kernel
theorem dX12_owed_15 : decode cX12_owed 15 = .ok (.iconst 0, 1) := by decide +kernel
theorem dX12_owed_16 : decode cX12_owed 16 = .ok (.istore_n 2, 1) := by decide +kernel
theorem dX12_owed_17 : decode cX12_owed 17 = .ok (.iconst 0, 1) := by decide +kernel
theorem dX12_owed_18 : decode cX12_owed 18 = .ok (.istore_n 3, 1) := by decide +kernel
theorem dX12_owed_19 : decode cX12_owed 19 = .ok (.iload_n 3, 1) := by decide +kernel
theorem dX12_owed_20 : decode cX12_owed 20 = .ok (.aload_n 0, 1) := by decide +kernel
theorem dX12_owed_21 : decode cX12_owed 21 = .ok (.getfield 403, 3) := by decide +kernel
theorem dX12_owed_24 : decode cX12_owed 24 = .ok (.if_icmp .ge 35, 3) := by decide +kernel
theorem dX12_owed_27 : decode cX12_owed 27 = .ok (.aload_n 0, 1) := by decide +kernel
theorem dX12_owed_28 : decode cX12_owed 28 = .ok (.getfield 146, 3) := by decide +kernel
theorem dX12_owed_31 : decode cX12_owed 31 = .ok (.iload_n 3, 1) := by decide +kernel
theorem dX12_owed_32 : decode cX12_owed 32 = .ok (.iaload, 1) := by decide +kernel
theorem dX12_owed_33 : decode cX12_owed 33 = .ok (.iload_n 1, 1) := by decide +kernel
theorem dX12_owed_34 : decode cX12_owed 34 = .ok (.if_icmp .ne 19, 3) := by decide +kernel
theorem dX12_owed_37 : decode cX12_owed 37 = .ok (.iload_n 2, 1) := by decide +kernel
theorem dX12_owed_38 : decode cX12_owed 38 = .ok (.iconst 0, 1) := by decide +kernel
theorem dX12_owed_39 : decode cX12_owed 39 = .ok (.aload_n 0, 1) := by decide +kernel
theorem dX12_owed_40 : decode cX12_owed 40 = .ok (.iload_n 3, 1) := by decide +kernel
theorem dX12_owed_41 : decode cX12_owed 41 = .ok (.aload_n 0, 1) := by decide +kernel
theorem dX12_owed_42 : decode cX12_owed 42 = .ok (.getfield 495, 3) := by decide +kernel
theorem dX12_owed_45 : decode cX12_owed 45 = .ok (.invokevirtual 518, 3) := by decide +kernel
theorem dX12_owed_48 : decode cX12_owed 48 = .ok (.invokestatic 447, 3) := by decide +kernel
theorem dX12_owed_51 : decode cX12_owed 51 = .ok (.iadd, 1) := by decide +kernel
theorem dX12_owed_52 : decode cX12_owed 52 = .ok (.istore_n 2, 1) := by decide +kernel
theorem dX12_owed_53 : decode cX12_owed 53 = .ok (.iinc 3 1, 3) := by decide +kernel
theorem dX12_owed_56 : decode cX12_owed 56 = .ok (.goto (-37), 3) := by decide +kernel
theorem dX12_owed_59 : decode cX12_owed 59 = .ok (.iload_n 2, 1) := by decide +kernel
theorem dX12_owed_60 : decode cX12_owed 60 = .ok (.ireturn, 1) := by decide +kernel
theorem dX12_pay_0 : decode cX12_pay 0 = .ok (.aload_n 0, 1) := by decide +kernel
theorem dX12_pay_1 : decode cX12_pay 1 = .ok (.iconst 0, 1) := by decide +kernel
theorem dX12_pay_2 : decode cX12_pay 2 = .ok (.putfield 195, 3) := by decide +kernel
theorem dX12_pay_5 : decode cX12_pay 5 = .ok (.aload_n 0, 1) := by decide +kernel
theorem dX12_pay_6 : decode cX12_pay 6 = .ok (.iload_n 1, 1) := by decide +kernel
theorem dX12_pay_7 : decode cX12_pay 7 = .ok (.invokevirtual 434, 3) := by decide +kernel
theorem dX12_pay_10 : decode cX12_pay 10 = .ok (.ifCond .eq 34, 3) := by decide +kernel
theorem dX12_pay_13 : decode cX12_pay 13 = .ok (.iload_n 2, 1) := by decide +kernel
theorem dX12_pay_14 : decode cX12_pay 14 = .ok (.ifCond .lt 30, 3) := by decide +kernel
theorem dX12_pay_17 : decode cX12_pay 17 = .ok (.iload_n 2, 1) := by decide +kernel
theorem dX12_pay_18 : decode cX12_pay 18 = .ok (.sipush 200, 3) := by decide +kernel
theorem dX12_pay_21 : decode cX12_pay 21 = .ok (.if_icmp .ge 23, 3) := by decide +kernel
theorem dX12_pay_24 : decode cX12_pay 24 = .ok (.iload_n 3, 1) := by decide +kernel
theorem dX12_pay_25 : decode cX12_pay 25 = .ok (.ifCond .lt 19, 3) := by decide +kernel
theorem dX12_pay_28 : decode cX12_pay 28 = .ok (.iload_n 3, 1) := by decide +kernel
theorem dX12_pay_29 : decode cX12_pay 29 = .ok (.sipush 9999, 3) := by decide +kernel
theorem dX12_pay_32 : decode cX12_pay 32 = .ok (.if_icmp .gt 12, 3) := by decide +kernel
theorem dX12_pay_35 : decode cX12_pay 35 = .ok (.aload_n 0, 1) := by decide +kernel
theorem dX12_pay_36 : decode cX12_pay 36 = .ok (.getfield 495, 3) := by decide +kernel
theorem dX12_pay_39 : decode cX12_pay 39 = .ok (.bipush 60, 2) := by decide +kernel
theorem dX12_pay_41 : decode cX12_pay 41 = .ok (.if_icmp .ne 5, 3) := by decide +kernel
theorem dX12_pay_44 : decode cX12_pay 44 = .ok (.iconst (-1), 1) := by decide +kernel
theorem dX12_pay_45 : decode cX12_pay 45 = .ok (.ireturn, 1) := by decide +kernel
theorem dX12_pay_46 : decode cX12_pay 46 = .ok (.aload_n 0, 1) := by decide +kernel
theorem dX12_pay_47 : decode cX12_pay 47 = .ok (.getfield 161, 3) := by decide +kernel
theorem dX12_pay_50 : decode cX12_pay 50 = .ok (.aload_n 0, 1) := by decide +kernel
theorem dX12_pay_51 : decode cX12_pay 51 = .ok (.getfield 495, 3) := by decide +kernel
theorem dX12_pay_54 : decode cX12_pay 54 = .ok (.iload_n 1, 1) := by decide +kernel
theorem dX12_pay_55 : decode cX12_pay 55 = .ok (.iastore, 1) := by decide +kernel
theorem dX12_pay_56 : decode cX12_pay 56 = .ok (.aload_n 0, 1) := by decide +kernel
theorem dX12_pay_57 : decode cX12_pay 57 = .ok (.getfield 164, 3) := by decide +kernel
theorem dX12_pay_60 : decode cX12_pay 60 = .ok (.aload_n 0, 1) := by decide +kernel
theorem dX12_pay_61 : decode cX12_pay 61 = .ok (.getfield 495, 3) := by decide +kernel
theorem dX12_pay_64 : decode cX12_pay 64 = .ok (.iload_n 3, 1) := by decide +kernel
theorem dX12_pay_65 : decode cX12_pay 65 = .ok (.iastore, 1) := by decide +kernel
theorem dX12_pay_66 : decode cX12_pay 66 = .ok (.aload_n 0, 1) := by decide +kernel
theorem dX12_pay_67 : decode cX12_pay 67 = .ok (.dup, 1) := by decide +kernel
theorem dX12_pay_68 : decode cX12_pay 68 = .ok (.getfield 495, 3) := by decide +kernel
theorem dX12_pay_71 : decode cX12_pay 71 = .ok (.iconst 1, 1) := by decide +kernel
theorem dX12_pay_72 : decode cX12_pay 72 = .ok (.iadd, 1) := by decide +kernel
theorem dX12_pay_73 : decode cX12_pay 73 = .ok (.putfield 495, 3) := by decide +kernel
theorem dX12_pay_76 : decode cX12_pay 76 = .ok (.aload_n 0, 1) := by decide +kernel
theorem dX12_pay_77 : decode cX12_pay 77 = .ok (.getfield 495, 3) := by decide +kernel
theorem dX12_pay_80 : decode cX12_pay 80 = .ok (.iconst 1, 1) := by decide +kernel
theorem dX12_pay_81 : decode cX12_pay 81 = .ok (.isub, 1) := by decide +kernel
theorem dX12_pay_82 : decode cX12_pay 82 = .ok (.ireturn, 1) := by decide +kernel
theorem dX12_strike_0 : decode cX12_strike 0 = .ok (.aload_n 0, 1) := by decide +kernel
theorem dX12_strike_1 : decode cX12_strike 1 = .ok (.iconst 0, 1) := by decide +kernel
theorem dX12_strike_2 : decode cX12_strike 2 = .ok (.putfield 195, 3) := by decide +kernel
theorem dX12_strike_5 : decode cX12_strike 5 = .ok (.iload_n 1, 1) := by decide +kernel
theorem dX12_strike_6 : decode cX12_strike 6 = .ok (.ifCond .lt 20, 3) := by decide +kernel
theorem dX12_strike_9 : decode cX12_strike 9 = .ok (.iload_n 1, 1) := by decide +kernel
theorem dX12_strike_10 : decode cX12_strike 10 = .ok (.aload_n 0, 1) := by decide +kernel
theorem dX12_strike_11 : decode cX12_strike 11 = .ok (.getfield 495, 3) := by decide +kernel
theorem dX12_strike_14 : decode cX12_strike 14 = .ok (.if_icmp .ge 12, 3) := by decide +kernel
theorem dX12_strike_17 : decode cX12_strike 17 = .ok (.aload_n 0, 1) := by decide +kernel
theorem dX12_strike_18 : decode cX12_strike 18 = .ok (.getfield 495, 3) := by decide +kernel
theorem dX12_strike_21 : decode cX12_strike 21 = .ok (.bipush 60, 2) := by decide +kernel
theorem dX12_strike_23 : decode cX12_strike 23 = .ok (.if_icmp .ne 5, 3) := by decide +kernel
theorem dX12_strike_26 : decode cX12_strike 26 = .ok (.iconst (-1), 1) := by decide +kernel
theorem dX12_strike_27 : decode cX12_strike 27 = .ok (.ireturn, 1) := by decide +kernel
theorem dX12_strike_28 : decode cX12_strike 28 = .ok (.aload_n 0, 1) := by decide +kernel
theorem dX12_strike_29 : decode cX12_strike 29 = .ok (.getfield 161, 3) := by decide +kernel
theorem dX12_strike_32 : decode cX12_strike 32 = .ok (.aload_n 0, 1) := by decide +kernel
theorem dX12_strike_33 : decode cX12_strike 33 = .ok (.getfield 495, 3) := by decide +kernel
theorem dX12_strike_36 : decode cX12_strike 36 = .ok (.iconst (-1), 1) := by decide +kernel
theorem dX12_strike_37 : decode cX12_strike 37 = .ok (.iastore, 1) := by decide +kernel
theorem dX12_strike_38 : decode cX12_strike 38 = .ok (.aload_n 0, 1) := by decide +kernel
theorem dX12_strike_39 : decode cX12_strike 39 = .ok (.getfield 164, 3) := by decide +kernel
theorem dX12_strike_42 : decode cX12_strike 42 = .ok (.aload_n 0, 1) := by decide +kernel
theorem dX12_strike_43 : decode cX12_strike 43 = .ok (.getfield 495, 3) := by decide +kernel
theorem dX12_strike_46 : decode cX12_strike 46 = .ok (.iload_n 1, 1) := by decide +kernel
theorem dX12_strike_47 : decode cX12_strike 47 = .ok (.iastore, 1) := by decide +kernel
theorem dX12_strike_48 : decode cX12_strike 48 = .ok (.aload_n 0, 1) := by decide +kernel
theorem dX12_strike_49 : decode cX12_strike 49 = .ok (.dup, 1) := by decide +kernel
theorem dX12_strike_50 : decode cX12_strike 50 = .ok (.getfield 495, 3) := by decide +kernel
theorem dX12_strike_53 : decode cX12_strike 53 = .ok (.iconst 1, 1) := by decide +kernel
theorem dX12_strike_54 : decode cX12_strike 54 = .ok (.iadd, 1) := by decide +kernel
theorem dX12_strike_55 : decode cX12_strike 55 = .ok (.putfield 495, 3) := by decide +kernel
theorem dX12_strike_58 : decode cX12_strike 58 = .ok (.aload_n 0, 1) := by decide +kernel
theorem dX12_strike_59 : decode cX12_strike 59 = .ok (.getfield 495, 3) := by decide +kernel
theorem dX12_strike_62 : decode cX12_strike 62 = .ok (.iconst 1, 1) := by decide +kernel
theorem dX12_strike_63 : decode cX12_strike 63 = .ok (.isub, 1) := by decide +kernel
theorem dX12_strike_64 : decode cX12_strike 64 = .ok (.ireturn, 1) := by decide +kernel
theorem dX12_nameOf_0 : decode cX12_nameOf 0 = .ok (.iload_n 1, 1) := by decide +kernel
theorem dX12_nameOf_1 : decode cX12_nameOf 1 = .ok (.tableswitch 107 13 23 #[91, 107, 107, 107, 107, 107, 107, 59, 72, 83, 99], 59) := by decide +kernel
theorem dX12_nameOf_60 : decode cX12_nameOf 60 = .ok (.aload_n 0, 1) := by decide +kernel
theorem dX12_nameOf_61 : decode cX12_nameOf 61 = .ok (.getfield 492, 3) := by decide +kernel
theorem dX12_nameOf_64 : decode cX12_nameOf 64 = .ok (.aload_n 0, 1) := by decide +kernel
theorem dX12_nameOf_65 : decode cX12_nameOf 65 = .ok (.getfield 125, 3) := by decide +kernel
theorem dX12_nameOf_68 : decode cX12_nameOf 68 = .ok (.iload_n 2, 1) := by decide +kernel
theorem dX12_nameOf_69 : decode cX12_nameOf 69 = .ok (.iaload, 1) := by decide +kernel
theorem dX12_nameOf_70 : decode cX12_nameOf 70 = .ok (.isub, 1) := by decide +kernel
theorem dX12_nameOf_71 : decode cX12_nameOf 71 = .ok (.i2l, 1) := by decide +kernel
theorem dX12_nameOf_72 : decode cX12_nameOf 72 = .ok (.lreturn, 1) := by decide +kernel
theorem dX12_nameOf_73 : decode cX12_nameOf 73 = .ok (.aload_n 0, 1) := by decide +kernel
theorem dX12_nameOf_74 : decode cX12_nameOf 74 = .ok (.iload_n 2, 1) := by decide +kernel
theorem dX12_nameOf_75 : decode cX12_nameOf 75 = .ok (.aload_n 0, 1) := by decide +kernel
theorem dX12_nameOf_76 : decode cX12_nameOf 76 = .ok (.getfield 495, 3) := by decide +kernel
theorem dX12_nameOf_79 : decode cX12_nameOf 79 = .ok (.invokevirtual 518, 3) := by decide +kernel
theorem dX12_nameOf_82 : decode cX12_nameOf 82 = .ok (.i2l, 1) := by decide +kernel
theorem dX12_nameOf_83 : decode cX12_nameOf 83 = .ok (.lreturn, 1) := by decide +kernel
theorem dX12_nameOf_84 : decode cX12_nameOf 84 = .ok (.aload_n 0, 1) := by decide +kernel
theorem dX12_nameOf_85 : decode cX12_nameOf 85 = .ok (.getfield 128, 3) := by decide +kernel
theorem dX12_nameOf_88 : decode cX12_nameOf 88 = .ok (.iload_n 2, 1) := by decide +kernel
theorem dX12_nameOf_89 : decode cX12_nameOf 89 = .ok (.iaload, 1) := by decide +kernel
theorem dX12_nameOf_90 : decode cX12_nameOf 90 = .ok (.i2l, 1) := by decide +kernel
theorem dX12_nameOf_91 : decode cX12_nameOf 91 = .ok (.lreturn, 1) := by decide +kernel
theorem dX12_nameOf_92 : decode cX12_nameOf 92 = .ok (.aload_n 0, 1) := by decide +kernel
theorem dX12_nameOf_93 : decode cX12_nameOf 93 = .ok (.getfield 87, 3) := by decide +kernel
theorem dX12_nameOf_96 : decode cX12_nameOf 96 = .ok (.iload_n 2, 1) := by decide +kernel
theorem dX12_nameOf_97 : decode cX12_nameOf 97 = .ok (.iaload, 1) := by decide +kernel
theorem dX12_nameOf_98 : decode cX12_nameOf 98 = .ok (.i2l, 1) := by decide +kernel
theorem dX12_nameOf_99 : decode cX12_nameOf 99 = .ok (.lreturn, 1) := by decide +kernel
theorem dX12_nameOf_100 : decode cX12_nameOf 100 = .ok (.aload_n 0, 1) := by decide +kernel
theorem dX12_nameOf_101 : decode cX12_nameOf 101 = .ok (.getfield 81, 3) := by decide +kernel
theorem dX12_nameOf_104 : decode cX12_nameOf 104 = .ok (.iload_n 2, 1) := by decide +kernel
theorem dX12_nameOf_105 : decode cX12_nameOf 105 = .ok (.iaload, 1) := by decide +kernel
theorem dX12_nameOf_106 : decode cX12_nameOf 106 = .ok (.i2l, 1) := by decide +kernel
theorem dX12_nameOf_107 : decode cX12_nameOf 107 = .ok (.lreturn, 1) := by decide +kernel
theorem dX12_nameOf_108 : decode cX12_nameOf 108 = .ok (.aload_n 0, 1) := by decide +kernel
theorem dX12_nameOf_109 : decode cX12_nameOf 109 = .ok (.getfield 492, 3) := by decide +kernel
theorem dX12_nameOf_112 : decode cX12_nameOf 112 = .ok (.i2l, 1) := by decide +kernel
theorem dX12_nameOf_113 : decode cX12_nameOf 113 = .ok (.lreturn, 1) := by decide +kernel
theorem dX12_is_0 : decode cX12_is 0 = .ok (.iload_n 0, 1) := by decide +kernel
theorem dX12_is_1 : decode cX12_is 1 = .ok (.ifCond .eq 7, 3) := by decide +kernel
theorem dX12_is_4 : decode cX12_is 4 = .ok (.lconst 1, 1) := by decide +kernel
theorem dX12_is_5 : decode cX12_is 5 = .ok (.goto 4, 3) := by decide +kernel
theorem dX12_is_8 : decode cX12_is 8 = .ok (.lconst 0, 1) := by decide +kernel
theorem dX12_is_9 : decode cX12_is 9 = .ok (.lreturn, 1) := by decide +kernel
theorem dX12_works_0 : decode cX12_works 0 = .ok (.aload_n 0, 1) := by decide +kernel
theorem dX12_works_1 : decode cX12_works 1 = .ok (.getfield 173, 3) := by decide +kernel
theorem dX12_works_4 : decode cX12_works 4 = .ok (.aload_n 0, 1) := by decide +kernel
theorem dX12_works_5 : decode cX12_works 5 = .ok (.getfield 525, 3) := by decide +kernel
theorem dX12_works_8 : decode cX12_works 8 = .ok (.iconst 1, 1) := by decide +kernel
theorem dX12_works_9 : decode cX12_works 9 = .ok (.isub, 1) := by decide +kernel
theorem dX12_works_10 : decode cX12_works 10 = .ok (.laload, 1) := by decide +kernel
theorem dX12_works_11 : decode cX12_works 11 = .ok (.lstore_n 2, 1) := by decide +kernel
theorem dX12_works_12 : decode cX12_works 12 = .ok (.iload_n 1, 1) := by decide +kernel
theorem dX12_works_13 : decode cX12_works 13 = .ok (.sipush 260, 3) := by decide +kernel
theorem dX12_works_16 : decode cX12_works 16 = .ok (.if_icmp .ne 30, 3) := by decide +kernel
theorem dX12_works_19 : decode cX12_works 19 = .ok (.aload_n 0, 1) := by decide +kernel
theorem dX12_works_20 : decode cX12_works 20 = .ok (.getfield 173, 3) := by decide +kernel
theorem dX12_works_23 : decode cX12_works 23 = .ok (.aload_n 0, 1) := by decide +kernel
theorem dX12_works_24 : decode cX12_works 24 = .ok (.getfield 525, 3) := by decide +kernel
theorem dX12_works_27 : decode cX12_works 27 = .ok (.iconst 1, 1) := by decide +kernel
theorem dX12_works_28 : decode cX12_works 28 = .ok (.isub, 1) := by decide +kernel
theorem dX12_works_29 : decode cX12_works 29 = .ok (.lload_n 2, 1) := by decide +kernel
theorem dX12_works_30 : decode cX12_works 30 = .ok (.lconst 0, 1) := by decide +kernel
theorem dX12_works_31 : decode cX12_works 31 = .ok (.lcmp, 1) := by decide +kernel
theorem dX12_works_32 : decode cX12_works 32 = .ok (.ifCond .ne 7, 3) := by decide +kernel
theorem dX12_works_35 : decode cX12_works 35 = .ok (.iconst 1, 1) := by decide +kernel
theorem dX12_works_36 : decode cX12_works 36 = .ok (.goto 4, 3) := by decide +kernel
theorem dX12_works_39 : decode cX12_works 39 = .ok (.iconst 0, 1) := by decide +kernel
theorem dX12_works_40 : decode cX12_works 40 = .ok (.invokestatic 528, 3) := by decide +kernel
theorem dX12_works_43 : decode cX12_works 43 = .ok (.lastore, 1) := by decide +kernel
theorem dX12_works_44 : decode cX12_works 44 = .ok (.iconst 1, 1) := by decide +kernel
theorem dX12_works_45 : decode cX12_works 45 = .ok (.ireturn, 1) := by decide +kernel
theorem dX12_works_46 : decode cX12_works 46 = .ok (.aload_n 0, 1) := by decide +kernel
theorem dX12_works_47 : decode cX12_works 47 = .ok (.getfield 173, 3) := by decide +kernel
theorem dX12_works_50 : decode cX12_works 50 = .ok (.aload_n 0, 1) := by decide +kernel
theorem dX12_works_51 : decode cX12_works 51 = .ok (.getfield 525, 3) := by decide +kernel
theorem dX12_works_54 : decode cX12_works 54 = .ok (.iconst 2, 1) := by decide +kernel
theorem dX12_works_55 : decode cX12_works 55 = .ok (.isub, 1) := by decide +kernel
theorem dX12_works_56 : decode cX12_works 56 = .ok (.laload, 1) := by decide +kernel
theorem dX12_works_57 : decode cX12_works 57 = .ok (.lstore 4, 2) := by decide +kernel
theorem dX12_works_59 : decode cX12_works 59 = .ok (.aload_n 0, 1) := by decide +kernel
theorem dX12_works_60 : decode cX12_works 60 = .ok (.dup, 1) := by decide +kernel
theorem dX12_works_61 : decode cX12_works 61 = .ok (.getfield 525, 3) := by decide +kernel
theorem dX12_works_64 : decode cX12_works 64 = .ok (.iconst 1, 1) := by decide +kernel
theorem dX12_works_65 : decode cX12_works 65 = .ok (.isub, 1) := by decide +kernel
theorem dX12_works_66 : decode cX12_works 66 = .ok (.putfield 525, 3) := by decide +kernel
theorem dX12_works_69 : decode cX12_works 69 = .ok (.iload_n 1, 1) := by decide +kernel
theorem dX12_works_70 : decode cX12_works 70 = .ok (.lookupswitch 314 #[(42, 116), (43, 98), (45, 107), (47, 151), (60, 168), (61, 208), (62, 188), (256, 228), (257, 268), (258, 248), (261, 288)], 98) := by decide +kernel
theorem dX12_works_168 : decode cX12_works 168 = .ok (.lload 4, 2) := by decide +kernel
theorem dX12_works_170 : decode cX12_works 170 = .ok (.lload_n 2, 1) := by decide +kernel
theorem dX12_works_171 : decode cX12_works 171 = .ok (.ladd, 1) := by decide +kernel
theorem dX12_works_172 : decode cX12_works 172 = .ok (.lstore 6, 2) := by decide +kernel
theorem dX12_works_174 : decode cX12_works 174 = .ok (.goto 233, 3) := by decide +kernel
theorem dX12_works_177 : decode cX12_works 177 = .ok (.lload 4, 2) := by decide +kernel
theorem dX12_works_179 : decode cX12_works 179 = .ok (.lload_n 2, 1) := by decide +kernel
theorem dX12_works_180 : decode cX12_works 180 = .ok (.lsub, 1) := by decide +kernel
theorem dX12_works_181 : decode cX12_works 181 = .ok (.lstore 6, 2) := by decide +kernel
theorem dX12_works_183 : decode cX12_works 183 = .ok (.goto 224, 3) := by decide +kernel
theorem dX12_works_186 : decode cX12_works 186 = .ok (.lload 4, 2) := by decide +kernel
theorem dX12_works_188 : decode cX12_works 188 = .ok (.lconst 0, 1) := by decide +kernel
theorem dX12_works_189 : decode cX12_works 189 = .ok (.lcmp, 1) := by decide +kernel
theorem dX12_works_190 : decode cX12_works 190 = .ok (.ifCond .eq 22, 3) := by decide +kernel
theorem dX12_works_193 : decode cX12_works 193 = .ok (.lload_n 2, 1) := by decide +kernel
theorem dX12_works_194 : decode cX12_works 194 = .ok (.invokestatic 532, 3) := by decide +kernel
theorem dX12_works_197 : decode cX12_works 197 = .ok (.ldc2_w 535, 3) := by decide +kernel
theorem dX12_works_200 : decode cX12_works 200 = .ok (.lload 4, 2) := by decide +kernel
theorem dX12_works_202 : decode cX12_works 202 = .ok (.invokestatic 532, 3) := by decide +kernel
theorem dX12_works_205 : decode cX12_works 205 = .ok (.ldiv, 1) := by decide +kernel
theorem dX12_works_206 : decode cX12_works 206 = .ok (.lcmp, 1) := by decide +kernel
theorem dX12_works_207 : decode cX12_works 207 = .ok (.ifCond .le 5, 3) := by decide +kernel
theorem dX12_works_210 : decode cX12_works 210 = .ok (.iconst 0, 1) := by decide +kernel
theorem dX12_works_211 : decode cX12_works 211 = .ok (.ireturn, 1) := by decide +kernel
theorem dX12_works_212 : decode cX12_works 212 = .ok (.lload 4, 2) := by decide +kernel
theorem dX12_works_214 : decode cX12_works 214 = .ok (.lload_n 2, 1) := by decide +kernel
theorem dX12_works_215 : decode cX12_works 215 = .ok (.lmul, 1) := by decide +kernel
theorem dX12_works_216 : decode cX12_works 216 = .ok (.lstore 6, 2) := by decide +kernel
theorem dX12_works_218 : decode cX12_works 218 = .ok (.goto 189, 3) := by decide +kernel
theorem dX12_works_221 : decode cX12_works 221 = .ok (.lload_n 2, 1) := by decide +kernel
theorem dX12_works_222 : decode cX12_works 222 = .ok (.lconst 0, 1) := by decide +kernel
theorem dX12_works_223 : decode cX12_works 223 = .ok (.lcmp, 1) := by decide +kernel
theorem dX12_works_224 : decode cX12_works 224 = .ok (.ifCond .ne 5, 3) := by decide +kernel
theorem dX12_works_227 : decode cX12_works 227 = .ok (.iconst 0, 1) := by decide +kernel
theorem dX12_works_228 : decode cX12_works 228 = .ok (.ireturn, 1) := by decide +kernel
theorem dX12_works_229 : decode cX12_works 229 = .ok (.lload 4, 2) := by decide +kernel
theorem dX12_works_231 : decode cX12_works 231 = .ok (.lload_n 2, 1) := by decide +kernel
theorem dX12_works_232 : decode cX12_works 232 = .ok (.ldiv, 1) := by decide +kernel
theorem dX12_works_233 : decode cX12_works 233 = .ok (.lstore 6, 2) := by decide +kernel
theorem dX12_works_235 : decode cX12_works 235 = .ok (.goto 172, 3) := by decide +kernel
theorem dX12_works_238 : decode cX12_works 238 = .ok (.lload 4, 2) := by decide +kernel
theorem dX12_works_240 : decode cX12_works 240 = .ok (.lload_n 2, 1) := by decide +kernel
theorem dX12_works_241 : decode cX12_works 241 = .ok (.lcmp, 1) := by decide +kernel
theorem dX12_works_242 : decode cX12_works 242 = .ok (.ifCond .ge 7, 3) := by decide +kernel
theorem dX12_works_245 : decode cX12_works 245 = .ok (.iconst 1, 1) := by decide +kernel
theorem dX12_works_246 : decode cX12_works 246 = .ok (.goto 4, 3) := by decide +kernel
theorem dX12_works_249 : decode cX12_works 249 = .ok (.iconst 0, 1) := by decide +kernel
theorem dX12_works_250 : decode cX12_works 250 = .ok (.invokestatic 528, 3) := by decide +kernel
theorem dX12_works_253 : decode cX12_works 253 = .ok (.lstore 6, 2) := by decide +kernel
theorem dX12_works_255 : decode cX12_works 255 = .ok (.goto 152, 3) := by decide +kernel
theorem dX12_works_258 : decode cX12_works 258 = .ok (.lload 4, 2) := by decide +kernel
theorem dX12_works_260 : decode cX12_works 260 = .ok (.lload_n 2, 1) := by decide +kernel
theorem dX12_works_261 : decode cX12_works 261 = .ok (.lcmp, 1) := by decide +kernel
theorem dX12_works_262 : decode cX12_works 262 = .ok (.ifCond .le 7, 3) := by decide +kernel
theorem dX12_works_265 : decode cX12_works 265 = .ok (.iconst 1, 1) := by decide +kernel
theorem dX12_works_266 : decode cX12_works 266 = .ok (.goto 4, 3) := by decide +kernel
theorem dX12_works_269 : decode cX12_works 269 = .ok (.iconst 0, 1) := by decide +kernel
theorem dX12_works_270 : decode cX12_works 270 = .ok (.invokestatic 528, 3) := by decide +kernel
theorem dX12_works_273 : decode cX12_works 273 = .ok (.lstore 6, 2) := by decide +kernel
theorem dX12_works_275 : decode cX12_works 275 = .ok (.goto 132, 3) := by decide +kernel
theorem dX12_works_278 : decode cX12_works 278 = .ok (.lload 4, 2) := by decide +kernel
theorem dX12_works_280 : decode cX12_works 280 = .ok (.lload_n 2, 1) := by decide +kernel
theorem dX12_works_281 : decode cX12_works 281 = .ok (.lcmp, 1) := by decide +kernel
theorem dX12_works_282 : decode cX12_works 282 = .ok (.ifCond .ne 7, 3) := by decide +kernel
theorem dX12_works_285 : decode cX12_works 285 = .ok (.iconst 1, 1) := by decide +kernel
theorem dX12_works_286 : decode cX12_works 286 = .ok (.goto 4, 3) := by decide +kernel
theorem dX12_works_289 : decode cX12_works 289 = .ok (.iconst 0, 1) := by decide +kernel
theorem dX12_works_290 : decode cX12_works 290 = .ok (.invokestatic 528, 3) := by decide +kernel
theorem dX12_works_293 : decode cX12_works 293 = .ok (.lstore 6, 2) := by decide +kernel
theorem dX12_works_295 : decode cX12_works 295 = .ok (.goto 112, 3) := by decide +kernel
theorem dX12_works_298 : decode cX12_works 298 = .ok (.lload 4, 2) := by decide +kernel
theorem dX12_works_300 : decode cX12_works 300 = .ok (.lload_n 2, 1) := by decide +kernel
theorem dX12_works_301 : decode cX12_works 301 = .ok (.lcmp, 1) := by decide +kernel
theorem dX12_works_302 : decode cX12_works 302 = .ok (.ifCond .gt 7, 3) := by decide +kernel
theorem dX12_works_305 : decode cX12_works 305 = .ok (.iconst 1, 1) := by decide +kernel
theorem dX12_works_306 : decode cX12_works 306 = .ok (.goto 4, 3) := by decide +kernel
theorem dX12_works_309 : decode cX12_works 309 = .ok (.iconst 0, 1) := by decide +kernel
theorem dX12_works_310 : decode cX12_works 310 = .ok (.invokestatic 528, 3) := by decide +kernel
theorem dX12_works_313 : decode cX12_works 313 = .ok (.lstore 6, 2) := by decide +kernel
theorem dX12_works_315 : decode cX12_works 315 = .ok (.goto 92, 3) := by decide +kernel
theorem dX12_works_318 : decode cX12_works 318 = .ok (.lload 4, 2) := by decide +kernel
theorem dX12_works_320 : decode cX12_works 320 = .ok (.lload_n 2, 1) := by decide +kernel
theorem dX12_works_321 : decode cX12_works 321 = .ok (.lcmp, 1) := by decide +kernel
theorem dX12_works_322 : decode cX12_works 322 = .ok (.ifCond .lt 7, 3) := by decide +kernel
theorem dX12_works_325 : decode cX12_works 325 = .ok (.iconst 1, 1) := by decide +kernel
theorem dX12_works_326 : decode cX12_works 326 = .ok (.goto 4, 3) := by decide +kernel
theorem dX12_works_329 : decode cX12_works 329 = .ok (.iconst 0, 1) := by decide +kernel
theorem dX12_works_330 : decode cX12_works 330 = .ok (.invokestatic 528, 3) := by decide +kernel
theorem dX12_works_333 : decode cX12_works 333 = .ok (.lstore 6, 2) := by decide +kernel
theorem dX12_works_335 : decode cX12_works 335 = .ok (.goto 72, 3) := by decide +kernel
theorem dX12_works_338 : decode cX12_works 338 = .ok (.lload 4, 2) := by decide +kernel
theorem dX12_works_340 : decode cX12_works 340 = .ok (.lload_n 2, 1) := by decide +kernel
theorem dX12_works_341 : decode cX12_works 341 = .ok (.lcmp, 1) := by decide +kernel
theorem dX12_works_342 : decode cX12_works 342 = .ok (.ifCond .eq 7, 3) := by decide +kernel
theorem dX12_works_345 : decode cX12_works 345 = .ok (.iconst 1, 1) := by decide +kernel
theorem dX12_works_346 : decode cX12_works 346 = .ok (.goto 4, 3) := by decide +kernel
theorem dX12_works_349 : decode cX12_works 349 = .ok (.iconst 0, 1) := by decide +kernel
theorem dX12_works_350 : decode cX12_works 350 = .ok (.invokestatic 528, 3) := by decide +kernel
theorem dX12_works_353 : decode cX12_works 353 = .ok (.lstore 6, 2) := by decide +kernel
theorem dX12_works_355 : decode cX12_works 355 = .ok (.goto 52, 3) := by decide +kernel
theorem dX12_works_358 : decode cX12_works 358 = .ok (.lload 4, 2) := by decide +kernel
theorem dX12_works_360 : decode cX12_works 360 = .ok (.lconst 0, 1) := by decide +kernel
theorem dX12_works_361 : decode cX12_works 361 = .ok (.lcmp, 1) := by decide +kernel
theorem dX12_works_362 : decode cX12_works 362 = .ok (.ifCond .eq 13, 3) := by decide +kernel
theorem dX12_works_365 : decode cX12_works 365 = .ok (.lload_n 2, 1) := by decide +kernel
theorem dX12_works_366 : decode cX12_works 366 = .ok (.lconst 0, 1) := by decide +kernel
theorem dX12_works_367 : decode cX12_works 367 = .ok (.lcmp, 1) := by decide +kernel
theorem dX12_works_368 : decode cX12_works 368 = .ok (.ifCond .eq 7, 3) := by decide +kernel
theorem dX12_works_371 : decode cX12_works 371 = .ok (.iconst 1, 1) := by decide +kernel
theorem dX12_works_372 : decode cX12_works 372 = .ok (.goto 4, 3) := by decide +kernel
theorem dX12_works_375 : decode cX12_works 375 = .ok (.iconst 0, 1) := by decide +kernel
theorem dX12_works_376 : decode cX12_works 376 = .ok (.invokestatic 528, 3) := by decide +kernel
theorem dX12_works_379 : decode cX12_works 379 = .ok (.lstore 6, 2) := by decide +kernel
theorem dX12_works_381 : decode cX12_works 381 = .ok (.goto 26, 3) := by decide +kernel
theorem dX12_works_384 : decode cX12_works 384 = .ok (.lload 4, 2) := by decide +kernel
theorem dX12_works_386 : decode cX12_works 386 = .ok (.lconst 0, 1) := by decide +kernel
theorem dX12_works_387 : decode cX12_works 387 = .ok (.lcmp, 1) := by decide +kernel
theorem dX12_works_388 : decode cX12_works 388 = .ok (.ifCond .ne 9, 3) := by decide +kernel
theorem dX12_works_391 : decode cX12_works 391 = .ok (.lload_n 2, 1) := by decide +kernel
theorem dX12_works_392 : decode cX12_works 392 = .ok (.lconst 0, 1) := by decide +kernel
theorem dX12_works_393 : decode cX12_works 393 = .ok (.lcmp, 1) := by decide +kernel
theorem dX12_works_394 : decode cX12_works 394 = .ok (.ifCond .eq 7, 3) := by decide +kernel
theorem dX12_works_397 : decode cX12_works 397 = .ok (.iconst 1, 1) := by decide +kernel
theorem dX12_works_398 : decode cX12_works 398 = .ok (.goto 4, 3) := by decide +kernel
theorem dX12_works_401 : decode cX12_works 401 = .ok (.iconst 0, 1) := by decide +kernel
theorem dX12_works_402 : decode cX12_works 402 = .ok (.invokestatic 528, 3) := by decide +kernel
theorem dX12_works_405 : decode cX12_works 405 = .ok (.lstore 6, 2) := by decide +kernel
theorem dX12_works_407 : decode cX12_works 407 = .ok (.aload_n 0, 1) := by decide +kernel
theorem dX12_works_408 : decode cX12_works 408 = .ok (.getfield 173, 3) := by decide +kernel
theorem dX12_works_411 : decode cX12_works 411 = .ok (.aload_n 0, 1) := by decide +kernel
theorem dX12_works_412 : decode cX12_works 412 = .ok (.getfield 525, 3) := by decide +kernel
theorem dX12_works_415 : decode cX12_works 415 = .ok (.iconst 1, 1) := by decide +kernel
theorem dX12_works_416 : decode cX12_works 416 = .ok (.isub, 1) := by decide +kernel
theorem dX12_works_417 : decode cX12_works 417 = .ok (.lload 6, 2) := by decide +kernel
theorem dX12_works_419 : decode cX12_works 419 = .ok (.lastore, 1) := by decide +kernel
theorem dX12_works_420 : decode cX12_works 420 = .ok (.lload 6, 2) := by decide +kernel
theorem dX12_works_422 : decode cX12_works 422 = .ok (.ldc2_w 535, 3) := by decide +kernel
theorem dX12_works_425 : decode cX12_works 425 = .ok (.lcmp, 1) := by decide +kernel
theorem dX12_works_426 : decode cX12_works 426 = .ok (.ifCond .gt 16, 3) := by decide +kernel
theorem dX12_works_429 : decode cX12_works 429 = .ok (.lload 6, 2) := by decide +kernel
theorem dX12_works_431 : decode cX12_works 431 = .ok (.ldc2_w 537, 3) := by decide +kernel
theorem dX12_works_434 : decode cX12_works 434 = .ok (.lcmp, 1) := by decide +kernel
theorem dX12_works_435 : decode cX12_works 435 = .ok (.ifCond .lt 7, 3) := by decide +kernel
theorem dX12_works_438 : decode cX12_works 438 = .ok (.iconst 1, 1) := by decide +kernel
theorem dX12_works_439 : decode cX12_works 439 = .ok (.goto 4, 3) := by decide +kernel
theorem dX12_works_442 : decode cX12_works 442 = .ok (.iconst 0, 1) := by decide +kernel
theorem dX12_works_443 : decode cX12_works 443 = .ok (.ireturn, 1) := by decide +kernel
theorem dX12_ruled_0 : decode cX12_ruled 0 = .ok (.aload_n 0, 1) := by decide +kernel
theorem dX12_ruled_1 : decode cX12_ruled 1 = .ok (.iconst 0, 1) := by decide +kernel
theorem dX12_ruled_2 : decode cX12_ruled 2 = .ok (.putfield 525, 3) := by decide +kernel
theorem dX12_ruled_5 : decode cX12_ruled 5 = .ok (.iload_n 1, 1) := by decide +kernel
theorem dX12_ruled_6 : decode cX12_ruled 6 = .ok (.istore 4, 2) := by decide +kernel
theorem dX12_ruled_8 : decode cX12_ruled 8 = .ok (.iload 4, 2) := by decide +kernel
theorem dX12_ruled_10 : decode cX12_ruled 10 = .ok (.iload_n 2, 1) := by decide +kernel
theorem dX12_ruled_11 : decode cX12_ruled 11 = .ok (.if_icmp .ge 88, 3) := by decide +kernel
theorem dX12_ruled_14 : decode cX12_ruled 14 = .ok (.aload_n 0, 1) := by decide +kernel
theorem dX12_ruled_15 : decode cX12_ruled 15 = .ok (.getfield 103, 3) := by decide +kernel
theorem dX12_ruled_18 : decode cX12_ruled 18 = .ok (.iload 4, 2) := by decide +kernel
theorem dX12_ruled_20 : decode cX12_ruled 20 = .ok (.iaload, 1) := by decide +kernel
theorem dX12_ruled_21 : decode cX12_ruled 21 = .ok (.iconst 2, 1) := by decide +kernel
theorem dX12_ruled_22 : decode cX12_ruled 22 = .ok (.if_icmp .ne 19, 3) := by decide +kernel
theorem dX12_ruled_25 : decode cX12_ruled 25 = .ok (.aload_n 0, 1) := by decide +kernel
theorem dX12_ruled_26 : decode cX12_ruled 26 = .ok (.aload_n 0, 1) := by decide +kernel
theorem dX12_ruled_27 : decode cX12_ruled 27 = .ok (.getfield 106, 3) := by decide +kernel
theorem dX12_ruled_30 : decode cX12_ruled 30 = .ok (.iload 4, 2) := by decide +kernel
theorem dX12_ruled_32 : decode cX12_ruled 32 = .ok (.iaload, 1) := by decide +kernel
theorem dX12_ruled_33 : decode cX12_ruled 33 = .ok (.invokevirtual 539, 3) := by decide +kernel
theorem dX12_ruled_36 : decode cX12_ruled 36 = .ok (.ifCond .ne 57, 3) := by decide +kernel
theorem dX12_ruled_39 : decode cX12_ruled 39 = .ok (.iconst 0, 1) := by decide +kernel
theorem dX12_ruled_40 : decode cX12_ruled 40 = .ok (.ireturn, 1) := by decide +kernel
theorem dX12_ruled_41 : decode cX12_ruled 41 = .ok (.aload_n 0, 1) := by decide +kernel
theorem dX12_ruled_42 : decode cX12_ruled 42 = .ok (.getfield 173, 3) := by decide +kernel
theorem dX12_ruled_45 : decode cX12_ruled 45 = .ok (.aload_n 0, 1) := by decide +kernel
theorem dX12_ruled_46 : decode cX12_ruled 46 = .ok (.getfield 525, 3) := by decide +kernel
theorem dX12_ruled_49 : decode cX12_ruled 49 = .ok (.aload_n 0, 1) := by decide +kernel
theorem dX12_ruled_50 : decode cX12_ruled 50 = .ok (.getfield 103, 3) := by decide +kernel
theorem dX12_ruled_53 : decode cX12_ruled 53 = .ok (.iload 4, 2) := by decide +kernel
theorem dX12_ruled_55 : decode cX12_ruled 55 = .ok (.iaload, 1) := by decide +kernel
theorem dX12_ruled_56 : decode cX12_ruled 56 = .ok (.ifCond .ne 14, 3) := by decide +kernel
theorem dX12_ruled_59 : decode cX12_ruled 59 = .ok (.aload_n 0, 1) := by decide +kernel
theorem dX12_ruled_60 : decode cX12_ruled 60 = .ok (.getfield 106, 3) := by decide +kernel
theorem dX12_ruled_63 : decode cX12_ruled 63 = .ok (.iload 4, 2) := by decide +kernel
theorem dX12_ruled_65 : decode cX12_ruled 65 = .ok (.iaload, 1) := by decide +kernel
theorem dX12_ruled_66 : decode cX12_ruled 66 = .ok (.i2l, 1) := by decide +kernel
theorem dX12_ruled_67 : decode cX12_ruled 67 = .ok (.goto 15, 3) := by decide +kernel
theorem dX12_ruled_70 : decode cX12_ruled 70 = .ok (.aload_n 0, 1) := by decide +kernel
theorem dX12_ruled_71 : decode cX12_ruled 71 = .ok (.aload_n 0, 1) := by decide +kernel
theorem dX12_ruled_72 : decode cX12_ruled 72 = .ok (.getfield 106, 3) := by decide +kernel
theorem dX12_ruled_75 : decode cX12_ruled 75 = .ok (.iload 4, 2) := by decide +kernel
theorem dX12_ruled_77 : decode cX12_ruled 77 = .ok (.iaload, 1) := by decide +kernel
theorem dX12_ruled_78 : decode cX12_ruled 78 = .ok (.iload_n 3, 1) := by decide +kernel
theorem dX12_ruled_79 : decode cX12_ruled 79 = .ok (.invokevirtual 542, 3) := by decide +kernel
theorem dX12_ruled_82 : decode cX12_ruled 82 = .ok (.lastore, 1) := by decide +kernel
theorem dX12_ruled_83 : decode cX12_ruled 83 = .ok (.aload_n 0, 1) := by decide +kernel
theorem dX12_ruled_84 : decode cX12_ruled 84 = .ok (.dup, 1) := by decide +kernel
theorem dX12_ruled_85 : decode cX12_ruled 85 = .ok (.getfield 525, 3) := by decide +kernel
theorem dX12_ruled_88 : decode cX12_ruled 88 = .ok (.iconst 1, 1) := by decide +kernel
theorem dX12_ruled_89 : decode cX12_ruled 89 = .ok (.iadd, 1) := by decide +kernel
theorem dX12_ruled_90 : decode cX12_ruled 90 = .ok (.putfield 525, 3) := by decide +kernel
theorem dX12_ruled_93 : decode cX12_ruled 93 = .ok (.iinc 4 1, 3) := by decide +kernel
theorem dX12_ruled_96 : decode cX12_ruled 96 = .ok (.goto (-88), 3) := by decide +kernel
theorem dX12_ruled_99 : decode cX12_ruled 99 = .ok (.aload_n 0, 1) := by decide +kernel
theorem dX12_ruled_100 : decode cX12_ruled 100 = .ok (.getfield 173, 3) := by decide +kernel
theorem dX12_ruled_103 : decode cX12_ruled 103 = .ok (.iconst 0, 1) := by decide +kernel
theorem dX12_ruled_104 : decode cX12_ruled 104 = .ok (.laload, 1) := by decide +kernel
theorem dX12_ruled_105 : decode cX12_ruled 105 = .ok (.lconst 0, 1) := by decide +kernel
theorem dX12_ruled_106 : decode cX12_ruled 106 = .ok (.lcmp, 1) := by decide +kernel
theorem dX12_ruled_107 : decode cX12_ruled 107 = .ok (.ifCond .eq 7, 3) := by decide +kernel
theorem dX12_ruled_110 : decode cX12_ruled 110 = .ok (.iconst 1, 1) := by decide +kernel
theorem dX12_ruled_111 : decode cX12_ruled 111 = .ok (.goto 4, 3) := by decide +kernel
theorem dX12_ruled_114 : decode cX12_ruled 114 = .ok (.iconst 0, 1) := by decide +kernel
theorem dX12_ruled_115 : decode cX12_ruled 115 = .ok (.ireturn, 1) := by decide +kernel
theorem dX12_isOpen_0 : decode cX12_isOpen 0 = .ok (.aload_n 0, 1) := by decide +kernel
theorem dX12_isOpen_1 : decode cX12_isOpen 1 = .ok (.getfield 97, 3) := by decide +kernel
theorem dX12_isOpen_4 : decode cX12_isOpen 4 = .ok (.iload_n 1, 1) := by decide +kernel
theorem dX12_isOpen_5 : decode cX12_isOpen 5 = .ok (.iaload, 1) := by decide +kernel
theorem dX12_isOpen_6 : decode cX12_isOpen 6 = .ok (.aload_n 0, 1) := by decide +kernel
theorem dX12_isOpen_7 : decode cX12_isOpen 7 = .ok (.getfield 492, 3) := by decide +kernel
theorem dX12_isOpen_10 : decode cX12_isOpen 10 = .ok (.bipush 7, 2) := by decide +kernel
theorem dX12_isOpen_12 : decode cX12_isOpen 12 = .ok (.irem, 1) := by decide +kernel
theorem dX12_isOpen_13 : decode cX12_isOpen 13 = .ok (.ishr, 1) := by decide +kernel
theorem dX12_isOpen_14 : decode cX12_isOpen 14 = .ok (.iconst 1, 1) := by decide +kernel
theorem dX12_isOpen_15 : decode cX12_isOpen 15 = .ok (.iand, 1) := by decide +kernel
theorem dX12_isOpen_16 : decode cX12_isOpen 16 = .ok (.iconst 1, 1) := by decide +kernel
theorem dX12_isOpen_17 : decode cX12_isOpen 17 = .ok (.if_icmp .ne 7, 3) := by decide +kernel
theorem dX12_isOpen_20 : decode cX12_isOpen 20 = .ok (.iconst 1, 1) := by decide +kernel
theorem dX12_isOpen_21 : decode cX12_isOpen 21 = .ok (.goto 4, 3) := by decide +kernel
theorem dX12_isOpen_24 : decode cX12_isOpen 24 = .ok (.iconst 0, 1) := by decide +kernel
theorem dX12_isOpen_25 : decode cX12_isOpen 25 = .ok (.ireturn, 1) := by decide +kernel
theorem dX12_lists_0 : decode cX12_lists 0 = .ok (.aload_n 0, 1) := by decide +kernel
theorem dX12_lists_1 : decode cX12_lists 1 = .ok (.iconst 0, 1) := by decide +kernel
theorem dX12_lists_2 : decode cX12_lists 2 = .ok (.putfield 546, 3) := by decide +kernel
theorem dX12_lists_5 : decode cX12_lists 5 = .ok (.iconst 0, 1) := by decide +kernel
theorem dX12_lists_6 : decode cX12_lists 6 = .ok (.istore_n 2, 1) := by decide +kernel
theorem dX12_lists_7 : decode cX12_lists 7 = .ok (.iload_n 2, 1) := by decide +kernel
theorem dX12_lists_8 : decode cX12_lists 8 = .ok (.aload_n 0, 1) := by decide +kernel
theorem dX12_lists_9 : decode cX12_lists 9 = .ok (.getfield 403, 3) := by decide +kernel
theorem dX12_lists_12 : decode cX12_lists 12 = .ok (.if_icmp .ge 196, 3) := by decide +kernel
theorem dX12_lists_15 : decode cX12_lists 15 = .ok (.aload_n 0, 1) := by decide +kernel
theorem dX12_lists_16 : decode cX12_lists 16 = .ok (.getfield 146, 3) := by decide +kernel
theorem dX12_lists_19 : decode cX12_lists 19 = .ok (.iload_n 2, 1) := by decide +kernel
theorem dX12_lists_20 : decode cX12_lists 20 = .ok (.iaload, 1) := by decide +kernel
theorem dX12_lists_21 : decode cX12_lists 21 = .ok (.iload_n 1, 1) := by decide +kernel
theorem dX12_lists_22 : decode cX12_lists 22 = .ok (.if_icmp .ne 180, 3) := by decide +kernel
theorem dX12_lists_25 : decode cX12_lists 25 = .ok (.aload_n 0, 1) := by decide +kernel
theorem dX12_lists_26 : decode cX12_lists 26 = .ok (.getfield 125, 3) := by decide +kernel
theorem dX12_lists_29 : decode cX12_lists 29 = .ok (.iload_n 2, 1) := by decide +kernel
theorem dX12_lists_30 : decode cX12_lists 30 = .ok (.iaload, 1) := by decide +kernel
theorem dX12_lists_31 : decode cX12_lists 31 = .ok (.aload_n 0, 1) := by decide +kernel
theorem dX12_lists_32 : decode cX12_lists 32 = .ok (.getfield 492, 3) := by decide +kernel
theorem dX12_lists_35 : decode cX12_lists 35 = .ok (.if_icmp .le 6, 3) := by decide +kernel
theorem dX12_lists_38 : decode cX12_lists 38 = .ok (.goto 164, 3) := by decide +kernel
theorem dX12_lists_41 : decode cX12_lists 41 = .ok (.aload_n 0, 1) := by decide +kernel
theorem dX12_lists_42 : decode cX12_lists 42 = .ok (.getfield 84, 3) := by decide +kernel
theorem dX12_lists_45 : decode cX12_lists 45 = .ok (.iload_n 2, 1) := by decide +kernel
theorem dX12_lists_46 : decode cX12_lists 46 = .ok (.iaload, 1) := by decide +kernel
theorem dX12_lists_47 : decode cX12_lists 47 = .ok (.aload_n 0, 1) := by decide +kernel
theorem dX12_lists_48 : decode cX12_lists 48 = .ok (.getfield 492, 3) := by decide +kernel
theorem dX12_lists_51 : decode cX12_lists 51 = .ok (.bipush 7, 2) := by decide +kernel
theorem dX12_lists_53 : decode cX12_lists 53 = .ok (.irem, 1) := by decide +kernel
theorem dX12_lists_54 : decode cX12_lists 54 = .ok (.ishr, 1) := by decide +kernel
theorem dX12_lists_55 : decode cX12_lists 55 = .ok (.iconst 1, 1) := by decide +kernel
theorem dX12_lists_56 : decode cX12_lists 56 = .ok (.iand, 1) := by decide +kernel
theorem dX12_lists_57 : decode cX12_lists 57 = .ok (.iconst 1, 1) := by decide +kernel
theorem dX12_lists_58 : decode cX12_lists 58 = .ok (.if_icmp .eq 47, 3) := by decide +kernel
theorem dX12_lists_61 : decode cX12_lists 61 = .ok (.aload_n 0, 1) := by decide +kernel
theorem dX12_lists_62 : decode cX12_lists 62 = .ok (.getfield 90, 3) := by decide +kernel
theorem dX12_lists_65 : decode cX12_lists 65 = .ok (.iload_n 2, 1) := by decide +kernel
theorem dX12_lists_66 : decode cX12_lists 66 = .ok (.baload, 1) := by decide +kernel
theorem dX12_lists_67 : decode cX12_lists 67 = .ok (.ifCond .eq 11, 3) := by decide +kernel
theorem dX12_lists_70 : decode cX12_lists 70 = .ok (.aload_n 0, 1) := by decide +kernel
theorem dX12_lists_71 : decode cX12_lists 71 = .ok (.iload_n 2, 1) := by decide +kernel
theorem dX12_lists_72 : decode cX12_lists 72 = .ok (.invokevirtual 549, 3) := by decide +kernel
theorem dX12_lists_75 : decode cX12_lists 75 = .ok (.ifCond .eq 30, 3) := by decide +kernel
theorem dX12_lists_78 : decode cX12_lists 78 = .ok (.aload_n 0, 1) := by decide +kernel
theorem dX12_lists_79 : decode cX12_lists 79 = .ok (.getfield 415, 3) := by decide +kernel
theorem dX12_lists_82 : decode cX12_lists 82 = .ok (.aload_n 0, 1) := by decide +kernel
theorem dX12_lists_83 : decode cX12_lists 83 = .ok (.getfield 412, 3) := by decide +kernel
theorem dX12_lists_86 : decode cX12_lists 86 = .ok (.if_icmp .le 23, 3) := by decide +kernel
theorem dX12_lists_89 : decode cX12_lists 89 = .ok (.aload_n 0, 1) := by decide +kernel
theorem dX12_lists_90 : decode cX12_lists 90 = .ok (.aload_n 0, 1) := by decide +kernel
theorem dX12_lists_91 : decode cX12_lists 91 = .ok (.getfield 412, 3) := by decide +kernel
theorem dX12_lists_94 : decode cX12_lists 94 = .ok (.aload_n 0, 1) := by decide +kernel
theorem dX12_lists_95 : decode cX12_lists 95 = .ok (.getfield 415, 3) := by decide +kernel
theorem dX12_lists_98 : decode cX12_lists 98 = .ok (.iload_n 2, 1) := by decide +kernel
theorem dX12_lists_99 : decode cX12_lists 99 = .ok (.invokevirtual 552, 3) := by decide +kernel
theorem dX12_lists_102 : decode cX12_lists 102 = .ok (.ifCond .ne 7, 3) := by decide +kernel
theorem dX12_lists_105 : decode cX12_lists 105 = .ok (.iconst 1, 1) := by decide +kernel
theorem dX12_lists_106 : decode cX12_lists 106 = .ok (.goto 4, 3) := by decide +kernel
theorem dX12_lists_109 : decode cX12_lists 109 = .ok (.iconst 0, 1) := by decide +kernel
theorem dX12_lists_110 : decode cX12_lists 110 = .ok (.istore_n 3, 1) := by decide +kernel
theorem dX12_lists_111 : decode cX12_lists 111 = .ok (.iload_n 3, 1) := by decide +kernel
theorem dX12_lists_112 : decode cX12_lists 112 = .ok (.ifCond .eq 16, 3) := by decide +kernel
theorem dX12_lists_115 : decode cX12_lists 115 = .ok (.aload_n 0, 1) := by decide +kernel
theorem dX12_lists_116 : decode cX12_lists 116 = .ok (.getfield 131, 3) := by decide +kernel
theorem dX12_lists_119 : decode cX12_lists 119 = .ok (.iload_n 2, 1) := by decide +kernel
theorem dX12_lists_120 : decode cX12_lists 120 = .ok (.dup2, 1) := by decide +kernel
theorem dX12_lists_121 : decode cX12_lists 121 = .ok (.iaload, 1) := by decide +kernel
theorem dX12_lists_122 : decode cX12_lists 122 = .ok (.iconst 1, 1) := by decide +kernel
theorem dX12_lists_123 : decode cX12_lists 123 = .ok (.iadd, 1) := by decide +kernel
theorem dX12_lists_124 : decode cX12_lists 124 = .ok (.iastore, 1) := by decide +kernel
theorem dX12_lists_125 : decode cX12_lists 125 = .ok (.goto 77, 3) := by decide +kernel
theorem dX12_lists_128 : decode cX12_lists 128 = .ok (.aload_n 0, 1) := by decide +kernel
theorem dX12_lists_129 : decode cX12_lists 129 = .ok (.getfield 546, 3) := by decide +kernel
theorem dX12_lists_132 : decode cX12_lists 132 = .ok (.istore 4, 2) := by decide +kernel
theorem dX12_lists_134 : decode cX12_lists 134 = .ok (.iload 4, 2) := by decide +kernel
theorem dX12_lists_136 : decode cX12_lists 136 = .ok (.ifCond .le 48, 3) := by decide +kernel
theorem dX12_lists_139 : decode cX12_lists 139 = .ok (.aload_n 0, 1) := by decide +kernel
theorem dX12_lists_140 : decode cX12_lists 140 = .ok (.getfield 125, 3) := by decide +kernel
theorem dX12_lists_143 : decode cX12_lists 143 = .ok (.aload_n 0, 1) := by decide +kernel
theorem dX12_lists_144 : decode cX12_lists 144 = .ok (.getfield 177, 3) := by decide +kernel
theorem dX12_lists_147 : decode cX12_lists 147 = .ok (.iload 4, 2) := by decide +kernel
theorem dX12_lists_149 : decode cX12_lists 149 = .ok (.iconst 1, 1) := by decide +kernel
theorem dX12_lists_150 : decode cX12_lists 150 = .ok (.isub, 1) := by decide +kernel
theorem dX12_lists_151 : decode cX12_lists 151 = .ok (.iaload, 1) := by decide +kernel
theorem dX12_lists_152 : decode cX12_lists 152 = .ok (.iaload, 1) := by decide +kernel
theorem dX12_lists_153 : decode cX12_lists 153 = .ok (.aload_n 0, 1) := by decide +kernel
theorem dX12_lists_154 : decode cX12_lists 154 = .ok (.getfield 125, 3) := by decide +kernel
theorem dX12_lists_157 : decode cX12_lists 157 = .ok (.iload_n 2, 1) := by decide +kernel
theorem dX12_lists_158 : decode cX12_lists 158 = .ok (.iaload, 1) := by decide +kernel
theorem dX12_lists_159 : decode cX12_lists 159 = .ok (.if_icmp .le 25, 3) := by decide +kernel
theorem dX12_lists_162 : decode cX12_lists 162 = .ok (.aload_n 0, 1) := by decide +kernel
theorem dX12_lists_163 : decode cX12_lists 163 = .ok (.getfield 177, 3) := by decide +kernel
theorem dX12_lists_166 : decode cX12_lists 166 = .ok (.iload 4, 2) := by decide +kernel
theorem dX12_lists_168 : decode cX12_lists 168 = .ok (.aload_n 0, 1) := by decide +kernel
theorem dX12_lists_169 : decode cX12_lists 169 = .ok (.getfield 177, 3) := by decide +kernel
theorem dX12_lists_172 : decode cX12_lists 172 = .ok (.iload 4, 2) := by decide +kernel
theorem dX12_lists_174 : decode cX12_lists 174 = .ok (.iconst 1, 1) := by decide +kernel
theorem dX12_lists_175 : decode cX12_lists 175 = .ok (.isub, 1) := by decide +kernel
theorem dX12_lists_176 : decode cX12_lists 176 = .ok (.iaload, 1) := by decide +kernel
theorem dX12_lists_177 : decode cX12_lists 177 = .ok (.iastore, 1) := by decide +kernel
theorem dX12_lists_178 : decode cX12_lists 178 = .ok (.iinc 4 (-1), 3) := by decide +kernel
theorem dX12_lists_181 : decode cX12_lists 181 = .ok (.goto (-47), 3) := by decide +kernel
theorem dX12_lists_184 : decode cX12_lists 184 = .ok (.aload_n 0, 1) := by decide +kernel
theorem dX12_lists_185 : decode cX12_lists 185 = .ok (.getfield 177, 3) := by decide +kernel
theorem dX12_lists_188 : decode cX12_lists 188 = .ok (.iload 4, 2) := by decide +kernel
theorem dX12_lists_190 : decode cX12_lists 190 = .ok (.iload_n 2, 1) := by decide +kernel
theorem dX12_lists_191 : decode cX12_lists 191 = .ok (.iastore, 1) := by decide +kernel
theorem dX12_lists_192 : decode cX12_lists 192 = .ok (.aload_n 0, 1) := by decide +kernel
theorem dX12_lists_193 : decode cX12_lists 193 = .ok (.dup, 1) := by decide +kernel
theorem dX12_lists_194 : decode cX12_lists 194 = .ok (.getfield 546, 3) := by decide +kernel
theorem dX12_lists_197 : decode cX12_lists 197 = .ok (.iconst 1, 1) := by decide +kernel
theorem dX12_lists_198 : decode cX12_lists 198 = .ok (.iadd, 1) := by decide +kernel
theorem dX12_lists_199 : decode cX12_lists 199 = .ok (.putfield 546, 3) := by decide +kernel
theorem dX12_lists_202 : decode cX12_lists 202 = .ok (.iinc 2 1, 3) := by decide +kernel
theorem dX12_lists_205 : decode cX12_lists 205 = .ok (.goto (-198), 3) := by decide +kernel
theorem dX12_lists_208 : decode cX12_lists 208 = .ok (.return_, 1) := by decide +kernel
theorem dX12_goesRound_0 : decode cX12_goesRound 0 = .ok (.aload_n 0, 1) := by decide +kernel
theorem dX12_goesRound_1 : decode cX12_goesRound 1 = .ok (.getfield 63, 3) := by decide +kernel
theorem dX12_goesRound_4 : decode cX12_goesRound 4 = .ok (.iload_n 1, 1) := by decide +kernel
theorem dX12_goesRound_5 : decode cX12_goesRound 5 = .ok (.iaload, 1) := by decide +kernel
theorem dX12_goesRound_6 : decode cX12_goesRound 6 = .ok (.istore_n 2, 1) := by decide +kernel
theorem dX12_goesRound_7 : decode cX12_goesRound 7 = .ok (.iconst (-1), 1) := by decide +kernel
theorem dX12_goesRound_8 : decode cX12_goesRound 8 = .ok (.istore_n 3, 1) := by decide +kernel
theorem dX12_goesRound_9 : decode cX12_goesRound 9 = .ok (.iconst 0, 1) := by decide +kernel
theorem dX12_goesRound_10 : decode cX12_goesRound 10 = .ok (.istore 4, 2) := by decide +kernel
theorem dX12_goesRound_12 : decode cX12_goesRound 12 = .ok (.iload 4, 2) := by decide +kernel
theorem dX12_goesRound_14 : decode cX12_goesRound 14 = .ok (.aload_n 0, 1) := by decide +kernel
theorem dX12_goesRound_15 : decode cX12_goesRound 15 = .ok (.getfield 546, 3) := by decide +kernel
theorem dX12_goesRound_18 : decode cX12_goesRound 18 = .ok (.if_icmp .ge 100, 3) := by decide +kernel
theorem dX12_goesRound_21 : decode cX12_goesRound 21 = .ok (.aload_n 0, 1) := by decide +kernel
theorem dX12_goesRound_22 : decode cX12_goesRound 22 = .ok (.getfield 177, 3) := by decide +kernel
theorem dX12_goesRound_25 : decode cX12_goesRound 25 = .ok (.iload 4, 2) := by decide +kernel
theorem dX12_goesRound_27 : decode cX12_goesRound 27 = .ok (.iaload, 1) := by decide +kernel
theorem dX12_goesRound_28 : decode cX12_goesRound 28 = .ok (.istore 5, 2) := by decide +kernel
theorem dX12_goesRound_30 : decode cX12_goesRound 30 = .ok (.iload_n 3, 1) := by decide +kernel
theorem dX12_goesRound_31 : decode cX12_goesRound 31 = .ok (.iconst (-1), 1) := by decide +kernel
theorem dX12_goesRound_32 : decode cX12_goesRound 32 = .ok (.if_icmp .ne 13, 3) := by decide +kernel
theorem dX12_goesRound_35 : decode cX12_goesRound 35 = .ok (.aload_n 0, 1) := by decide +kernel
theorem dX12_goesRound_36 : decode cX12_goesRound 36 = .ok (.iload_n 1, 1) := by decide +kernel
theorem dX12_goesRound_37 : decode cX12_goesRound 37 = .ok (.iload 5, 2) := by decide +kernel
theorem dX12_goesRound_39 : decode cX12_goesRound 39 = .ok (.invokevirtual 555, 3) := by decide +kernel
theorem dX12_goesRound_42 : decode cX12_goesRound 42 = .ok (.goto 10, 3) := by decide +kernel
theorem dX12_goesRound_45 : decode cX12_goesRound 45 = .ok (.aload_n 0, 1) := by decide +kernel
theorem dX12_goesRound_46 : decode cX12_goesRound 46 = .ok (.iload_n 3, 1) := by decide +kernel
theorem dX12_goesRound_47 : decode cX12_goesRound 47 = .ok (.iload 5, 2) := by decide +kernel
theorem dX12_goesRound_49 : decode cX12_goesRound 49 = .ok (.invokevirtual 558, 3) := by decide +kernel
theorem dX12_goesRound_52 : decode cX12_goesRound 52 = .ok (.istore 6, 2) := by decide +kernel
theorem dX12_goesRound_54 : decode cX12_goesRound 54 = .ok (.iload 6, 2) := by decide +kernel
theorem dX12_goesRound_56 : decode cX12_goesRound 56 = .ok (.aload_n 0, 1) := by decide +kernel
theorem dX12_goesRound_57 : decode cX12_goesRound 57 = .ok (.getfield 170, 3) := by decide +kernel
theorem dX12_goesRound_60 : decode cX12_goesRound 60 = .ok (.aload_n 0, 1) := by decide +kernel
theorem dX12_goesRound_61 : decode cX12_goesRound 61 = .ok (.getfield 69, 3) := by decide +kernel
theorem dX12_goesRound_64 : decode cX12_goesRound 64 = .ok (.iload 5, 2) := by decide +kernel
theorem dX12_goesRound_66 : decode cX12_goesRound 66 = .ok (.iaload, 1) := by decide +kernel
theorem dX12_goesRound_67 : decode cX12_goesRound 67 = .ok (.iaload, 1) := by decide +kernel
theorem dX12_goesRound_68 : decode cX12_goesRound 68 = .ok (.iadd, 1) := by decide +kernel
theorem dX12_goesRound_69 : decode cX12_goesRound 69 = .ok (.aload_n 0, 1) := by decide +kernel
theorem dX12_goesRound_70 : decode cX12_goesRound 70 = .ok (.iload_n 1, 1) := by decide +kernel
theorem dX12_goesRound_71 : decode cX12_goesRound 71 = .ok (.iload 5, 2) := by decide +kernel
theorem dX12_goesRound_73 : decode cX12_goesRound 73 = .ok (.invokevirtual 555, 3) := by decide +kernel
theorem dX12_goesRound_76 : decode cX12_goesRound 76 = .ok (.iadd, 1) := by decide +kernel
theorem dX12_goesRound_77 : decode cX12_goesRound 77 = .ok (.iload_n 2, 1) := by decide +kernel
theorem dX12_goesRound_78 : decode cX12_goesRound 78 = .ok (.if_icmp .le 6, 3) := by decide +kernel
theorem dX12_goesRound_81 : decode cX12_goesRound 81 = .ok (.goto 31, 3) := by decide +kernel
theorem dX12_goesRound_84 : decode cX12_goesRound 84 = .ok (.iload_n 2, 1) := by decide +kernel
theorem dX12_goesRound_85 : decode cX12_goesRound 85 = .ok (.iload 6, 2) := by decide +kernel
theorem dX12_goesRound_87 : decode cX12_goesRound 87 = .ok (.aload_n 0, 1) := by decide +kernel
theorem dX12_goesRound_88 : decode cX12_goesRound 88 = .ok (.getfield 170, 3) := by decide +kernel
theorem dX12_goesRound_91 : decode cX12_goesRound 91 = .ok (.aload_n 0, 1) := by decide +kernel
theorem dX12_goesRound_92 : decode cX12_goesRound 92 = .ok (.getfield 69, 3) := by decide +kernel
theorem dX12_goesRound_95 : decode cX12_goesRound 95 = .ok (.iload 5, 2) := by decide +kernel
theorem dX12_goesRound_97 : decode cX12_goesRound 97 = .ok (.iaload, 1) := by decide +kernel
theorem dX12_goesRound_98 : decode cX12_goesRound 98 = .ok (.iaload, 1) := by decide +kernel
theorem dX12_goesRound_99 : decode cX12_goesRound 99 = .ok (.iadd, 1) := by decide +kernel
theorem dX12_goesRound_100 : decode cX12_goesRound 100 = .ok (.isub, 1) := by decide +kernel
theorem dX12_goesRound_101 : decode cX12_goesRound 101 = .ok (.istore_n 2, 1) := by decide +kernel
theorem dX12_goesRound_102 : decode cX12_goesRound 102 = .ok (.iload 5, 2) := by decide +kernel
theorem dX12_goesRound_104 : decode cX12_goesRound 104 = .ok (.istore_n 3, 1) := by decide +kernel
theorem dX12_goesRound_105 : decode cX12_goesRound 105 = .ok (.aload_n 0, 1) := by decide +kernel
theorem dX12_goesRound_106 : decode cX12_goesRound 106 = .ok (.iload_n 1, 1) := by decide +kernel
theorem dX12_goesRound_107 : decode cX12_goesRound 107 = .ok (.iload 5, 2) := by decide +kernel
theorem dX12_goesRound_109 : decode cX12_goesRound 109 = .ok (.invokevirtual 561, 3) := by decide +kernel
theorem dX12_goesRound_112 : decode cX12_goesRound 112 = .ok (.iinc 4 1, 3) := by decide +kernel
theorem dX12_goesRound_115 : decode cX12_goesRound 115 = .ok (.goto (-103), 3) := by decide +kernel
theorem dX12_goesRound_118 : decode cX12_goesRound 118 = .ok (.return_, 1) := by decide +kernel
theorem dX12_wipes_0 : decode cX12_wipes 0 = .ok (.aload_n 0, 1) := by decide +kernel
theorem dX12_wipes_1 : decode cX12_wipes 1 = .ok (.getfield 149, 3) := by decide +kernel
theorem dX12_wipes_4 : decode cX12_wipes 4 = .ok (.bipush 30, 2) := by decide +kernel
theorem dX12_wipes_6 : decode cX12_wipes 6 = .ok (.iload_n 2, 1) := by decide +kernel
theorem dX12_wipes_7 : decode cX12_wipes 7 = .ok (.imul, 1) := by decide +kernel
theorem dX12_wipes_8 : decode cX12_wipes 8 = .ok (.aload_n 0, 1) := by decide +kernel
theorem dX12_wipes_9 : decode cX12_wipes 9 = .ok (.getfield 128, 3) := by decide +kernel
theorem dX12_wipes_12 : decode cX12_wipes 12 = .ok (.iload_n 2, 1) := by decide +kernel
theorem dX12_wipes_13 : decode cX12_wipes 13 = .ok (.iaload, 1) := by decide +kernel
theorem dX12_wipes_14 : decode cX12_wipes 14 = .ok (.iadd, 1) := by decide +kernel
theorem dX12_wipes_15 : decode cX12_wipes 15 = .ok (.aload_n 0, 1) := by decide +kernel
theorem dX12_wipes_16 : decode cX12_wipes 16 = .ok (.getfield 492, 3) := by decide +kernel
theorem dX12_wipes_19 : decode cX12_wipes 19 = .ok (.iastore, 1) := by decide +kernel
theorem dX12_wipes_20 : decode cX12_wipes 20 = .ok (.aload_n 0, 1) := by decide +kernel
theorem dX12_wipes_21 : decode cX12_wipes 21 = .ok (.getfield 128, 3) := by decide +kernel
theorem dX12_wipes_24 : decode cX12_wipes 24 = .ok (.iload_n 2, 1) := by decide +kernel
theorem dX12_wipes_25 : decode cX12_wipes 25 = .ok (.dup2, 1) := by decide +kernel
theorem dX12_wipes_26 : decode cX12_wipes 26 = .ok (.iaload, 1) := by decide +kernel
theorem dX12_wipes_27 : decode cX12_wipes 27 = .ok (.iconst 1, 1) := by decide +kernel
theorem dX12_wipes_28 : decode cX12_wipes 28 = .ok (.iadd, 1) := by decide +kernel
theorem dX12_wipes_29 : decode cX12_wipes 29 = .ok (.iastore, 1) := by decide +kernel
theorem dX12_wipes_30 : decode cX12_wipes 30 = .ok (.aload_n 0, 1) := by decide +kernel
theorem dX12_wipes_31 : decode cX12_wipes 31 = .ok (.getfield 125, 3) := by decide +kernel
theorem dX12_wipes_34 : decode cX12_wipes 34 = .ok (.iload_n 2, 1) := by decide +kernel
theorem dX12_wipes_35 : decode cX12_wipes 35 = .ok (.aload_n 0, 1) := by decide +kernel
theorem dX12_wipes_36 : decode cX12_wipes 36 = .ok (.getfield 492, 3) := by decide +kernel
theorem dX12_wipes_39 : decode cX12_wipes 39 = .ok (.bipush 7, 2) := by decide +kernel
theorem dX12_wipes_41 : decode cX12_wipes 41 = .ok (.aload_n 0, 1) := by decide +kernel
theorem dX12_wipes_42 : decode cX12_wipes 42 = .ok (.getfield 81, 3) := by decide +kernel
theorem dX12_wipes_45 : decode cX12_wipes 45 = .ok (.iload_n 2, 1) := by decide +kernel
theorem dX12_wipes_46 : decode cX12_wipes 46 = .ok (.iaload, 1) := by decide +kernel
theorem dX12_wipes_47 : decode cX12_wipes 47 = .ok (.imul, 1) := by decide +kernel
theorem dX12_wipes_48 : decode cX12_wipes 48 = .ok (.iadd, 1) := by decide +kernel
theorem dX12_wipes_49 : decode cX12_wipes 49 = .ok (.iastore, 1) := by decide +kernel
theorem dX12_wipes_50 : decode cX12_wipes 50 = .ok (.aload_n 0, 1) := by decide +kernel
theorem dX12_wipes_51 : decode cX12_wipes 51 = .ok (.getfield 137, 3) := by decide +kernel
theorem dX12_wipes_54 : decode cX12_wipes 54 = .ok (.iload_n 2, 1) := by decide +kernel
theorem dX12_wipes_55 : decode cX12_wipes 55 = .ok (.iconst 0, 1) := by decide +kernel
theorem dX12_wipes_56 : decode cX12_wipes 56 = .ok (.iastore, 1) := by decide +kernel
theorem dX12_wipes_57 : decode cX12_wipes 57 = .ok (.aload_n 0, 1) := by decide +kernel
theorem dX12_wipes_58 : decode cX12_wipes 58 = .ok (.getfield 140, 3) := by decide +kernel
theorem dX12_wipes_61 : decode cX12_wipes 61 = .ok (.iload_n 2, 1) := by decide +kernel
theorem dX12_wipes_62 : decode cX12_wipes 62 = .ok (.aload_n 0, 1) := by decide +kernel
theorem dX12_wipes_63 : decode cX12_wipes 63 = .ok (.getfield 492, 3) := by decide +kernel
theorem dX12_wipes_66 : decode cX12_wipes 66 = .ok (.iastore, 1) := by decide +kernel
theorem dX12_wipes_67 : decode cX12_wipes 67 = .ok (.bipush 10, 2) := by decide +kernel
theorem dX12_wipes_69 : decode cX12_wipes 69 = .ok (.aload_n 0, 1) := by decide +kernel
theorem dX12_wipes_70 : decode cX12_wipes 70 = .ok (.getfield 492, 3) := by decide +kernel
theorem dX12_wipes_73 : decode cX12_wipes 73 = .ok (.imul, 1) := by decide +kernel
theorem dX12_wipes_74 : decode cX12_wipes 74 = .ok (.aload_n 0, 1) := by decide +kernel
theorem dX12_wipes_75 : decode cX12_wipes 75 = .ok (.getfield 152, 3) := by decide +kernel
theorem dX12_wipes_78 : decode cX12_wipes 78 = .ok (.aload_n 0, 1) := by decide +kernel
theorem dX12_wipes_79 : decode cX12_wipes 79 = .ok (.getfield 492, 3) := by decide +kernel
theorem dX12_wipes_82 : decode cX12_wipes 82 = .ok (.iaload, 1) := by decide +kernel
theorem dX12_wipes_83 : decode cX12_wipes 83 = .ok (.iadd, 1) := by decide +kernel
theorem dX12_wipes_84 : decode cX12_wipes 84 = .ok (.istore_n 3, 1) := by decide +kernel
theorem dX12_wipes_85 : decode cX12_wipes 85 = .ok (.aload_n 0, 1) := by decide +kernel
theorem dX12_wipes_86 : decode cX12_wipes 86 = .ok (.getfield 155, 3) := by decide +kernel
theorem dX12_wipes_89 : decode cX12_wipes 89 = .ok (.iload_n 3, 1) := by decide +kernel
theorem dX12_wipes_90 : decode cX12_wipes 90 = .ok (.iload_n 2, 1) := by decide +kernel
theorem dX12_wipes_91 : decode cX12_wipes 91 = .ok (.iastore, 1) := by decide +kernel
theorem dX12_wipes_92 : decode cX12_wipes 92 = .ok (.aload_n 0, 1) := by decide +kernel
theorem dX12_wipes_93 : decode cX12_wipes 93 = .ok (.getfield 158, 3) := by decide +kernel
theorem dX12_wipes_96 : decode cX12_wipes 96 = .ok (.iload_n 3, 1) := by decide +kernel
theorem dX12_wipes_97 : decode cX12_wipes 97 = .ok (.iload_n 1, 1) := by decide +kernel
theorem dX12_wipes_98 : decode cX12_wipes 98 = .ok (.iastore, 1) := by decide +kernel
theorem dX12_wipes_99 : decode cX12_wipes 99 = .ok (.aload_n 0, 1) := by decide +kernel
theorem dX12_wipes_100 : decode cX12_wipes 100 = .ok (.getfield 152, 3) := by decide +kernel
theorem dX12_wipes_103 : decode cX12_wipes 103 = .ok (.aload_n 0, 1) := by decide +kernel
theorem dX12_wipes_104 : decode cX12_wipes 104 = .ok (.getfield 492, 3) := by decide +kernel
theorem dX12_wipes_107 : decode cX12_wipes 107 = .ok (.dup2, 1) := by decide +kernel
theorem dX12_wipes_108 : decode cX12_wipes 108 = .ok (.iaload, 1) := by decide +kernel
theorem dX12_wipes_109 : decode cX12_wipes 109 = .ok (.iconst 1, 1) := by decide +kernel
theorem dX12_wipes_110 : decode cX12_wipes 110 = .ok (.iadd, 1) := by decide +kernel
theorem dX12_wipes_111 : decode cX12_wipes 111 = .ok (.iastore, 1) := by decide +kernel
theorem dX12_wipes_112 : decode cX12_wipes 112 = .ok (.aload_n 0, 1) := by decide +kernel
theorem dX12_wipes_113 : decode cX12_wipes 113 = .ok (.iload_n 2, 1) := by decide +kernel
theorem dX12_wipes_114 : decode cX12_wipes 114 = .ok (.invokevirtual 549, 3) := by decide +kernel
theorem dX12_wipes_117 : decode cX12_wipes 117 = .ok (.ifCond .eq 25, 3) := by decide +kernel
theorem dX12_wipes_120 : decode cX12_wipes 120 = .ok (.aload_n 0, 1) := by decide +kernel
theorem dX12_wipes_121 : decode cX12_wipes 121 = .ok (.getfield 143, 3) := by decide +kernel
theorem dX12_wipes_124 : decode cX12_wipes 124 = .ok (.iload_n 2, 1) := by decide +kernel
theorem dX12_wipes_125 : decode cX12_wipes 125 = .ok (.dup2, 1) := by decide +kernel
theorem dX12_wipes_126 : decode cX12_wipes 126 = .ok (.iaload, 1) := by decide +kernel
theorem dX12_wipes_127 : decode cX12_wipes 127 = .ok (.iconst 0, 1) := by decide +kernel
theorem dX12_wipes_128 : decode cX12_wipes 128 = .ok (.aload_n 0, 1) := by decide +kernel
theorem dX12_wipes_129 : decode cX12_wipes 129 = .ok (.iload_n 2, 1) := by decide +kernel
theorem dX12_wipes_130 : decode cX12_wipes 130 = .ok (.aload_n 0, 1) := by decide +kernel
theorem dX12_wipes_131 : decode cX12_wipes 131 = .ok (.getfield 495, 3) := by decide +kernel
theorem dX12_wipes_134 : decode cX12_wipes 134 = .ok (.invokevirtual 518, 3) := by decide +kernel
theorem dX12_wipes_137 : decode cX12_wipes 137 = .ok (.invokestatic 447, 3) := by decide +kernel
theorem dX12_wipes_140 : decode cX12_wipes 140 = .ok (.iadd, 1) := by decide +kernel
theorem dX12_wipes_141 : decode cX12_wipes 141 = .ok (.iastore, 1) := by decide +kernel
theorem dX12_wipes_142 : decode cX12_wipes 142 = .ok (.return_, 1) := by decide +kernel
theorem dX12_passes_0 : decode cX12_passes 0 = .ok (.aload_n 0, 1) := by decide +kernel
theorem dX12_passes_1 : decode cX12_passes 1 = .ok (.getfield 152, 3) := by decide +kernel
theorem dX12_passes_4 : decode cX12_passes 4 = .ok (.aload_n 0, 1) := by decide +kernel
theorem dX12_passes_5 : decode cX12_passes 5 = .ok (.getfield 492, 3) := by decide +kernel
theorem dX12_passes_8 : decode cX12_passes 8 = .ok (.iconst 0, 1) := by decide +kernel
theorem dX12_passes_9 : decode cX12_passes 9 = .ok (.iastore, 1) := by decide +kernel
theorem dX12_passes_10 : decode cX12_passes 10 = .ok (.iconst 0, 1) := by decide +kernel
theorem dX12_passes_11 : decode cX12_passes 11 = .ok (.istore_n 1, 1) := by decide +kernel
theorem dX12_passes_12 : decode cX12_passes 12 = .ok (.iload_n 1, 1) := by decide +kernel
theorem dX12_passes_13 : decode cX12_passes 13 = .ok (.aload_n 0, 1) := by decide +kernel
theorem dX12_passes_14 : decode cX12_passes 14 = .ok (.getfield 400, 3) := by decide +kernel
theorem dX12_passes_17 : decode cX12_passes 17 = .ok (.if_icmp .ge 31, 3) := by decide +kernel
theorem dX12_passes_20 : decode cX12_passes 20 = .ok (.aload_n 0, 1) := by decide +kernel
theorem dX12_passes_21 : decode cX12_passes 21 = .ok (.getfield 100, 3) := by decide +kernel
theorem dX12_passes_24 : decode cX12_passes 24 = .ok (.aload_n 0, 1) := by decide +kernel
theorem dX12_passes_25 : decode cX12_passes 25 = .ok (.getfield 492, 3) := by decide +kernel
theorem dX12_passes_28 : decode cX12_passes 28 = .ok (.baload, 1) := by decide +kernel
theorem dX12_passes_29 : decode cX12_passes 29 = .ok (.ifCond .ne 19, 3) := by decide +kernel
theorem dX12_passes_32 : decode cX12_passes 32 = .ok (.aload_n 0, 1) := by decide +kernel
theorem dX12_passes_33 : decode cX12_passes 33 = .ok (.iload_n 1, 1) := by decide +kernel
theorem dX12_passes_34 : decode cX12_passes 34 = .ok (.invokevirtual 564, 3) := by decide +kernel
theorem dX12_passes_37 : decode cX12_passes 37 = .ok (.aload_n 0, 1) := by decide +kernel
theorem dX12_passes_38 : decode cX12_passes 38 = .ok (.iload_n 1, 1) := by decide +kernel
theorem dX12_passes_39 : decode cX12_passes 39 = .ok (.invokevirtual 567, 3) := by decide +kernel
theorem dX12_passes_42 : decode cX12_passes 42 = .ok (.iinc 1 1, 3) := by decide +kernel
theorem dX12_passes_45 : decode cX12_passes 45 = .ok (.goto (-33), 3) := by decide +kernel
theorem dX12_passes_48 : decode cX12_passes 48 = .ok (.iconst 0, 1) := by decide +kernel
theorem dX12_passes_49 : decode cX12_passes 49 = .ok (.istore_n 1, 1) := by decide +kernel
theorem dX12_passes_50 : decode cX12_passes 50 = .ok (.iload_n 1, 1) := by decide +kernel
theorem dX12_passes_51 : decode cX12_passes 51 = .ok (.aload_n 0, 1) := by decide +kernel
theorem dX12_passes_52 : decode cX12_passes 52 = .ok (.getfield 403, 3) := by decide +kernel
theorem dX12_passes_55 : decode cX12_passes 55 = .ok (.if_icmp .ge 79, 3) := by decide +kernel
theorem dX12_passes_58 : decode cX12_passes 58 = .ok (.aload_n 0, 1) := by decide +kernel
theorem dX12_passes_59 : decode cX12_passes 59 = .ok (.getfield 125, 3) := by decide +kernel
theorem dX12_passes_62 : decode cX12_passes 62 = .ok (.iload_n 1, 1) := by decide +kernel
theorem dX12_passes_63 : decode cX12_passes 63 = .ok (.iaload, 1) := by decide +kernel
theorem dX12_passes_64 : decode cX12_passes 64 = .ok (.aload_n 0, 1) := by decide +kernel
theorem dX12_passes_65 : decode cX12_passes 65 = .ok (.getfield 492, 3) := by decide +kernel
theorem dX12_passes_68 : decode cX12_passes 68 = .ok (.if_icmp .gt 60, 3) := by decide +kernel
theorem dX12_passes_71 : decode cX12_passes 71 = .ok (.aload_n 0, 1) := by decide +kernel
theorem dX12_passes_72 : decode cX12_passes 72 = .ok (.getfield 137, 3) := by decide +kernel
theorem dX12_passes_75 : decode cX12_passes 75 = .ok (.iload_n 1, 1) := by decide +kernel
theorem dX12_passes_76 : decode cX12_passes 76 = .ok (.iaload, 1) := by decide +kernel
theorem dX12_passes_77 : decode cX12_passes 77 = .ok (.iconst 1, 1) := by decide +kernel
theorem dX12_passes_78 : decode cX12_passes 78 = .ok (.if_icmp .eq 50, 3) := by decide +kernel
theorem dX12_passes_81 : decode cX12_passes 81 = .ok (.aload_n 0, 1) := by decide +kernel
theorem dX12_passes_82 : decode cX12_passes 82 = .ok (.getfield 409, 3) := by decide +kernel
theorem dX12_passes_85 : decode cX12_passes 85 = .ok (.aload_n 0, 1) := by decide +kernel
theorem dX12_passes_86 : decode cX12_passes 86 = .ok (.getfield 406, 3) := by decide +kernel
theorem dX12_passes_89 : decode cX12_passes 89 = .ok (.if_icmp .eq 39, 3) := by decide +kernel
theorem dX12_passes_92 : decode cX12_passes 92 = .ok (.aload_n 0, 1) := by decide +kernel
theorem dX12_passes_93 : decode cX12_passes 93 = .ok (.aload_n 0, 1) := by decide +kernel
theorem dX12_passes_94 : decode cX12_passes 94 = .ok (.getfield 406, 3) := by decide +kernel
theorem dX12_passes_97 : decode cX12_passes 97 = .ok (.aload_n 0, 1) := by decide +kernel
theorem dX12_passes_98 : decode cX12_passes 98 = .ok (.getfield 409, 3) := by decide +kernel
theorem dX12_passes_101 : decode cX12_passes 101 = .ok (.iload_n 1, 1) := by decide +kernel
theorem dX12_passes_102 : decode cX12_passes 102 = .ok (.invokevirtual 552, 3) := by decide +kernel
theorem dX12_passes_105 : decode cX12_passes 105 = .ok (.ifCond .ne 6, 3) := by decide +kernel
theorem dX12_passes_108 : decode cX12_passes 108 = .ok (.goto 20, 3) := by decide +kernel
theorem dX12_passes_111 : decode cX12_passes 111 = .ok (.aload_n 0, 1) := by decide +kernel
theorem dX12_passes_112 : decode cX12_passes 112 = .ok (.getfield 137, 3) := by decide +kernel
theorem dX12_passes_115 : decode cX12_passes 115 = .ok (.iload_n 1, 1) := by decide +kernel
theorem dX12_passes_116 : decode cX12_passes 116 = .ok (.iconst 1, 1) := by decide +kernel
theorem dX12_passes_117 : decode cX12_passes 117 = .ok (.iastore, 1) := by decide +kernel
theorem dX12_passes_118 : decode cX12_passes 118 = .ok (.aload_n 0, 1) := by decide +kernel
theorem dX12_passes_119 : decode cX12_passes 119 = .ok (.getfield 134, 3) := by decide +kernel
theorem dX12_passes_122 : decode cX12_passes 122 = .ok (.iload_n 1, 1) := by decide +kernel
theorem dX12_passes_123 : decode cX12_passes 123 = .ok (.dup2, 1) := by decide +kernel
theorem dX12_passes_124 : decode cX12_passes 124 = .ok (.iaload, 1) := by decide +kernel
theorem dX12_passes_125 : decode cX12_passes 125 = .ok (.iconst 1, 1) := by decide +kernel
theorem dX12_passes_126 : decode cX12_passes 126 = .ok (.iadd, 1) := by decide +kernel
theorem dX12_passes_127 : decode cX12_passes 127 = .ok (.iastore, 1) := by decide +kernel
theorem dX12_passes_128 : decode cX12_passes 128 = .ok (.iinc 1 1, 3) := by decide +kernel
theorem dX12_passes_131 : decode cX12_passes 131 = .ok (.goto (-81), 3) := by decide +kernel
theorem dX12_passes_134 : decode cX12_passes 134 = .ok (.aload_n 0, 1) := by decide +kernel
theorem dX12_passes_135 : decode cX12_passes 135 = .ok (.dup, 1) := by decide +kernel
theorem dX12_passes_136 : decode cX12_passes 136 = .ok (.getfield 492, 3) := by decide +kernel
theorem dX12_passes_139 : decode cX12_passes 139 = .ok (.iconst 1, 1) := by decide +kernel
theorem dX12_passes_140 : decode cX12_passes 140 = .ok (.iadd, 1) := by decide +kernel
theorem dX12_passes_141 : decode cX12_passes 141 = .ok (.putfield 492, 3) := by decide +kernel
theorem dX12_passes_144 : decode cX12_passes 144 = .ok (.return_, 1) := by decide +kernel
theorem dX12_days_0 : decode cX12_days 0 = .ok (.aload_n 0, 1) := by decide +kernel
theorem dX12_days_1 : decode cX12_days 1 = .ok (.iconst 0, 1) := by decide +kernel
theorem dX12_days_2 : decode cX12_days 2 = .ok (.putfield 195, 3) := by decide +kernel
theorem dX12_days_5 : decode cX12_days 5 = .ok (.iload_n 1, 1) := by decide +kernel
theorem dX12_days_6 : decode cX12_days 6 = .ok (.ifCond .lt 22, 3) := by decide +kernel
theorem dX12_days_9 : decode cX12_days 9 = .ok (.iload_n 1, 1) := by decide +kernel
theorem dX12_days_10 : decode cX12_days 10 = .ok (.sipush 200, 3) := by decide +kernel
theorem dX12_days_13 : decode cX12_days 13 = .ok (.if_icmp .gt 15, 3) := by decide +kernel
theorem dX12_days_16 : decode cX12_days 16 = .ok (.aload_n 0, 1) := by decide +kernel
theorem dX12_days_17 : decode cX12_days 17 = .ok (.getfield 492, 3) := by decide +kernel
theorem dX12_days_20 : decode cX12_days 20 = .ok (.iload_n 1, 1) := by decide +kernel
theorem dX12_days_21 : decode cX12_days 21 = .ok (.iadd, 1) := by decide +kernel
theorem dX12_days_22 : decode cX12_days 22 = .ok (.sipush 200, 3) := by decide +kernel
theorem dX12_days_25 : decode cX12_days 25 = .ok (.if_icmp .le 5, 3) := by decide +kernel
theorem dX12_days_28 : decode cX12_days 28 = .ok (.iconst (-1), 1) := by decide +kernel
theorem dX12_days_29 : decode cX12_days 29 = .ok (.ireturn, 1) := by decide +kernel
theorem dX12_days_30 : decode cX12_days 30 = .ok (.iconst 0, 1) := by decide +kernel
theorem dX12_days_31 : decode cX12_days 31 = .ok (.istore_n 2, 1) := by decide +kernel
theorem dX12_days_32 : decode cX12_days 32 = .ok (.iload_n 2, 1) := by decide +kernel
theorem dX12_days_33 : decode cX12_days 33 = .ok (.iload_n 1, 1) := by decide +kernel
theorem dX12_days_34 : decode cX12_days 34 = .ok (.if_icmp .ge 13, 3) := by decide +kernel
theorem dX12_days_37 : decode cX12_days 37 = .ok (.aload_n 0, 1) := by decide +kernel
theorem dX12_days_38 : decode cX12_days 38 = .ok (.invokevirtual 570, 3) := by decide +kernel
theorem dX12_days_41 : decode cX12_days 41 = .ok (.iinc 2 1, 3) := by decide +kernel
theorem dX12_days_44 : decode cX12_days 44 = .ok (.goto (-12), 3) := by decide +kernel
theorem dX12_days_47 : decode cX12_days 47 = .ok (.aload_n 0, 1) := by decide +kernel
theorem dX12_days_48 : decode cX12_days 48 = .ok (.getfield 492, 3) := by decide +kernel
theorem dX12_days_51 : decode cX12_days 51 = .ok (.ireturn, 1) := by decide +kernel
theorem dX12_now_0 : decode cX12_now 0 = .ok (.aload_n 0, 1) := by decide +kernel
theorem dX12_now_1 : decode cX12_now 1 = .ok (.iconst 0, 1) := by decide +kernel
theorem dX12_now_2 : decode cX12_now 2 = .ok (.putfield 195, 3) := by decide +kernel
theorem dX12_now_5 : decode cX12_now 5 = .ok (.aload_n 0, 1) := by decide +kernel
theorem dX12_now_6 : decode cX12_now 6 = .ok (.iload_n 1, 1) := by decide +kernel
theorem dX12_now_7 : decode cX12_now 7 = .ok (.invokevirtual 434, 3) := by decide +kernel
theorem dX12_now_10 : decode cX12_now 10 = .ok (.ifCond .ne 7, 3) := by decide +kernel
theorem dX12_now_13 : decode cX12_now 13 = .ok (.ldc_w 521, 3) := by decide +kernel
theorem dX12_now_16 : decode cX12_now 16 = .ok (.ireturn, 1) := by decide +kernel
theorem dX12_now_17 : decode cX12_now 17 = .ok (.iload_n 2, 1) := by decide +kernel
theorem dX12_now_18 : decode cX12_now 18 = .ok (.tableswitch 91 0 6 #[42, 49, 56, 63, 70, 77, 84], 42) := by decide +kernel
theorem dX12_now_60 : decode cX12_now 60 = .ok (.aload_n 0, 1) := by decide +kernel
theorem dX12_now_61 : decode cX12_now 61 = .ok (.getfield 125, 3) := by decide +kernel
theorem dX12_now_64 : decode cX12_now 64 = .ok (.iload_n 1, 1) := by decide +kernel
theorem dX12_now_65 : decode cX12_now 65 = .ok (.iaload, 1) := by decide +kernel
theorem dX12_now_66 : decode cX12_now 66 = .ok (.ireturn, 1) := by decide +kernel
theorem dX12_now_67 : decode cX12_now 67 = .ok (.aload_n 0, 1) := by decide +kernel
theorem dX12_now_68 : decode cX12_now 68 = .ok (.getfield 128, 3) := by decide +kernel
theorem dX12_now_71 : decode cX12_now 71 = .ok (.iload_n 1, 1) := by decide +kernel
theorem dX12_now_72 : decode cX12_now 72 = .ok (.iaload, 1) := by decide +kernel
theorem dX12_now_73 : decode cX12_now 73 = .ok (.ireturn, 1) := by decide +kernel
theorem dX12_now_74 : decode cX12_now 74 = .ok (.aload_n 0, 1) := by decide +kernel
theorem dX12_now_75 : decode cX12_now 75 = .ok (.getfield 131, 3) := by decide +kernel
theorem dX12_now_78 : decode cX12_now 78 = .ok (.iload_n 1, 1) := by decide +kernel
theorem dX12_now_79 : decode cX12_now 79 = .ok (.iaload, 1) := by decide +kernel
theorem dX12_now_80 : decode cX12_now 80 = .ok (.ireturn, 1) := by decide +kernel
theorem dX12_now_81 : decode cX12_now 81 = .ok (.aload_n 0, 1) := by decide +kernel
theorem dX12_now_82 : decode cX12_now 82 = .ok (.getfield 134, 3) := by decide +kernel
theorem dX12_now_85 : decode cX12_now 85 = .ok (.iload_n 1, 1) := by decide +kernel
theorem dX12_now_86 : decode cX12_now 86 = .ok (.iaload, 1) := by decide +kernel
theorem dX12_now_87 : decode cX12_now 87 = .ok (.ireturn, 1) := by decide +kernel
theorem dX12_now_88 : decode cX12_now 88 = .ok (.aload_n 0, 1) := by decide +kernel
theorem dX12_now_89 : decode cX12_now 89 = .ok (.getfield 137, 3) := by decide +kernel
theorem dX12_now_92 : decode cX12_now 92 = .ok (.iload_n 1, 1) := by decide +kernel
theorem dX12_now_93 : decode cX12_now 93 = .ok (.iaload, 1) := by decide +kernel
theorem dX12_now_94 : decode cX12_now 94 = .ok (.ireturn, 1) := by decide +kernel
theorem dX12_now_95 : decode cX12_now 95 = .ok (.aload_n 0, 1) := by decide +kernel
theorem dX12_now_96 : decode cX12_now 96 = .ok (.getfield 140, 3) := by decide +kernel
theorem dX12_now_99 : decode cX12_now 99 = .ok (.iload_n 1, 1) := by decide +kernel
theorem dX12_now_100 : decode cX12_now 100 = .ok (.iaload, 1) := by decide +kernel
theorem dX12_now_101 : decode cX12_now 101 = .ok (.ireturn, 1) := by decide +kernel
theorem dX12_now_102 : decode cX12_now 102 = .ok (.aload_n 0, 1) := by decide +kernel
theorem dX12_now_103 : decode cX12_now 103 = .ok (.getfield 143, 3) := by decide +kernel
theorem dX12_now_106 : decode cX12_now 106 = .ok (.iload_n 1, 1) := by decide +kernel
theorem dX12_now_107 : decode cX12_now 107 = .ok (.iaload, 1) := by decide +kernel
theorem dX12_now_108 : decode cX12_now 108 = .ok (.ireturn, 1) := by decide +kernel
theorem dX12_now_109 : decode cX12_now 109 = .ok (.ldc_w 521, 3) := by decide +kernel
theorem dX12_now_112 : decode cX12_now 112 = .ok (.ireturn, 1) := by decide +kernel
theorem dX12_wet_0 : decode cX12_wet 0 = .ok (.aload_n 0, 1) := by decide +kernel
theorem dX12_wet_1 : decode cX12_wet 1 = .ok (.iconst 0, 1) := by decide +kernel
theorem dX12_wet_2 : decode cX12_wet 2 = .ok (.putfield 195, 3) := by decide +kernel
theorem dX12_wet_5 : decode cX12_wet 5 = .ok (.iload_n 1, 1) := by decide +kernel
theorem dX12_wet_6 : decode cX12_wet 6 = .ok (.ifCond .lt 10, 3) := by decide +kernel
theorem dX12_wet_9 : decode cX12_wet 9 = .ok (.iload_n 1, 1) := by decide +kernel
theorem dX12_wet_10 : decode cX12_wet 10 = .ok (.sipush 200, 3) := by decide +kernel
theorem dX12_wet_13 : decode cX12_wet 13 = .ok (.if_icmp .lt 7, 3) := by decide +kernel
theorem dX12_wet_16 : decode cX12_wet 16 = .ok (.iconst (-1), 1) := by decide +kernel
theorem dX12_wet_17 : decode cX12_wet 17 = .ok (.goto 17, 3) := by decide +kernel
theorem dX12_wet_20 : decode cX12_wet 20 = .ok (.aload_n 0, 1) := by decide +kernel
theorem dX12_wet_21 : decode cX12_wet 21 = .ok (.getfield 100, 3) := by decide +kernel
theorem dX12_wet_24 : decode cX12_wet 24 = .ok (.iload_n 1, 1) := by decide +kernel
theorem dX12_wet_25 : decode cX12_wet 25 = .ok (.baload, 1) := by decide +kernel
theorem dX12_wet_26 : decode cX12_wet 26 = .ok (.ifCond .eq 7, 3) := by decide +kernel
theorem dX12_wet_29 : decode cX12_wet 29 = .ok (.iconst 1, 1) := by decide +kernel
theorem dX12_wet_30 : decode cX12_wet 30 = .ok (.goto 4, 3) := by decide +kernel
theorem dX12_wet_33 : decode cX12_wet 33 = .ok (.iconst 0, 1) := by decide +kernel
theorem dX12_wet_34 : decode cX12_wet 34 = .ok (.ireturn, 1) := by decide +kernel
theorem dX12_isDone_0 : decode cX12_isDone 0 = .ok (.iload_n 1, 1) := by decide +kernel
theorem dX12_isDone_1 : decode cX12_isDone 1 = .ok (.ifCond .lt 15, 3) := by decide +kernel
theorem dX12_isDone_4 : decode cX12_isDone 4 = .ok (.iload_n 1, 1) := by decide +kernel
theorem dX12_isDone_5 : decode cX12_isDone 5 = .ok (.aload_n 0, 1) := by decide +kernel
theorem dX12_isDone_6 : decode cX12_isDone 6 = .ok (.getfield 492, 3) := by decide +kernel
theorem dX12_isDone_9 : decode cX12_isDone 9 = .ok (.if_icmp .ge 7, 3) := by decide +kernel
theorem dX12_isDone_12 : decode cX12_isDone 12 = .ok (.iconst 1, 1) := by decide +kernel
theorem dX12_isDone_13 : decode cX12_isDone 13 = .ok (.goto 4, 3) := by decide +kernel
theorem dX12_isDone_16 : decode cX12_isDone 16 = .ok (.iconst 0, 1) := by decide +kernel
theorem dX12_isDone_17 : decode cX12_isDone 17 = .ok (.ireturn, 1) := by decide +kernel
theorem dX12_wiped_0 : decode cX12_wiped 0 = .ok (.aload_n 0, 1) := by decide +kernel
theorem dX12_wiped_1 : decode cX12_wiped 1 = .ok (.iconst 0, 1) := by decide +kernel
theorem dX12_wiped_2 : decode cX12_wiped 2 = .ok (.putfield 195, 3) := by decide +kernel
theorem dX12_wiped_5 : decode cX12_wiped 5 = .ok (.aload_n 0, 1) := by decide +kernel
theorem dX12_wiped_6 : decode cX12_wiped 6 = .ok (.iload_n 1, 1) := by decide +kernel
theorem dX12_wiped_7 : decode cX12_wiped 7 = .ok (.invokevirtual 573, 3) := by decide +kernel
theorem dX12_wiped_10 : decode cX12_wiped 10 = .ok (.ifCond .ne 5, 3) := by decide +kernel
theorem dX12_wiped_13 : decode cX12_wiped 13 = .ok (.iconst (-1), 1) := by decide +kernel
theorem dX12_wiped_14 : decode cX12_wiped 14 = .ok (.ireturn, 1) := by decide +kernel
theorem dX12_wiped_15 : decode cX12_wiped 15 = .ok (.iconst 0, 1) := by decide +kernel
theorem dX12_wiped_16 : decode cX12_wiped 16 = .ok (.istore_n 2, 1) := by decide +kernel
theorem dX12_wiped_17 : decode cX12_wiped 17 = .ok (.iconst 0, 1) := by decide +kernel
theorem dX12_wiped_18 : decode cX12_wiped 18 = .ok (.istore_n 3, 1) := by decide +kernel
theorem dX12_wiped_19 : decode cX12_wiped 19 = .ok (.iload_n 3, 1) := by decide +kernel
theorem dX12_wiped_20 : decode cX12_wiped 20 = .ok (.aload_n 0, 1) := by decide +kernel
theorem dX12_wiped_21 : decode cX12_wiped 21 = .ok (.getfield 152, 3) := by decide +kernel
theorem dX12_wiped_24 : decode cX12_wiped 24 = .ok (.iload_n 1, 1) := by decide +kernel
theorem dX12_wiped_25 : decode cX12_wiped 25 = .ok (.iaload, 1) := by decide +kernel
theorem dX12_wiped_26 : decode cX12_wiped 26 = .ok (.if_icmp .ge 25, 3) := by decide +kernel
theorem dX12_wiped_29 : decode cX12_wiped 29 = .ok (.iload_n 2, 1) := by decide +kernel
theorem dX12_wiped_30 : decode cX12_wiped 30 = .ok (.iconst 1, 1) := by decide +kernel
theorem dX12_wiped_31 : decode cX12_wiped 31 = .ok (.aload_n 0, 1) := by decide +kernel
theorem dX12_wiped_32 : decode cX12_wiped 32 = .ok (.getfield 155, 3) := by decide +kernel
theorem dX12_wiped_35 : decode cX12_wiped 35 = .ok (.bipush 10, 2) := by decide +kernel
theorem dX12_wiped_37 : decode cX12_wiped 37 = .ok (.iload_n 1, 1) := by decide +kernel
theorem dX12_wiped_38 : decode cX12_wiped 38 = .ok (.imul, 1) := by decide +kernel
theorem dX12_wiped_39 : decode cX12_wiped 39 = .ok (.iload_n 3, 1) := by decide +kernel
theorem dX12_wiped_40 : decode cX12_wiped 40 = .ok (.iadd, 1) := by decide +kernel
theorem dX12_wiped_41 : decode cX12_wiped 41 = .ok (.iaload, 1) := by decide +kernel
theorem dX12_wiped_42 : decode cX12_wiped 42 = .ok (.ishl, 1) := by decide +kernel
theorem dX12_wiped_43 : decode cX12_wiped 43 = .ok (.ior, 1) := by decide +kernel
theorem dX12_wiped_44 : decode cX12_wiped 44 = .ok (.istore_n 2, 1) := by decide +kernel
theorem dX12_wiped_45 : decode cX12_wiped 45 = .ok (.iinc 3 1, 3) := by decide +kernel
theorem dX12_wiped_48 : decode cX12_wiped 48 = .ok (.goto (-29), 3) := by decide +kernel
theorem dX12_wiped_51 : decode cX12_wiped 51 = .ok (.iload_n 2, 1) := by decide +kernel
theorem dX12_wiped_52 : decode cX12_wiped 52 = .ok (.ireturn, 1) := by decide +kernel
theorem dX12_did_0 : decode cX12_did 0 = .ok (.aload_n 0, 1) := by decide +kernel
theorem dX12_did_1 : decode cX12_did 1 = .ok (.iconst 0, 1) := by decide +kernel
theorem dX12_did_2 : decode cX12_did 2 = .ok (.putfield 546, 3) := by decide +kernel
theorem dX12_did_5 : decode cX12_did 5 = .ok (.iconst 0, 1) := by decide +kernel
theorem dX12_did_6 : decode cX12_did 6 = .ok (.istore_n 3, 1) := by decide +kernel
theorem dX12_did_7 : decode cX12_did 7 = .ok (.iload_n 3, 1) := by decide +kernel
theorem dX12_did_8 : decode cX12_did 8 = .ok (.aload_n 0, 1) := by decide +kernel
theorem dX12_did_9 : decode cX12_did 9 = .ok (.getfield 152, 3) := by decide +kernel
theorem dX12_did_12 : decode cX12_did 12 = .ok (.iload_n 2, 1) := by decide +kernel
theorem dX12_did_13 : decode cX12_did 13 = .ok (.iaload, 1) := by decide +kernel
theorem dX12_did_14 : decode cX12_did 14 = .ok (.if_icmp .ge 57, 3) := by decide +kernel
theorem dX12_did_17 : decode cX12_did 17 = .ok (.aload_n 0, 1) := by decide +kernel
theorem dX12_did_18 : decode cX12_did 18 = .ok (.getfield 158, 3) := by decide +kernel
theorem dX12_did_21 : decode cX12_did 21 = .ok (.bipush 10, 2) := by decide +kernel
theorem dX12_did_23 : decode cX12_did 23 = .ok (.iload_n 2, 1) := by decide +kernel
theorem dX12_did_24 : decode cX12_did 24 = .ok (.imul, 1) := by decide +kernel
theorem dX12_did_25 : decode cX12_did 25 = .ok (.iload_n 3, 1) := by decide +kernel
theorem dX12_did_26 : decode cX12_did 26 = .ok (.iadd, 1) := by decide +kernel
theorem dX12_did_27 : decode cX12_did 27 = .ok (.iaload, 1) := by decide +kernel
theorem dX12_did_28 : decode cX12_did 28 = .ok (.iload_n 1, 1) := by decide +kernel
theorem dX12_did_29 : decode cX12_did 29 = .ok (.if_icmp .eq 6, 3) := by decide +kernel
theorem dX12_did_32 : decode cX12_did 32 = .ok (.goto 33, 3) := by decide +kernel
theorem dX12_did_35 : decode cX12_did 35 = .ok (.aload_n 0, 1) := by decide +kernel
theorem dX12_did_36 : decode cX12_did 36 = .ok (.getfield 177, 3) := by decide +kernel
theorem dX12_did_39 : decode cX12_did 39 = .ok (.aload_n 0, 1) := by decide +kernel
theorem dX12_did_40 : decode cX12_did 40 = .ok (.getfield 546, 3) := by decide +kernel
theorem dX12_did_43 : decode cX12_did 43 = .ok (.aload_n 0, 1) := by decide +kernel
theorem dX12_did_44 : decode cX12_did 44 = .ok (.getfield 155, 3) := by decide +kernel
theorem dX12_did_47 : decode cX12_did 47 = .ok (.bipush 10, 2) := by decide +kernel
theorem dX12_did_49 : decode cX12_did 49 = .ok (.iload_n 2, 1) := by decide +kernel
theorem dX12_did_50 : decode cX12_did 50 = .ok (.imul, 1) := by decide +kernel
theorem dX12_did_51 : decode cX12_did 51 = .ok (.iload_n 3, 1) := by decide +kernel
theorem dX12_did_52 : decode cX12_did 52 = .ok (.iadd, 1) := by decide +kernel
theorem dX12_did_53 : decode cX12_did 53 = .ok (.iaload, 1) := by decide +kernel
theorem dX12_did_54 : decode cX12_did 54 = .ok (.iastore, 1) := by decide +kernel
theorem dX12_did_55 : decode cX12_did 55 = .ok (.aload_n 0, 1) := by decide +kernel
theorem dX12_did_56 : decode cX12_did 56 = .ok (.dup, 1) := by decide +kernel
theorem dX12_did_57 : decode cX12_did 57 = .ok (.getfield 546, 3) := by decide +kernel
theorem dX12_did_60 : decode cX12_did 60 = .ok (.iconst 1, 1) := by decide +kernel
theorem dX12_did_61 : decode cX12_did 61 = .ok (.iadd, 1) := by decide +kernel
theorem dX12_did_62 : decode cX12_did 62 = .ok (.putfield 546, 3) := by decide +kernel
theorem dX12_did_65 : decode cX12_did 65 = .ok (.iinc 3 1, 3) := by decide +kernel
theorem dX12_did_68 : decode cX12_did 68 = .ok (.goto (-61), 3) := by decide +kernel
theorem dX12_did_71 : decode cX12_did 71 = .ok (.return_, 1) := by decide +kernel
theorem dX12_walked_0 : decode cX12_walked 0 = .ok (.iconst 0, 1) := by decide +kernel
theorem dX12_walked_1 : decode cX12_walked 1 = .ok (.istore_n 2, 1) := by decide +kernel
theorem dX12_walked_2 : decode cX12_walked 2 = .ok (.iconst 0, 1) := by decide +kernel
theorem dX12_walked_3 : decode cX12_walked 3 = .ok (.istore_n 3, 1) := by decide +kernel
theorem dX12_walked_4 : decode cX12_walked 4 = .ok (.iload_n 3, 1) := by decide +kernel
theorem dX12_walked_5 : decode cX12_walked 5 = .ok (.aload_n 0, 1) := by decide +kernel
theorem dX12_walked_6 : decode cX12_walked 6 = .ok (.getfield 546, 3) := by decide +kernel
theorem dX12_walked_9 : decode cX12_walked 9 = .ok (.if_icmp .ge 48, 3) := by decide +kernel
theorem dX12_walked_12 : decode cX12_walked 12 = .ok (.iload_n 2, 1) := by decide +kernel
theorem dX12_walked_13 : decode cX12_walked 13 = .ok (.iload_n 3, 1) := by decide +kernel
theorem dX12_walked_14 : decode cX12_walked 14 = .ok (.ifCond .ne 17, 3) := by decide +kernel
theorem dX12_walked_17 : decode cX12_walked 17 = .ok (.aload_n 0, 1) := by decide +kernel
theorem dX12_walked_18 : decode cX12_walked 18 = .ok (.iload_n 1, 1) := by decide +kernel
theorem dX12_walked_19 : decode cX12_walked 19 = .ok (.aload_n 0, 1) := by decide +kernel
theorem dX12_walked_20 : decode cX12_walked 20 = .ok (.getfield 177, 3) := by decide +kernel
theorem dX12_walked_23 : decode cX12_walked 23 = .ok (.iload_n 3, 1) := by decide +kernel
theorem dX12_walked_24 : decode cX12_walked 24 = .ok (.iaload, 1) := by decide +kernel
theorem dX12_walked_25 : decode cX12_walked 25 = .ok (.invokevirtual 555, 3) := by decide +kernel
theorem dX12_walked_28 : decode cX12_walked 28 = .ok (.goto 21, 3) := by decide +kernel
theorem dX12_walked_31 : decode cX12_walked 31 = .ok (.aload_n 0, 1) := by decide +kernel
theorem dX12_walked_32 : decode cX12_walked 32 = .ok (.aload_n 0, 1) := by decide +kernel
theorem dX12_walked_33 : decode cX12_walked 33 = .ok (.getfield 177, 3) := by decide +kernel
theorem dX12_walked_36 : decode cX12_walked 36 = .ok (.iload_n 3, 1) := by decide +kernel
theorem dX12_walked_37 : decode cX12_walked 37 = .ok (.iconst 1, 1) := by decide +kernel
theorem dX12_walked_38 : decode cX12_walked 38 = .ok (.isub, 1) := by decide +kernel
theorem dX12_walked_39 : decode cX12_walked 39 = .ok (.iaload, 1) := by decide +kernel
theorem dX12_walked_40 : decode cX12_walked 40 = .ok (.aload_n 0, 1) := by decide +kernel
theorem dX12_walked_41 : decode cX12_walked 41 = .ok (.getfield 177, 3) := by decide +kernel
theorem dX12_walked_44 : decode cX12_walked 44 = .ok (.iload_n 3, 1) := by decide +kernel
theorem dX12_walked_45 : decode cX12_walked 45 = .ok (.iaload, 1) := by decide +kernel
theorem dX12_walked_46 : decode cX12_walked 46 = .ok (.invokevirtual 558, 3) := by decide +kernel
theorem dX12_walked_49 : decode cX12_walked 49 = .ok (.iadd, 1) := by decide +kernel
theorem dX12_walked_50 : decode cX12_walked 50 = .ok (.istore_n 2, 1) := by decide +kernel
theorem dX12_walked_51 : decode cX12_walked 51 = .ok (.iinc 3 1, 3) := by decide +kernel
theorem dX12_walked_54 : decode cX12_walked 54 = .ok (.goto (-50), 3) := by decide +kernel
theorem dX12_walked_57 : decode cX12_walked 57 = .ok (.aload_n 0, 1) := by decide +kernel
theorem dX12_walked_58 : decode cX12_walked 58 = .ok (.getfield 546, 3) := by decide +kernel
theorem dX12_walked_61 : decode cX12_walked 61 = .ok (.ifCond .ne 7, 3) := by decide +kernel
theorem dX12_walked_64 : decode cX12_walked 64 = .ok (.iconst 0, 1) := by decide +kernel
theorem dX12_walked_65 : decode cX12_walked 65 = .ok (.goto 21, 3) := by decide +kernel
theorem dX12_walked_68 : decode cX12_walked 68 = .ok (.iload_n 2, 1) := by decide +kernel
theorem dX12_walked_69 : decode cX12_walked 69 = .ok (.aload_n 0, 1) := by decide +kernel
theorem dX12_walked_70 : decode cX12_walked 70 = .ok (.iload_n 1, 1) := by decide +kernel
theorem dX12_walked_71 : decode cX12_walked 71 = .ok (.aload_n 0, 1) := by decide +kernel
theorem dX12_walked_72 : decode cX12_walked 72 = .ok (.getfield 177, 3) := by decide +kernel
theorem dX12_walked_75 : decode cX12_walked 75 = .ok (.aload_n 0, 1) := by decide +kernel
theorem dX12_walked_76 : decode cX12_walked 76 = .ok (.getfield 546, 3) := by decide +kernel
theorem dX12_walked_79 : decode cX12_walked 79 = .ok (.iconst 1, 1) := by decide +kernel
theorem dX12_walked_80 : decode cX12_walked 80 = .ok (.isub, 1) := by decide +kernel
theorem dX12_walked_81 : decode cX12_walked 81 = .ok (.iaload, 1) := by decide +kernel
theorem dX12_walked_82 : decode cX12_walked 82 = .ok (.invokevirtual 555, 3) := by decide +kernel
theorem dX12_walked_85 : decode cX12_walked 85 = .ok (.iadd, 1) := by decide +kernel
theorem dX12_walked_86 : decode cX12_walked 86 = .ok (.ireturn, 1) := by decide +kernel
theorem dX12_way_0 : decode cX12_way 0 = .ok (.aload_n 0, 1) := by decide +kernel
theorem dX12_way_1 : decode cX12_way 1 = .ok (.iconst 0, 1) := by decide +kernel
theorem dX12_way_2 : decode cX12_way 2 = .ok (.putfield 195, 3) := by decide +kernel
theorem dX12_way_5 : decode cX12_way 5 = .ok (.aload_n 0, 1) := by decide +kernel
theorem dX12_way_6 : decode cX12_way 6 = .ok (.iload_n 1, 1) := by decide +kernel
theorem dX12_way_7 : decode cX12_way 7 = .ok (.invokevirtual 522, 3) := by decide +kernel
theorem dX12_way_10 : decode cX12_way 10 = .ok (.ifCond .eq 15, 3) := by decide +kernel
theorem dX12_way_13 : decode cX12_way 13 = .ok (.aload_n 0, 1) := by decide +kernel
theorem dX12_way_14 : decode cX12_way 14 = .ok (.iload_n 2, 1) := by decide +kernel
theorem dX12_way_15 : decode cX12_way 15 = .ok (.invokevirtual 573, 3) := by decide +kernel
theorem dX12_way_18 : decode cX12_way 18 = .ok (.ifCond .eq 7, 3) := by decide +kernel
theorem dX12_way_21 : decode cX12_way 21 = .ok (.iload_n 3, 1) := by decide +kernel
theorem dX12_way_22 : decode cX12_way 22 = .ok (.ifCond .ge 5, 3) := by decide +kernel
theorem dX12_way_25 : decode cX12_way 25 = .ok (.iconst (-1), 1) := by decide +kernel
theorem dX12_way_26 : decode cX12_way 26 = .ok (.ireturn, 1) := by decide +kernel
theorem dX12_way_27 : decode cX12_way 27 = .ok (.aload_n 0, 1) := by decide +kernel
theorem dX12_way_28 : decode cX12_way 28 = .ok (.iload_n 1, 1) := by decide +kernel
theorem dX12_way_29 : decode cX12_way 29 = .ok (.iload_n 2, 1) := by decide +kernel
theorem dX12_way_30 : decode cX12_way 30 = .ok (.invokevirtual 576, 3) := by decide +kernel
theorem dX12_way_33 : decode cX12_way 33 = .ok (.iload_n 3, 1) := by decide +kernel
theorem dX12_way_34 : decode cX12_way 34 = .ok (.ifCond .ne 8, 3) := by decide +kernel
theorem dX12_way_37 : decode cX12_way 37 = .ok (.aload_n 0, 1) := by decide +kernel
theorem dX12_way_38 : decode cX12_way 38 = .ok (.getfield 546, 3) := by decide +kernel
theorem dX12_way_41 : decode cX12_way 41 = .ok (.ireturn, 1) := by decide +kernel
theorem dX12_way_42 : decode cX12_way 42 = .ok (.iload_n 3, 1) := by decide +kernel
theorem dX12_way_43 : decode cX12_way 43 = .ok (.iconst 2, 1) := by decide +kernel
theorem dX12_way_44 : decode cX12_way 44 = .ok (.if_icmp .le 26, 3) := by decide +kernel
theorem dX12_way_47 : decode cX12_way 47 = .ok (.iload_n 3, 1) := by decide +kernel
theorem dX12_way_48 : decode cX12_way 48 = .ok (.iconst 3, 1) := by decide +kernel
theorem dX12_way_49 : decode cX12_way 49 = .ok (.isub, 1) := by decide +kernel
theorem dX12_way_50 : decode cX12_way 50 = .ok (.aload_n 0, 1) := by decide +kernel
theorem dX12_way_51 : decode cX12_way 51 = .ok (.getfield 546, 3) := by decide +kernel
theorem dX12_way_54 : decode cX12_way 54 = .ok (.if_icmp .ge 14, 3) := by decide +kernel
theorem dX12_way_57 : decode cX12_way 57 = .ok (.aload_n 0, 1) := by decide +kernel
theorem dX12_way_58 : decode cX12_way 58 = .ok (.getfield 177, 3) := by decide +kernel
theorem dX12_way_61 : decode cX12_way 61 = .ok (.iload_n 3, 1) := by decide +kernel
theorem dX12_way_62 : decode cX12_way 62 = .ok (.iconst 3, 1) := by decide +kernel
theorem dX12_way_63 : decode cX12_way 63 = .ok (.isub, 1) := by decide +kernel
theorem dX12_way_64 : decode cX12_way 64 = .ok (.iaload, 1) := by decide +kernel
theorem dX12_way_65 : decode cX12_way 65 = .ok (.goto 4, 3) := by decide +kernel
theorem dX12_way_68 : decode cX12_way 68 = .ok (.iconst (-1), 1) := by decide +kernel
theorem dX12_way_69 : decode cX12_way 69 = .ok (.ireturn, 1) := by decide +kernel
theorem dX12_way_70 : decode cX12_way 70 = .ok (.aload_n 0, 1) := by decide +kernel
theorem dX12_way_71 : decode cX12_way 71 = .ok (.iload_n 1, 1) := by decide +kernel
theorem dX12_way_72 : decode cX12_way 72 = .ok (.invokevirtual 579, 3) := by decide +kernel
theorem dX12_way_75 : decode cX12_way 75 = .ok (.istore 4, 2) := by decide +kernel
theorem dX12_way_77 : decode cX12_way 77 = .ok (.iconst 0, 1) := by decide +kernel
theorem dX12_way_78 : decode cX12_way 78 = .ok (.istore 5, 2) := by decide +kernel
theorem dX12_way_80 : decode cX12_way 80 = .ok (.iload 5, 2) := by decide +kernel
theorem dX12_way_82 : decode cX12_way 82 = .ok (.aload_n 0, 1) := by decide +kernel
theorem dX12_way_83 : decode cX12_way 83 = .ok (.getfield 546, 3) := by decide +kernel
theorem dX12_way_86 : decode cX12_way 86 = .ok (.if_icmp .ge 36, 3) := by decide +kernel
theorem dX12_way_89 : decode cX12_way 89 = .ok (.iload_n 3, 1) := by decide +kernel
theorem dX12_way_90 : decode cX12_way 90 = .ok (.iconst 2, 1) := by decide +kernel
theorem dX12_way_91 : decode cX12_way 91 = .ok (.if_icmp .ne 31, 3) := by decide +kernel
theorem dX12_way_94 : decode cX12_way 94 = .ok (.iload 4, 2) := by decide +kernel
theorem dX12_way_96 : decode cX12_way 96 = .ok (.aload_n 0, 1) := by decide +kernel
theorem dX12_way_97 : decode cX12_way 97 = .ok (.getfield 170, 3) := by decide +kernel
theorem dX12_way_100 : decode cX12_way 100 = .ok (.aload_n 0, 1) := by decide +kernel
theorem dX12_way_101 : decode cX12_way 101 = .ok (.getfield 69, 3) := by decide +kernel
theorem dX12_way_104 : decode cX12_way 104 = .ok (.aload_n 0, 1) := by decide +kernel
theorem dX12_way_105 : decode cX12_way 105 = .ok (.getfield 177, 3) := by decide +kernel
theorem dX12_way_108 : decode cX12_way 108 = .ok (.iload 5, 2) := by decide +kernel
theorem dX12_way_110 : decode cX12_way 110 = .ok (.iaload, 1) := by decide +kernel
theorem dX12_way_111 : decode cX12_way 111 = .ok (.iaload, 1) := by decide +kernel
theorem dX12_way_112 : decode cX12_way 112 = .ok (.iaload, 1) := by decide +kernel
theorem dX12_way_113 : decode cX12_way 113 = .ok (.iadd, 1) := by decide +kernel
theorem dX12_way_114 : decode cX12_way 114 = .ok (.istore 4, 2) := by decide +kernel
theorem dX12_way_116 : decode cX12_way 116 = .ok (.iinc 5 1, 3) := by decide +kernel
theorem dX12_way_119 : decode cX12_way 119 = .ok (.goto (-39), 3) := by decide +kernel
theorem dX12_way_122 : decode cX12_way 122 = .ok (.iload 4, 2) := by decide +kernel
theorem dX12_way_124 : decode cX12_way 124 = .ok (.ireturn, 1) := by decide +kernel
theorem dX12_shortFrom_0 : decode cX12_shortFrom 0 = .ok (.iload_n 3, 1) := by decide +kernel
theorem dX12_shortFrom_1 : decode cX12_shortFrom 1 = .ok (.ifCond .ne 15, 3) := by decide +kernel
theorem dX12_shortFrom_4 : decode cX12_shortFrom 4 = .ok (.aload_n 0, 1) := by decide +kernel
theorem dX12_shortFrom_5 : decode cX12_shortFrom 5 = .ok (.iload_n 1, 1) := by decide +kernel
theorem dX12_shortFrom_6 : decode cX12_shortFrom 6 = .ok (.aload_n 0, 1) := by decide +kernel
theorem dX12_shortFrom_7 : decode cX12_shortFrom 7 = .ok (.getfield 177, 3) := by decide +kernel
theorem dX12_shortFrom_10 : decode cX12_shortFrom 10 = .ok (.iload_n 2, 1) := by decide +kernel
theorem dX12_shortFrom_11 : decode cX12_shortFrom 11 = .ok (.iaload, 1) := by decide +kernel
theorem dX12_shortFrom_12 : decode cX12_shortFrom 12 = .ok (.invokevirtual 555, 3) := by decide +kernel
theorem dX12_shortFrom_15 : decode cX12_shortFrom 15 = .ok (.ireturn, 1) := by decide +kernel
theorem dX12_shortFrom_16 : decode cX12_shortFrom 16 = .ok (.aload_n 0, 1) := by decide +kernel
theorem dX12_shortFrom_17 : decode cX12_shortFrom 17 = .ok (.getfield 180, 3) := by decide +kernel
theorem dX12_shortFrom_20 : decode cX12_shortFrom 20 = .ok (.bipush 7, 2) := by decide +kernel
theorem dX12_shortFrom_22 : decode cX12_shortFrom 22 = .ok (.iload_n 3, 1) := by decide +kernel
theorem dX12_shortFrom_23 : decode cX12_shortFrom 23 = .ok (.imul, 1) := by decide +kernel
theorem dX12_shortFrom_24 : decode cX12_shortFrom 24 = .ok (.iload_n 2, 1) := by decide +kernel
theorem dX12_shortFrom_25 : decode cX12_shortFrom 25 = .ok (.iadd, 1) := by decide +kernel
theorem dX12_shortFrom_26 : decode cX12_shortFrom 26 = .ok (.iaload, 1) := by decide +kernel
theorem dX12_shortFrom_27 : decode cX12_shortFrom 27 = .ok (.istore 4, 2) := by decide +kernel
theorem dX12_shortFrom_29 : decode cX12_shortFrom 29 = .ok (.iload 4, 2) := by decide +kernel
theorem dX12_shortFrom_31 : decode cX12_shortFrom 31 = .ok (.iconst (-1), 1) := by decide +kernel
theorem dX12_shortFrom_32 : decode cX12_shortFrom 32 = .ok (.if_icmp .eq 6, 3) := by decide +kernel
theorem dX12_shortFrom_35 : decode cX12_shortFrom 35 = .ok (.iload 4, 2) := by decide +kernel
theorem dX12_shortFrom_37 : decode cX12_shortFrom 37 = .ok (.ireturn, 1) := by decide +kernel
theorem dX12_shortFrom_38 : decode cX12_shortFrom 38 = .ok (.iconst (-1), 1) := by decide +kernel
theorem dX12_shortFrom_39 : decode cX12_shortFrom 39 = .ok (.istore 5, 2) := by decide +kernel
theorem dX12_shortFrom_41 : decode cX12_shortFrom 41 = .ok (.iconst 0, 1) := by decide +kernel
theorem dX12_shortFrom_42 : decode cX12_shortFrom 42 = .ok (.istore 6, 2) := by decide +kernel
theorem dX12_shortFrom_44 : decode cX12_shortFrom 44 = .ok (.iload 6, 2) := by decide +kernel
theorem dX12_shortFrom_46 : decode cX12_shortFrom 46 = .ok (.aload_n 0, 1) := by decide +kernel
theorem dX12_shortFrom_47 : decode cX12_shortFrom 47 = .ok (.getfield 546, 3) := by decide +kernel
theorem dX12_shortFrom_50 : decode cX12_shortFrom 50 = .ok (.if_icmp .ge 73, 3) := by decide +kernel
theorem dX12_shortFrom_53 : decode cX12_shortFrom 53 = .ok (.iload_n 3, 1) := by decide +kernel
theorem dX12_shortFrom_54 : decode cX12_shortFrom 54 = .ok (.iload 6, 2) := by decide +kernel
theorem dX12_shortFrom_56 : decode cX12_shortFrom 56 = .ok (.ishr, 1) := by decide +kernel
theorem dX12_shortFrom_57 : decode cX12_shortFrom 57 = .ok (.iconst 1, 1) := by decide +kernel
theorem dX12_shortFrom_58 : decode cX12_shortFrom 58 = .ok (.iand, 1) := by decide +kernel
theorem dX12_shortFrom_59 : decode cX12_shortFrom 59 = .ok (.ifCond .ne 6, 3) := by decide +kernel
theorem dX12_shortFrom_62 : decode cX12_shortFrom 62 = .ok (.goto 55, 3) := by decide +kernel
theorem dX12_shortFrom_65 : decode cX12_shortFrom 65 = .ok (.aload_n 0, 1) := by decide +kernel
theorem dX12_shortFrom_66 : decode cX12_shortFrom 66 = .ok (.aload_n 0, 1) := by decide +kernel
theorem dX12_shortFrom_67 : decode cX12_shortFrom 67 = .ok (.getfield 177, 3) := by decide +kernel
theorem dX12_shortFrom_70 : decode cX12_shortFrom 70 = .ok (.iload_n 2, 1) := by decide +kernel
theorem dX12_shortFrom_71 : decode cX12_shortFrom 71 = .ok (.iaload, 1) := by decide +kernel
theorem dX12_shortFrom_72 : decode cX12_shortFrom 72 = .ok (.aload_n 0, 1) := by decide +kernel
theorem dX12_shortFrom_73 : decode cX12_shortFrom 73 = .ok (.getfield 177, 3) := by decide +kernel
theorem dX12_shortFrom_76 : decode cX12_shortFrom 76 = .ok (.iload 6, 2) := by decide +kernel
theorem dX12_shortFrom_78 : decode cX12_shortFrom 78 = .ok (.iaload, 1) := by decide +kernel
theorem dX12_shortFrom_79 : decode cX12_shortFrom 79 = .ok (.invokevirtual 558, 3) := by decide +kernel
theorem dX12_shortFrom_82 : decode cX12_shortFrom 82 = .ok (.aload_n 0, 1) := by decide +kernel
theorem dX12_shortFrom_83 : decode cX12_shortFrom 83 = .ok (.iload_n 1, 1) := by decide +kernel
theorem dX12_shortFrom_84 : decode cX12_shortFrom 84 = .ok (.iload 6, 2) := by decide +kernel
theorem dX12_shortFrom_86 : decode cX12_shortFrom 86 = .ok (.iload_n 3, 1) := by decide +kernel
theorem dX12_shortFrom_87 : decode cX12_shortFrom 87 = .ok (.iconst 1, 1) := by decide +kernel
theorem dX12_shortFrom_88 : decode cX12_shortFrom 88 = .ok (.iload 6, 2) := by decide +kernel
theorem dX12_shortFrom_90 : decode cX12_shortFrom 90 = .ok (.ishl, 1) := by decide +kernel
theorem dX12_shortFrom_91 : decode cX12_shortFrom 91 = .ok (.iconst (-1), 1) := by decide +kernel
theorem dX12_shortFrom_92 : decode cX12_shortFrom 92 = .ok (.ixor, 1) := by decide +kernel
theorem dX12_shortFrom_93 : decode cX12_shortFrom 93 = .ok (.iand, 1) := by decide +kernel
theorem dX12_shortFrom_94 : decode cX12_shortFrom 94 = .ok (.invokevirtual 582, 3) := by decide +kernel
theorem dX12_shortFrom_97 : decode cX12_shortFrom 97 = .ok (.iadd, 1) := by decide +kernel
theorem dX12_shortFrom_98 : decode cX12_shortFrom 98 = .ok (.istore 7, 2) := by decide +kernel
theorem dX12_shortFrom_100 : decode cX12_shortFrom 100 = .ok (.iload 5, 2) := by decide +kernel
theorem dX12_shortFrom_102 : decode cX12_shortFrom 102 = .ok (.iconst (-1), 1) := by decide +kernel
theorem dX12_shortFrom_103 : decode cX12_shortFrom 103 = .ok (.if_icmp .eq 10, 3) := by decide +kernel
theorem dX12_shortFrom_106 : decode cX12_shortFrom 106 = .ok (.iload 7, 2) := by decide +kernel
theorem dX12_shortFrom_108 : decode cX12_shortFrom 108 = .ok (.iload 5, 2) := by decide +kernel
theorem dX12_shortFrom_110 : decode cX12_shortFrom 110 = .ok (.if_icmp .ge 7, 3) := by decide +kernel
theorem dX12_shortFrom_113 : decode cX12_shortFrom 113 = .ok (.iload 7, 2) := by decide +kernel
theorem dX12_shortFrom_115 : decode cX12_shortFrom 115 = .ok (.istore 5, 2) := by decide +kernel
theorem dX12_shortFrom_117 : decode cX12_shortFrom 117 = .ok (.iinc 6 1, 3) := by decide +kernel
theorem dX12_shortFrom_120 : decode cX12_shortFrom 120 = .ok (.goto (-76), 3) := by decide +kernel
theorem dX12_shortFrom_123 : decode cX12_shortFrom 123 = .ok (.aload_n 0, 1) := by decide +kernel
theorem dX12_shortFrom_124 : decode cX12_shortFrom 124 = .ok (.getfield 180, 3) := by decide +kernel
theorem dX12_shortFrom_127 : decode cX12_shortFrom 127 = .ok (.bipush 7, 2) := by decide +kernel
theorem dX12_shortFrom_129 : decode cX12_shortFrom 129 = .ok (.iload_n 3, 1) := by decide +kernel
theorem dX12_shortFrom_130 : decode cX12_shortFrom 130 = .ok (.imul, 1) := by decide +kernel
theorem dX12_shortFrom_131 : decode cX12_shortFrom 131 = .ok (.iload_n 2, 1) := by decide +kernel
theorem dX12_shortFrom_132 : decode cX12_shortFrom 132 = .ok (.iadd, 1) := by decide +kernel
theorem dX12_shortFrom_133 : decode cX12_shortFrom 133 = .ok (.iload 5, 2) := by decide +kernel
theorem dX12_shortFrom_135 : decode cX12_shortFrom 135 = .ok (.iastore, 1) := by decide +kernel
theorem dX12_shortFrom_136 : decode cX12_shortFrom 136 = .ok (.iload 5, 2) := by decide +kernel
theorem dX12_shortFrom_138 : decode cX12_shortFrom 138 = .ok (.ireturn, 1) := by decide +kernel
theorem dX12_shortest_0 : decode cX12_shortest 0 = .ok (.aload_n 0, 1) := by decide +kernel
theorem dX12_shortest_1 : decode cX12_shortest 1 = .ok (.iconst 0, 1) := by decide +kernel
theorem dX12_shortest_2 : decode cX12_shortest 2 = .ok (.putfield 195, 3) := by decide +kernel
theorem dX12_shortest_5 : decode cX12_shortest 5 = .ok (.aload_n 0, 1) := by decide +kernel
theorem dX12_shortest_6 : decode cX12_shortest 6 = .ok (.iload_n 1, 1) := by decide +kernel
theorem dX12_shortest_7 : decode cX12_shortest 7 = .ok (.invokevirtual 522, 3) := by decide +kernel
theorem dX12_shortest_10 : decode cX12_shortest 10 = .ok (.ifCond .eq 15, 3) := by decide +kernel
theorem dX12_shortest_13 : decode cX12_shortest 13 = .ok (.aload_n 0, 1) := by decide +kernel
theorem dX12_shortest_14 : decode cX12_shortest 14 = .ok (.iload_n 2, 1) := by decide +kernel
theorem dX12_shortest_15 : decode cX12_shortest 15 = .ok (.invokevirtual 573, 3) := by decide +kernel
theorem dX12_shortest_18 : decode cX12_shortest 18 = .ok (.ifCond .eq 7, 3) := by decide +kernel
theorem dX12_shortest_21 : decode cX12_shortest 21 = .ok (.iload_n 3, 1) := by decide +kernel
theorem dX12_shortest_22 : decode cX12_shortest 22 = .ok (.ifCond .ge 5, 3) := by decide +kernel
theorem dX12_shortest_25 : decode cX12_shortest 25 = .ok (.iconst (-1), 1) := by decide +kernel
theorem dX12_shortest_26 : decode cX12_shortest 26 = .ok (.ireturn, 1) := by decide +kernel
theorem dX12_shortest_27 : decode cX12_shortest 27 = .ok (.aload_n 0, 1) := by decide +kernel
theorem dX12_shortest_28 : decode cX12_shortest 28 = .ok (.iload_n 1, 1) := by decide +kernel
theorem dX12_shortest_29 : decode cX12_shortest 29 = .ok (.iload_n 2, 1) := by decide +kernel
theorem dX12_shortest_30 : decode cX12_shortest 30 = .ok (.invokevirtual 576, 3) := by decide +kernel
theorem dX12_shortest_33 : decode cX12_shortest 33 = .ok (.aload_n 0, 1) := by decide +kernel
theorem dX12_shortest_34 : decode cX12_shortest 34 = .ok (.getfield 546, 3) := by decide +kernel
theorem dX12_shortest_37 : decode cX12_shortest 37 = .ok (.bipush 7, 2) := by decide +kernel
theorem dX12_shortest_39 : decode cX12_shortest 39 = .ok (.if_icmp .le 5, 3) := by decide +kernel
theorem dX12_shortest_42 : decode cX12_shortest 42 = .ok (.iconst (-1), 1) := by decide +kernel
theorem dX12_shortest_43 : decode cX12_shortest 43 = .ok (.ireturn, 1) := by decide +kernel
theorem dX12_shortest_44 : decode cX12_shortest 44 = .ok (.iload_n 3, 1) := by decide +kernel
theorem dX12_shortest_45 : decode cX12_shortest 45 = .ok (.aload_n 0, 1) := by decide +kernel
theorem dX12_shortest_46 : decode cX12_shortest 46 = .ok (.getfield 546, 3) := by decide +kernel
theorem dX12_shortest_49 : decode cX12_shortest 49 = .ok (.if_icmp .le 5, 3) := by decide +kernel
theorem dX12_shortest_52 : decode cX12_shortest 52 = .ok (.iconst (-1), 1) := by decide +kernel
theorem dX12_shortest_53 : decode cX12_shortest 53 = .ok (.ireturn, 1) := by decide +kernel
theorem dX12_shortest_54 : decode cX12_shortest 54 = .ok (.aload_n 0, 1) := by decide +kernel
theorem dX12_shortest_55 : decode cX12_shortest 55 = .ok (.getfield 546, 3) := by decide +kernel
theorem dX12_shortest_58 : decode cX12_shortest 58 = .ok (.ifCond .ne 5, 3) := by decide +kernel
theorem dX12_shortest_61 : decode cX12_shortest 61 = .ok (.iconst 0, 1) := by decide +kernel
theorem dX12_shortest_62 : decode cX12_shortest 62 = .ok (.ireturn, 1) := by decide +kernel
theorem dX12_shortest_63 : decode cX12_shortest 63 = .ok (.aload_n 0, 1) := by decide +kernel
theorem dX12_shortest_64 : decode cX12_shortest 64 = .ok (.invokevirtual 586, 3) := by decide +kernel
theorem dX12_shortest_67 : decode cX12_shortest 67 = .ok (.iconst 0, 1) := by decide +kernel
theorem dX12_shortest_68 : decode cX12_shortest 68 = .ok (.istore 4, 2) := by decide +kernel
theorem dX12_shortest_70 : decode cX12_shortest 70 = .ok (.iload 4, 2) := by decide +kernel
theorem dX12_shortest_72 : decode cX12_shortest 72 = .ok (.sipush 896, 3) := by decide +kernel
theorem dX12_shortest_75 : decode cX12_shortest 75 = .ok (.if_icmp .ge 17, 3) := by decide +kernel
theorem dX12_shortest_78 : decode cX12_shortest 78 = .ok (.aload_n 0, 1) := by decide +kernel
theorem dX12_shortest_79 : decode cX12_shortest 79 = .ok (.getfield 180, 3) := by decide +kernel
theorem dX12_shortest_82 : decode cX12_shortest 82 = .ok (.iload 4, 2) := by decide +kernel
theorem dX12_shortest_84 : decode cX12_shortest 84 = .ok (.iconst (-1), 1) := by decide +kernel
theorem dX12_shortest_85 : decode cX12_shortest 85 = .ok (.iastore, 1) := by decide +kernel
theorem dX12_shortest_86 : decode cX12_shortest 86 = .ok (.iinc 4 1, 3) := by decide +kernel
theorem dX12_shortest_89 : decode cX12_shortest 89 = .ok (.goto (-19), 3) := by decide +kernel
theorem dX12_shortest_92 : decode cX12_shortest 92 = .ok (.iconst 1, 1) := by decide +kernel
theorem dX12_shortest_93 : decode cX12_shortest 93 = .ok (.aload_n 0, 1) := by decide +kernel
theorem dX12_shortest_94 : decode cX12_shortest 94 = .ok (.getfield 546, 3) := by decide +kernel
theorem dX12_shortest_97 : decode cX12_shortest 97 = .ok (.ishl, 1) := by decide +kernel
theorem dX12_shortest_98 : decode cX12_shortest 98 = .ok (.iconst 1, 1) := by decide +kernel
theorem dX12_shortest_99 : decode cX12_shortest 99 = .ok (.isub, 1) := by decide +kernel
theorem dX12_shortest_100 : decode cX12_shortest 100 = .ok (.istore 4, 2) := by decide +kernel
theorem dX12_shortest_102 : decode cX12_shortest 102 = .ok (.iconst (-1), 1) := by decide +kernel
theorem dX12_shortest_103 : decode cX12_shortest 103 = .ok (.istore 5, 2) := by decide +kernel
theorem dX12_shortest_105 : decode cX12_shortest 105 = .ok (.iconst 0, 1) := by decide +kernel
theorem dX12_shortest_106 : decode cX12_shortest 106 = .ok (.istore 6, 2) := by decide +kernel
theorem dX12_shortest_108 : decode cX12_shortest 108 = .ok (.iconst 0, 1) := by decide +kernel
theorem dX12_shortest_109 : decode cX12_shortest 109 = .ok (.istore 7, 2) := by decide +kernel
theorem dX12_shortest_111 : decode cX12_shortest 111 = .ok (.iload 7, 2) := by decide +kernel
theorem dX12_shortest_113 : decode cX12_shortest 113 = .ok (.aload_n 0, 1) := by decide +kernel
theorem dX12_shortest_114 : decode cX12_shortest 114 = .ok (.getfield 546, 3) := by decide +kernel
theorem dX12_shortest_117 : decode cX12_shortest 117 = .ok (.if_icmp .ge 64, 3) := by decide +kernel
theorem dX12_shortest_120 : decode cX12_shortest 120 = .ok (.aload_n 0, 1) := by decide +kernel
theorem dX12_shortest_121 : decode cX12_shortest 121 = .ok (.iload_n 1, 1) := by decide +kernel
theorem dX12_shortest_122 : decode cX12_shortest 122 = .ok (.aload_n 0, 1) := by decide +kernel
theorem dX12_shortest_123 : decode cX12_shortest 123 = .ok (.getfield 177, 3) := by decide +kernel
theorem dX12_shortest_126 : decode cX12_shortest 126 = .ok (.iload 7, 2) := by decide +kernel
theorem dX12_shortest_128 : decode cX12_shortest 128 = .ok (.iaload, 1) := by decide +kernel
theorem dX12_shortest_129 : decode cX12_shortest 129 = .ok (.invokevirtual 555, 3) := by decide +kernel
theorem dX12_shortest_132 : decode cX12_shortest 132 = .ok (.aload_n 0, 1) := by decide +kernel
theorem dX12_shortest_133 : decode cX12_shortest 133 = .ok (.iload_n 1, 1) := by decide +kernel
theorem dX12_shortest_134 : decode cX12_shortest 134 = .ok (.iload 7, 2) := by decide +kernel
theorem dX12_shortest_136 : decode cX12_shortest 136 = .ok (.iload 4, 2) := by decide +kernel
theorem dX12_shortest_138 : decode cX12_shortest 138 = .ok (.iconst 1, 1) := by decide +kernel
theorem dX12_shortest_139 : decode cX12_shortest 139 = .ok (.iload 7, 2) := by decide +kernel
theorem dX12_shortest_141 : decode cX12_shortest 141 = .ok (.ishl, 1) := by decide +kernel
theorem dX12_shortest_142 : decode cX12_shortest 142 = .ok (.iconst (-1), 1) := by decide +kernel
theorem dX12_shortest_143 : decode cX12_shortest 143 = .ok (.ixor, 1) := by decide +kernel
theorem dX12_shortest_144 : decode cX12_shortest 144 = .ok (.iand, 1) := by decide +kernel
theorem dX12_shortest_145 : decode cX12_shortest 145 = .ok (.invokevirtual 582, 3) := by decide +kernel
theorem dX12_shortest_148 : decode cX12_shortest 148 = .ok (.iadd, 1) := by decide +kernel
theorem dX12_shortest_149 : decode cX12_shortest 149 = .ok (.istore 8, 2) := by decide +kernel
theorem dX12_shortest_151 : decode cX12_shortest 151 = .ok (.iload 5, 2) := by decide +kernel
theorem dX12_shortest_153 : decode cX12_shortest 153 = .ok (.iconst (-1), 1) := by decide +kernel
theorem dX12_shortest_154 : decode cX12_shortest 154 = .ok (.if_icmp .eq 13, 3) := by decide +kernel
theorem dX12_shortest_157 : decode cX12_shortest 157 = .ok (.iload 8, 2) := by decide +kernel
theorem dX12_shortest_159 : decode cX12_shortest 159 = .ok (.iload 5, 2) := by decide +kernel
theorem dX12_shortest_161 : decode cX12_shortest 161 = .ok (.if_icmp .lt 6, 3) := by decide +kernel
theorem dX12_shortest_164 : decode cX12_shortest 164 = .ok (.goto 11, 3) := by decide +kernel
theorem dX12_shortest_167 : decode cX12_shortest 167 = .ok (.iload 8, 2) := by decide +kernel
theorem dX12_shortest_169 : decode cX12_shortest 169 = .ok (.istore 5, 2) := by decide +kernel
theorem dX12_shortest_171 : decode cX12_shortest 171 = .ok (.iload 7, 2) := by decide +kernel
theorem dX12_shortest_173 : decode cX12_shortest 173 = .ok (.istore 6, 2) := by decide +kernel
theorem dX12_shortest_175 : decode cX12_shortest 175 = .ok (.iinc 7 1, 3) := by decide +kernel
theorem dX12_shortest_178 : decode cX12_shortest 178 = .ok (.goto (-67), 3) := by decide +kernel
theorem dX12_shortest_181 : decode cX12_shortest 181 = .ok (.iload_n 3, 1) := by decide +kernel
theorem dX12_shortest_182 : decode cX12_shortest 182 = .ok (.ifCond .ne 6, 3) := by decide +kernel
theorem dX12_shortest_185 : decode cX12_shortest 185 = .ok (.iload 5, 2) := by decide +kernel
theorem dX12_shortest_187 : decode cX12_shortest 187 = .ok (.ireturn, 1) := by decide +kernel
theorem dX12_shortest_188 : decode cX12_shortest 188 = .ok (.iload 6, 2) := by decide +kernel
theorem dX12_shortest_190 : decode cX12_shortest 190 = .ok (.istore 7, 2) := by decide +kernel
theorem dX12_shortest_192 : decode cX12_shortest 192 = .ok (.iload 4, 2) := by decide +kernel
theorem dX12_shortest_194 : decode cX12_shortest 194 = .ok (.iconst 1, 1) := by decide +kernel
theorem dX12_shortest_195 : decode cX12_shortest 195 = .ok (.iload 7, 2) := by decide +kernel
theorem dX12_shortest_197 : decode cX12_shortest 197 = .ok (.ishl, 1) := by decide +kernel
theorem dX12_shortest_198 : decode cX12_shortest 198 = .ok (.iconst (-1), 1) := by decide +kernel
theorem dX12_shortest_199 : decode cX12_shortest 199 = .ok (.ixor, 1) := by decide +kernel
theorem dX12_shortest_200 : decode cX12_shortest 200 = .ok (.iand, 1) := by decide +kernel
theorem dX12_shortest_201 : decode cX12_shortest 201 = .ok (.istore 4, 2) := by decide +kernel
theorem dX12_shortest_203 : decode cX12_shortest 203 = .ok (.iconst 1, 1) := by decide +kernel
theorem dX12_shortest_204 : decode cX12_shortest 204 = .ok (.istore 8, 2) := by decide +kernel
theorem dX12_shortest_206 : decode cX12_shortest 206 = .ok (.iload 8, 2) := by decide +kernel
theorem dX12_shortest_208 : decode cX12_shortest 208 = .ok (.iload_n 3, 1) := by decide +kernel
theorem dX12_shortest_209 : decode cX12_shortest 209 = .ok (.if_icmp .ge 90, 3) := by decide +kernel
theorem dX12_shortest_212 : decode cX12_shortest 212 = .ok (.iconst 0, 1) := by decide +kernel
theorem dX12_shortest_213 : decode cX12_shortest 213 = .ok (.istore 9, 2) := by decide +kernel
theorem dX12_shortest_215 : decode cX12_shortest 215 = .ok (.iload 4, 2) := by decide +kernel
theorem dX12_shortest_217 : decode cX12_shortest 217 = .ok (.iload 9, 2) := by decide +kernel
theorem dX12_shortest_219 : decode cX12_shortest 219 = .ok (.ishr, 1) := by decide +kernel
theorem dX12_shortest_220 : decode cX12_shortest 220 = .ok (.iconst 1, 1) := by decide +kernel
theorem dX12_shortest_221 : decode cX12_shortest 221 = .ok (.iand, 1) := by decide +kernel
theorem dX12_shortest_222 : decode cX12_shortest 222 = .ok (.ifCond .eq 50, 3) := by decide +kernel
theorem dX12_shortest_225 : decode cX12_shortest 225 = .ok (.aload_n 0, 1) := by decide +kernel
theorem dX12_shortest_226 : decode cX12_shortest 226 = .ok (.aload_n 0, 1) := by decide +kernel
theorem dX12_shortest_227 : decode cX12_shortest 227 = .ok (.getfield 177, 3) := by decide +kernel
theorem dX12_shortest_230 : decode cX12_shortest 230 = .ok (.iload 7, 2) := by decide +kernel
theorem dX12_shortest_232 : decode cX12_shortest 232 = .ok (.iaload, 1) := by decide +kernel
theorem dX12_shortest_233 : decode cX12_shortest 233 = .ok (.aload_n 0, 1) := by decide +kernel
theorem dX12_shortest_234 : decode cX12_shortest 234 = .ok (.getfield 177, 3) := by decide +kernel
theorem dX12_shortest_237 : decode cX12_shortest 237 = .ok (.iload 9, 2) := by decide +kernel
theorem dX12_shortest_239 : decode cX12_shortest 239 = .ok (.iaload, 1) := by decide +kernel
theorem dX12_shortest_240 : decode cX12_shortest 240 = .ok (.invokevirtual 558, 3) := by decide +kernel
theorem dX12_shortest_243 : decode cX12_shortest 243 = .ok (.aload_n 0, 1) := by decide +kernel
theorem dX12_shortest_244 : decode cX12_shortest 244 = .ok (.iload_n 1, 1) := by decide +kernel
theorem dX12_shortest_245 : decode cX12_shortest 245 = .ok (.iload 9, 2) := by decide +kernel
theorem dX12_shortest_247 : decode cX12_shortest 247 = .ok (.iload 4, 2) := by decide +kernel
theorem dX12_shortest_249 : decode cX12_shortest 249 = .ok (.iconst 1, 1) := by decide +kernel
theorem dX12_shortest_250 : decode cX12_shortest 250 = .ok (.iload 9, 2) := by decide +kernel
theorem dX12_shortest_252 : decode cX12_shortest 252 = .ok (.ishl, 1) := by decide +kernel
theorem dX12_shortest_253 : decode cX12_shortest 253 = .ok (.iconst (-1), 1) := by decide +kernel
theorem dX12_shortest_254 : decode cX12_shortest 254 = .ok (.ixor, 1) := by decide +kernel
theorem dX12_shortest_255 : decode cX12_shortest 255 = .ok (.iand, 1) := by decide +kernel
theorem dX12_shortest_256 : decode cX12_shortest 256 = .ok (.invokevirtual 582, 3) := by decide +kernel
theorem dX12_shortest_259 : decode cX12_shortest 259 = .ok (.iadd, 1) := by decide +kernel
theorem dX12_shortest_260 : decode cX12_shortest 260 = .ok (.aload_n 0, 1) := by decide +kernel
theorem dX12_shortest_261 : decode cX12_shortest 261 = .ok (.iload_n 1, 1) := by decide +kernel
theorem dX12_shortest_262 : decode cX12_shortest 262 = .ok (.iload 7, 2) := by decide +kernel
theorem dX12_shortest_264 : decode cX12_shortest 264 = .ok (.iload 4, 2) := by decide +kernel
theorem dX12_shortest_266 : decode cX12_shortest 266 = .ok (.invokevirtual 582, 3) := by decide +kernel
theorem dX12_shortest_269 : decode cX12_shortest 269 = .ok (.if_icmp .eq 9, 3) := by decide +kernel
theorem dX12_shortest_272 : decode cX12_shortest 272 = .ok (.iinc 9 1, 3) := by decide +kernel
theorem dX12_shortest_275 : decode cX12_shortest 275 = .ok (.goto (-60), 3) := by decide +kernel
theorem dX12_shortest_278 : decode cX12_shortest 278 = .ok (.iload 9, 2) := by decide +kernel
theorem dX12_shortest_280 : decode cX12_shortest 280 = .ok (.istore 7, 2) := by decide +kernel
theorem dX12_shortest_282 : decode cX12_shortest 282 = .ok (.iload 4, 2) := by decide +kernel
theorem dX12_shortest_284 : decode cX12_shortest 284 = .ok (.iconst 1, 1) := by decide +kernel
theorem dX12_shortest_285 : decode cX12_shortest 285 = .ok (.iload 7, 2) := by decide +kernel
theorem dX12_shortest_287 : decode cX12_shortest 287 = .ok (.ishl, 1) := by decide +kernel
theorem dX12_shortest_288 : decode cX12_shortest 288 = .ok (.iconst (-1), 1) := by decide +kernel
theorem dX12_shortest_289 : decode cX12_shortest 289 = .ok (.ixor, 1) := by decide +kernel
theorem dX12_shortest_290 : decode cX12_shortest 290 = .ok (.iand, 1) := by decide +kernel
theorem dX12_shortest_291 : decode cX12_shortest 291 = .ok (.istore 4, 2) := by decide +kernel
theorem dX12_shortest_293 : decode cX12_shortest 293 = .ok (.iinc 8 1, 3) := by decide +kernel
theorem dX12_shortest_296 : decode cX12_shortest 296 = .ok (.goto (-90), 3) := by decide +kernel
theorem dX12_shortest_299 : decode cX12_shortest 299 = .ok (.aload_n 0, 1) := by decide +kernel
theorem dX12_shortest_300 : decode cX12_shortest 300 = .ok (.getfield 177, 3) := by decide +kernel
theorem dX12_shortest_303 : decode cX12_shortest 303 = .ok (.iload 7, 2) := by decide +kernel
theorem dX12_shortest_305 : decode cX12_shortest 305 = .ok (.iaload, 1) := by decide +kernel
theorem dX12_shortest_306 : decode cX12_shortest 306 = .ok (.ireturn, 1) := by decide +kernel
theorem dX12_rises_0 : decode cX12_rises 0 = .ok (.iconst 1, 1) := by decide +kernel
theorem dX12_rises_1 : decode cX12_rises 1 = .ok (.istore_n 1, 1) := by decide +kernel
theorem dX12_rises_2 : decode cX12_rises 2 = .ok (.iload_n 1, 1) := by decide +kernel
theorem dX12_rises_3 : decode cX12_rises 3 = .ok (.aload_n 0, 1) := by decide +kernel
theorem dX12_rises_4 : decode cX12_rises 4 = .ok (.getfield 546, 3) := by decide +kernel
theorem dX12_rises_7 : decode cX12_rises 7 = .ok (.if_icmp .ge 61, 3) := by decide +kernel
theorem dX12_rises_10 : decode cX12_rises 10 = .ok (.aload_n 0, 1) := by decide +kernel
theorem dX12_rises_11 : decode cX12_rises 11 = .ok (.getfield 177, 3) := by decide +kernel
theorem dX12_rises_14 : decode cX12_rises 14 = .ok (.iload_n 1, 1) := by decide +kernel
theorem dX12_rises_15 : decode cX12_rises 15 = .ok (.iaload, 1) := by decide +kernel
theorem dX12_rises_16 : decode cX12_rises 16 = .ok (.istore_n 2, 1) := by decide +kernel
theorem dX12_rises_17 : decode cX12_rises 17 = .ok (.iload_n 1, 1) := by decide +kernel
theorem dX12_rises_18 : decode cX12_rises 18 = .ok (.istore_n 3, 1) := by decide +kernel
theorem dX12_rises_19 : decode cX12_rises 19 = .ok (.iload_n 3, 1) := by decide +kernel
theorem dX12_rises_20 : decode cX12_rises 20 = .ok (.ifCond .le 35, 3) := by decide +kernel
theorem dX12_rises_23 : decode cX12_rises 23 = .ok (.aload_n 0, 1) := by decide +kernel
theorem dX12_rises_24 : decode cX12_rises 24 = .ok (.getfield 177, 3) := by decide +kernel
theorem dX12_rises_27 : decode cX12_rises 27 = .ok (.iload_n 3, 1) := by decide +kernel
theorem dX12_rises_28 : decode cX12_rises 28 = .ok (.iconst 1, 1) := by decide +kernel
theorem dX12_rises_29 : decode cX12_rises 29 = .ok (.isub, 1) := by decide +kernel
theorem dX12_rises_30 : decode cX12_rises 30 = .ok (.iaload, 1) := by decide +kernel
theorem dX12_rises_31 : decode cX12_rises 31 = .ok (.iload_n 2, 1) := by decide +kernel
theorem dX12_rises_32 : decode cX12_rises 32 = .ok (.if_icmp .le 23, 3) := by decide +kernel
theorem dX12_rises_35 : decode cX12_rises 35 = .ok (.aload_n 0, 1) := by decide +kernel
theorem dX12_rises_36 : decode cX12_rises 36 = .ok (.getfield 177, 3) := by decide +kernel
theorem dX12_rises_39 : decode cX12_rises 39 = .ok (.iload_n 3, 1) := by decide +kernel
theorem dX12_rises_40 : decode cX12_rises 40 = .ok (.aload_n 0, 1) := by decide +kernel
theorem dX12_rises_41 : decode cX12_rises 41 = .ok (.getfield 177, 3) := by decide +kernel
theorem dX12_rises_44 : decode cX12_rises 44 = .ok (.iload_n 3, 1) := by decide +kernel
theorem dX12_rises_45 : decode cX12_rises 45 = .ok (.iconst 1, 1) := by decide +kernel
theorem dX12_rises_46 : decode cX12_rises 46 = .ok (.isub, 1) := by decide +kernel
theorem dX12_rises_47 : decode cX12_rises 47 = .ok (.iaload, 1) := by decide +kernel
theorem dX12_rises_48 : decode cX12_rises 48 = .ok (.iastore, 1) := by decide +kernel
theorem dX12_rises_49 : decode cX12_rises 49 = .ok (.iinc 3 (-1), 3) := by decide +kernel
theorem dX12_rises_52 : decode cX12_rises 52 = .ok (.goto (-33), 3) := by decide +kernel
theorem dX12_rises_55 : decode cX12_rises 55 = .ok (.aload_n 0, 1) := by decide +kernel
theorem dX12_rises_56 : decode cX12_rises 56 = .ok (.getfield 177, 3) := by decide +kernel
theorem dX12_rises_59 : decode cX12_rises 59 = .ok (.iload_n 3, 1) := by decide +kernel
theorem dX12_rises_60 : decode cX12_rises 60 = .ok (.iload_n 2, 1) := by decide +kernel
theorem dX12_rises_61 : decode cX12_rises 61 = .ok (.iastore, 1) := by decide +kernel
theorem dX12_rises_62 : decode cX12_rises 62 = .ok (.iinc 1 1, 3) := by decide +kernel
theorem dX12_rises_65 : decode cX12_rises 65 = .ok (.goto (-63), 3) := by decide +kernel
theorem dX12_rises_68 : decode cX12_rises 68 = .ok (.return_, 1) := by decide +kernel
theorem dX12_walk_0 : decode cX12_walk 0 = .ok (.aload_n 0, 1) := by decide +kernel
theorem dX12_walk_1 : decode cX12_walk 1 = .ok (.iconst 0, 1) := by decide +kernel
theorem dX12_walk_2 : decode cX12_walk 2 = .ok (.putfield 195, 3) := by decide +kernel
theorem dX12_walk_5 : decode cX12_walk 5 = .ok (.aload_n 0, 1) := by decide +kernel
theorem dX12_walk_6 : decode cX12_walk 6 = .ok (.iload_n 1, 1) := by decide +kernel
theorem dX12_walk_7 : decode cX12_walk 7 = .ok (.invokevirtual 434, 3) := by decide +kernel
theorem dX12_walk_10 : decode cX12_walk 10 = .ok (.ifCond .eq 20, 3) := by decide +kernel
theorem dX12_walk_13 : decode cX12_walk 13 = .ok (.aload_n 0, 1) := by decide +kernel
theorem dX12_walk_14 : decode cX12_walk 14 = .ok (.iload_n 2, 1) := by decide +kernel
theorem dX12_walk_15 : decode cX12_walk 15 = .ok (.invokevirtual 434, 3) := by decide +kernel
theorem dX12_walk_18 : decode cX12_walk 18 = .ok (.ifCond .eq 12, 3) := by decide +kernel
theorem dX12_walk_21 : decode cX12_walk 21 = .ok (.aload_n 0, 1) := by decide +kernel
theorem dX12_walk_22 : decode cX12_walk 22 = .ok (.iload_n 1, 1) := by decide +kernel
theorem dX12_walk_23 : decode cX12_walk 23 = .ok (.iload_n 2, 1) := by decide +kernel
theorem dX12_walk_24 : decode cX12_walk 24 = .ok (.invokevirtual 558, 3) := by decide +kernel
theorem dX12_walk_27 : decode cX12_walk 27 = .ok (.goto 4, 3) := by decide +kernel
theorem dX12_walk_30 : decode cX12_walk 30 = .ok (.iconst (-1), 1) := by decide +kernel
theorem dX12_walk_31 : decode cX12_walk 31 = .ok (.ireturn, 1) := by decide +kernel
theorem dX12_worthOf_0 : decode cX12_worthOf 0 = .ok (.aload_n 0, 1) := by decide +kernel
theorem dX12_worthOf_1 : decode cX12_worthOf 1 = .ok (.getfield 87, 3) := by decide +kernel
theorem dX12_worthOf_4 : decode cX12_worthOf 4 = .ok (.iload_n 1, 1) := by decide +kernel
theorem dX12_worthOf_5 : decode cX12_worthOf 5 = .ok (.iaload, 1) := by decide +kernel
theorem dX12_worthOf_6 : decode cX12_worthOf 6 = .ok (.bipush 72, 2) := by decide +kernel
theorem dX12_worthOf_8 : decode cX12_worthOf 8 = .ok (.imul, 1) := by decide +kernel
theorem dX12_worthOf_9 : decode cX12_worthOf 9 = .ok (.aload_n 0, 1) := by decide +kernel
theorem dX12_worthOf_10 : decode cX12_worthOf 10 = .ok (.getfield 81, 3) := by decide +kernel
theorem dX12_worthOf_13 : decode cX12_worthOf 13 = .ok (.iload_n 1, 1) := by decide +kernel
theorem dX12_worthOf_14 : decode cX12_worthOf 14 = .ok (.iaload, 1) := by decide +kernel
theorem dX12_worthOf_15 : decode cX12_worthOf 15 = .ok (.idiv, 1) := by decide +kernel
theorem dX12_worthOf_16 : decode cX12_worthOf 16 = .ok (.ireturn, 1) := by decide +kernel
theorem dX12_sorts_0 : decode cX12_sorts 0 = .ok (.iconst 0, 1) := by decide +kernel
theorem dX12_sorts_1 : decode cX12_sorts 1 = .ok (.istore_n 1, 1) := by decide +kernel
theorem dX12_sorts_2 : decode cX12_sorts 2 = .ok (.iload_n 1, 1) := by decide +kernel
theorem dX12_sorts_3 : decode cX12_sorts 3 = .ok (.aload_n 0, 1) := by decide +kernel
theorem dX12_sorts_4 : decode cX12_sorts 4 = .ok (.getfield 403, 3) := by decide +kernel
theorem dX12_sorts_7 : decode cX12_sorts 7 = .ok (.if_icmp .ge 58, 3) := by decide +kernel
theorem dX12_sorts_10 : decode cX12_sorts 10 = .ok (.iload_n 1, 1) := by decide +kernel
theorem dX12_sorts_11 : decode cX12_sorts 11 = .ok (.istore_n 2, 1) := by decide +kernel
theorem dX12_sorts_12 : decode cX12_sorts 12 = .ok (.iload_n 2, 1) := by decide +kernel
theorem dX12_sorts_13 : decode cX12_sorts 13 = .ok (.ifCond .le 39, 3) := by decide +kernel
theorem dX12_sorts_16 : decode cX12_sorts 16 = .ok (.aload_n 0, 1) := by decide +kernel
theorem dX12_sorts_17 : decode cX12_sorts 17 = .ok (.aload_n 0, 1) := by decide +kernel
theorem dX12_sorts_18 : decode cX12_sorts 18 = .ok (.getfield 186, 3) := by decide +kernel
theorem dX12_sorts_21 : decode cX12_sorts 21 = .ok (.iload_n 2, 1) := by decide +kernel
theorem dX12_sorts_22 : decode cX12_sorts 22 = .ok (.iconst 1, 1) := by decide +kernel
theorem dX12_sorts_23 : decode cX12_sorts 23 = .ok (.isub, 1) := by decide +kernel
theorem dX12_sorts_24 : decode cX12_sorts 24 = .ok (.iaload, 1) := by decide +kernel
theorem dX12_sorts_25 : decode cX12_sorts 25 = .ok (.iload_n 1, 1) := by decide +kernel
theorem dX12_sorts_26 : decode cX12_sorts 26 = .ok (.invokevirtual 589, 3) := by decide +kernel
theorem dX12_sorts_29 : decode cX12_sorts 29 = .ok (.ifCond .eq 23, 3) := by decide +kernel
theorem dX12_sorts_32 : decode cX12_sorts 32 = .ok (.aload_n 0, 1) := by decide +kernel
theorem dX12_sorts_33 : decode cX12_sorts 33 = .ok (.getfield 186, 3) := by decide +kernel
theorem dX12_sorts_36 : decode cX12_sorts 36 = .ok (.iload_n 2, 1) := by decide +kernel
theorem dX12_sorts_37 : decode cX12_sorts 37 = .ok (.aload_n 0, 1) := by decide +kernel
theorem dX12_sorts_38 : decode cX12_sorts 38 = .ok (.getfield 186, 3) := by decide +kernel
theorem dX12_sorts_41 : decode cX12_sorts 41 = .ok (.iload_n 2, 1) := by decide +kernel
theorem dX12_sorts_42 : decode cX12_sorts 42 = .ok (.iconst 1, 1) := by decide +kernel
theorem dX12_sorts_43 : decode cX12_sorts 43 = .ok (.isub, 1) := by decide +kernel
theorem dX12_sorts_44 : decode cX12_sorts 44 = .ok (.iaload, 1) := by decide +kernel
theorem dX12_sorts_45 : decode cX12_sorts 45 = .ok (.iastore, 1) := by decide +kernel
theorem dX12_sorts_46 : decode cX12_sorts 46 = .ok (.iinc 2 (-1), 3) := by decide +kernel
theorem dX12_sorts_49 : decode cX12_sorts 49 = .ok (.goto (-37), 3) := by decide +kernel
theorem dX12_sorts_52 : decode cX12_sorts 52 = .ok (.aload_n 0, 1) := by decide +kernel
theorem dX12_sorts_53 : decode cX12_sorts 53 = .ok (.getfield 186, 3) := by decide +kernel
theorem dX12_sorts_56 : decode cX12_sorts 56 = .ok (.iload_n 2, 1) := by decide +kernel
theorem dX12_sorts_57 : decode cX12_sorts 57 = .ok (.iload_n 1, 1) := by decide +kernel
theorem dX12_sorts_58 : decode cX12_sorts 58 = .ok (.iastore, 1) := by decide +kernel
theorem dX12_sorts_59 : decode cX12_sorts 59 = .ok (.iinc 1 1, 3) := by decide +kernel
theorem dX12_sorts_62 : decode cX12_sorts 62 = .ok (.goto (-60), 3) := by decide +kernel
theorem dX12_sorts_65 : decode cX12_sorts 65 = .ok (.return_, 1) := by decide +kernel
theorem dX12_isBehind_0 : decode cX12_isBehind 0 = .ok (.aload_n 0, 1) := by decide +kernel
theorem dX12_isBehind_1 : decode cX12_isBehind 1 = .ok (.getfield 75, 3) := by decide +kernel
theorem dX12_isBehind_4 : decode cX12_isBehind 4 = .ok (.iload_n 1, 1) := by decide +kernel
theorem dX12_isBehind_5 : decode cX12_isBehind 5 = .ok (.iaload, 1) := by decide +kernel
theorem dX12_isBehind_6 : decode cX12_isBehind 6 = .ok (.aload_n 0, 1) := by decide +kernel
theorem dX12_isBehind_7 : decode cX12_isBehind 7 = .ok (.getfield 75, 3) := by decide +kernel
theorem dX12_isBehind_10 : decode cX12_isBehind 10 = .ok (.iload_n 2, 1) := by decide +kernel
theorem dX12_isBehind_11 : decode cX12_isBehind 11 = .ok (.iaload, 1) := by decide +kernel
theorem dX12_isBehind_12 : decode cX12_isBehind 12 = .ok (.if_icmp .gt 33, 3) := by decide +kernel
theorem dX12_isBehind_15 : decode cX12_isBehind 15 = .ok (.aload_n 0, 1) := by decide +kernel
theorem dX12_isBehind_16 : decode cX12_isBehind 16 = .ok (.getfield 75, 3) := by decide +kernel
theorem dX12_isBehind_19 : decode cX12_isBehind 19 = .ok (.iload_n 1, 1) := by decide +kernel
theorem dX12_isBehind_20 : decode cX12_isBehind 20 = .ok (.iaload, 1) := by decide +kernel
theorem dX12_isBehind_21 : decode cX12_isBehind 21 = .ok (.aload_n 0, 1) := by decide +kernel
theorem dX12_isBehind_22 : decode cX12_isBehind 22 = .ok (.getfield 75, 3) := by decide +kernel
theorem dX12_isBehind_25 : decode cX12_isBehind 25 = .ok (.iload_n 2, 1) := by decide +kernel
theorem dX12_isBehind_26 : decode cX12_isBehind 26 = .ok (.iaload, 1) := by decide +kernel
theorem dX12_isBehind_27 : decode cX12_isBehind 27 = .ok (.if_icmp .ne 22, 3) := by decide +kernel
theorem dX12_isBehind_30 : decode cX12_isBehind 30 = .ok (.aload_n 0, 1) := by decide +kernel
theorem dX12_isBehind_31 : decode cX12_isBehind 31 = .ok (.getfield 78, 3) := by decide +kernel
theorem dX12_isBehind_34 : decode cX12_isBehind 34 = .ok (.iload_n 1, 1) := by decide +kernel
theorem dX12_isBehind_35 : decode cX12_isBehind 35 = .ok (.iaload, 1) := by decide +kernel
theorem dX12_isBehind_36 : decode cX12_isBehind 36 = .ok (.aload_n 0, 1) := by decide +kernel
theorem dX12_isBehind_37 : decode cX12_isBehind 37 = .ok (.getfield 78, 3) := by decide +kernel
theorem dX12_isBehind_40 : decode cX12_isBehind 40 = .ok (.iload_n 2, 1) := by decide +kernel
theorem dX12_isBehind_41 : decode cX12_isBehind 41 = .ok (.iaload, 1) := by decide +kernel
theorem dX12_isBehind_42 : decode cX12_isBehind 42 = .ok (.if_icmp .le 7, 3) := by decide +kernel
theorem dX12_isBehind_45 : decode cX12_isBehind 45 = .ok (.iconst 1, 1) := by decide +kernel
theorem dX12_isBehind_46 : decode cX12_isBehind 46 = .ok (.goto 4, 3) := by decide +kernel
theorem dX12_isBehind_49 : decode cX12_isBehind 49 = .ok (.iconst 0, 1) := by decide +kernel
theorem dX12_isBehind_50 : decode cX12_isBehind 50 = .ok (.ireturn, 1) := by decide +kernel
theorem dX12_tourOf_0 : decode cX12_tourOf 0 = .ok (.iconst (-1), 1) := by decide +kernel
theorem dX12_tourOf_1 : decode cX12_tourOf 1 = .ok (.istore_n 2, 1) := by decide +kernel
theorem dX12_tourOf_2 : decode cX12_tourOf 2 = .ok (.iconst 0, 1) := by decide +kernel
theorem dX12_tourOf_3 : decode cX12_tourOf 3 = .ok (.istore_n 3, 1) := by decide +kernel
theorem dX12_tourOf_4 : decode cX12_tourOf 4 = .ok (.iconst 0, 1) := by decide +kernel
theorem dX12_tourOf_5 : decode cX12_tourOf 5 = .ok (.istore 4, 2) := by decide +kernel
theorem dX12_tourOf_7 : decode cX12_tourOf 7 = .ok (.iload 4, 2) := by decide +kernel
theorem dX12_tourOf_9 : decode cX12_tourOf 9 = .ok (.aload_n 0, 1) := by decide +kernel
theorem dX12_tourOf_10 : decode cX12_tourOf 10 = .ok (.getfield 403, 3) := by decide +kernel
theorem dX12_tourOf_13 : decode cX12_tourOf 13 = .ok (.if_icmp .ge 60, 3) := by decide +kernel
theorem dX12_tourOf_16 : decode cX12_tourOf 16 = .ok (.aload_n 0, 1) := by decide +kernel
theorem dX12_tourOf_17 : decode cX12_tourOf 17 = .ok (.getfield 186, 3) := by decide +kernel
theorem dX12_tourOf_20 : decode cX12_tourOf 20 = .ok (.iload 4, 2) := by decide +kernel
theorem dX12_tourOf_22 : decode cX12_tourOf 22 = .ok (.iaload, 1) := by decide +kernel
theorem dX12_tourOf_23 : decode cX12_tourOf 23 = .ok (.istore 5, 2) := by decide +kernel
theorem dX12_tourOf_25 : decode cX12_tourOf 25 = .ok (.aload_n 0, 1) := by decide +kernel
theorem dX12_tourOf_26 : decode cX12_tourOf 26 = .ok (.getfield 183, 3) := by decide +kernel
theorem dX12_tourOf_29 : decode cX12_tourOf 29 = .ok (.iload 5, 2) := by decide +kernel
theorem dX12_tourOf_31 : decode cX12_tourOf 31 = .ok (.iaload, 1) := by decide +kernel
theorem dX12_tourOf_32 : decode cX12_tourOf 32 = .ok (.iload_n 1, 1) := by decide +kernel
theorem dX12_tourOf_33 : decode cX12_tourOf 33 = .ok (.if_icmp .eq 6, 3) := by decide +kernel
theorem dX12_tourOf_36 : decode cX12_tourOf 36 = .ok (.goto 31, 3) := by decide +kernel
theorem dX12_tourOf_39 : decode cX12_tourOf 39 = .ok (.iload_n 3, 1) := by decide +kernel
theorem dX12_tourOf_40 : decode cX12_tourOf 40 = .ok (.iload_n 2, 1) := by decide +kernel
theorem dX12_tourOf_41 : decode cX12_tourOf 41 = .ok (.iconst (-1), 1) := by decide +kernel
theorem dX12_tourOf_42 : decode cX12_tourOf 42 = .ok (.if_icmp .ne 13, 3) := by decide +kernel
theorem dX12_tourOf_45 : decode cX12_tourOf 45 = .ok (.aload_n 0, 1) := by decide +kernel
theorem dX12_tourOf_46 : decode cX12_tourOf 46 = .ok (.iload_n 1, 1) := by decide +kernel
theorem dX12_tourOf_47 : decode cX12_tourOf 47 = .ok (.iload 5, 2) := by decide +kernel
theorem dX12_tourOf_49 : decode cX12_tourOf 49 = .ok (.invokevirtual 555, 3) := by decide +kernel
theorem dX12_tourOf_52 : decode cX12_tourOf 52 = .ok (.goto 10, 3) := by decide +kernel
theorem dX12_tourOf_55 : decode cX12_tourOf 55 = .ok (.aload_n 0, 1) := by decide +kernel
theorem dX12_tourOf_56 : decode cX12_tourOf 56 = .ok (.iload_n 2, 1) := by decide +kernel
theorem dX12_tourOf_57 : decode cX12_tourOf 57 = .ok (.iload 5, 2) := by decide +kernel
theorem dX12_tourOf_59 : decode cX12_tourOf 59 = .ok (.invokevirtual 558, 3) := by decide +kernel
theorem dX12_tourOf_62 : decode cX12_tourOf 62 = .ok (.iadd, 1) := by decide +kernel
theorem dX12_tourOf_63 : decode cX12_tourOf 63 = .ok (.istore_n 3, 1) := by decide +kernel
theorem dX12_tourOf_64 : decode cX12_tourOf 64 = .ok (.iload 5, 2) := by decide +kernel
theorem dX12_tourOf_66 : decode cX12_tourOf 66 = .ok (.istore_n 2, 1) := by decide +kernel
theorem dX12_tourOf_67 : decode cX12_tourOf 67 = .ok (.iinc 4 1, 3) := by decide +kernel
theorem dX12_tourOf_70 : decode cX12_tourOf 70 = .ok (.goto (-63), 3) := by decide +kernel
theorem dX12_tourOf_73 : decode cX12_tourOf 73 = .ok (.iload_n 2, 1) := by decide +kernel
theorem dX12_tourOf_74 : decode cX12_tourOf 74 = .ok (.iconst (-1), 1) := by decide +kernel
theorem dX12_tourOf_75 : decode cX12_tourOf 75 = .ok (.if_icmp .ne 7, 3) := by decide +kernel
theorem dX12_tourOf_78 : decode cX12_tourOf 78 = .ok (.iconst 0, 1) := by decide +kernel
theorem dX12_tourOf_79 : decode cX12_tourOf 79 = .ok (.goto 11, 3) := by decide +kernel
theorem dX12_tourOf_82 : decode cX12_tourOf 82 = .ok (.iload_n 3, 1) := by decide +kernel
theorem dX12_tourOf_83 : decode cX12_tourOf 83 = .ok (.aload_n 0, 1) := by decide +kernel
theorem dX12_tourOf_84 : decode cX12_tourOf 84 = .ok (.iload_n 1, 1) := by decide +kernel
theorem dX12_tourOf_85 : decode cX12_tourOf 85 = .ok (.iload_n 2, 1) := by decide +kernel
theorem dX12_tourOf_86 : decode cX12_tourOf 86 = .ok (.invokevirtual 555, 3) := by decide +kernel
theorem dX12_tourOf_89 : decode cX12_tourOf 89 = .ok (.iadd, 1) := by decide +kernel
theorem dX12_tourOf_90 : decode cX12_tourOf 90 = .ok (.ireturn, 1) := by decide +kernel
theorem dX12_sharesNow_0 : decode cX12_sharesNow 0 = .ok (.aload_n 0, 1) := by decide +kernel
theorem dX12_sharesNow_1 : decode cX12_sharesNow 1 = .ok (.invokevirtual 592, 3) := by decide +kernel
theorem dX12_sharesNow_4 : decode cX12_sharesNow 4 = .ok (.iconst 0, 1) := by decide +kernel
theorem dX12_sharesNow_5 : decode cX12_sharesNow 5 = .ok (.istore_n 1, 1) := by decide +kernel
theorem dX12_sharesNow_6 : decode cX12_sharesNow 6 = .ok (.iload_n 1, 1) := by decide +kernel
theorem dX12_sharesNow_7 : decode cX12_sharesNow 7 = .ok (.aload_n 0, 1) := by decide +kernel
theorem dX12_sharesNow_8 : decode cX12_sharesNow 8 = .ok (.getfield 403, 3) := by decide +kernel
theorem dX12_sharesNow_11 : decode cX12_sharesNow 11 = .ok (.if_icmp .ge 21, 3) := by decide +kernel
theorem dX12_sharesNow_14 : decode cX12_sharesNow 14 = .ok (.aload_n 0, 1) := by decide +kernel
theorem dX12_sharesNow_15 : decode cX12_sharesNow 15 = .ok (.getfield 183, 3) := by decide +kernel
theorem dX12_sharesNow_18 : decode cX12_sharesNow 18 = .ok (.iload_n 1, 1) := by decide +kernel
theorem dX12_sharesNow_19 : decode cX12_sharesNow 19 = .ok (.aload_n 0, 1) := by decide +kernel
theorem dX12_sharesNow_20 : decode cX12_sharesNow 20 = .ok (.getfield 146, 3) := by decide +kernel
theorem dX12_sharesNow_23 : decode cX12_sharesNow 23 = .ok (.iload_n 1, 1) := by decide +kernel
theorem dX12_sharesNow_24 : decode cX12_sharesNow 24 = .ok (.iaload, 1) := by decide +kernel
theorem dX12_sharesNow_25 : decode cX12_sharesNow 25 = .ok (.iastore, 1) := by decide +kernel
theorem dX12_sharesNow_26 : decode cX12_sharesNow 26 = .ok (.iinc 1 1, 3) := by decide +kernel
theorem dX12_sharesNow_29 : decode cX12_sharesNow 29 = .ok (.goto (-23), 3) := by decide +kernel
theorem dX12_sharesNow_32 : decode cX12_sharesNow 32 = .ok (.return_, 1) := by decide +kernel
theorem dX12_worthBy_0 : decode cX12_worthBy 0 = .ok (.iconst 0, 1) := by decide +kernel
theorem dX12_worthBy_1 : decode cX12_worthBy 1 = .ok (.istore_n 2, 1) := by decide +kernel
theorem dX12_worthBy_2 : decode cX12_worthBy 2 = .ok (.iconst 0, 1) := by decide +kernel
theorem dX12_worthBy_3 : decode cX12_worthBy 3 = .ok (.istore_n 3, 1) := by decide +kernel
theorem dX12_worthBy_4 : decode cX12_worthBy 4 = .ok (.iload_n 3, 1) := by decide +kernel
theorem dX12_worthBy_5 : decode cX12_worthBy 5 = .ok (.aload_n 0, 1) := by decide +kernel
theorem dX12_worthBy_6 : decode cX12_worthBy 6 = .ok (.getfield 403, 3) := by decide +kernel
theorem dX12_worthBy_9 : decode cX12_worthBy 9 = .ok (.if_icmp .ge 31, 3) := by decide +kernel
theorem dX12_worthBy_12 : decode cX12_worthBy 12 = .ok (.iload_n 2, 1) := by decide +kernel
theorem dX12_worthBy_13 : decode cX12_worthBy 13 = .ok (.aload_n 0, 1) := by decide +kernel
theorem dX12_worthBy_14 : decode cX12_worthBy 14 = .ok (.getfield 183, 3) := by decide +kernel
theorem dX12_worthBy_17 : decode cX12_worthBy 17 = .ok (.iload_n 3, 1) := by decide +kernel
theorem dX12_worthBy_18 : decode cX12_worthBy 18 = .ok (.iaload, 1) := by decide +kernel
theorem dX12_worthBy_19 : decode cX12_worthBy 19 = .ok (.iload_n 1, 1) := by decide +kernel
theorem dX12_worthBy_20 : decode cX12_worthBy 20 = .ok (.if_icmp .ne 11, 3) := by decide +kernel
theorem dX12_worthBy_23 : decode cX12_worthBy 23 = .ok (.aload_n 0, 1) := by decide +kernel
theorem dX12_worthBy_24 : decode cX12_worthBy 24 = .ok (.iload_n 3, 1) := by decide +kernel
theorem dX12_worthBy_25 : decode cX12_worthBy 25 = .ok (.invokevirtual 595, 3) := by decide +kernel
theorem dX12_worthBy_28 : decode cX12_worthBy 28 = .ok (.goto 4, 3) := by decide +kernel
theorem dX12_worthBy_31 : decode cX12_worthBy 31 = .ok (.iconst 0, 1) := by decide +kernel
theorem dX12_worthBy_32 : decode cX12_worthBy 32 = .ok (.iadd, 1) := by decide +kernel
theorem dX12_worthBy_33 : decode cX12_worthBy 33 = .ok (.istore_n 2, 1) := by decide +kernel
theorem dX12_worthBy_34 : decode cX12_worthBy 34 = .ok (.iinc 3 1, 3) := by decide +kernel
theorem dX12_worthBy_37 : decode cX12_worthBy 37 = .ok (.goto (-33), 3) := by decide +kernel
theorem dX12_worthBy_40 : decode cX12_worthBy 40 = .ok (.iload_n 2, 1) := by decide +kernel
theorem dX12_worthBy_41 : decode cX12_worthBy 41 = .ok (.ireturn, 1) := by decide +kernel
theorem dX12_worth_0 : decode cX12_worth 0 = .ok (.aload_n 0, 1) := by decide +kernel
theorem dX12_worth_1 : decode cX12_worth 1 = .ok (.iconst 0, 1) := by decide +kernel
theorem dX12_worth_2 : decode cX12_worth 2 = .ok (.putfield 195, 3) := by decide +kernel
theorem dX12_worth_5 : decode cX12_worth 5 = .ok (.aload_n 0, 1) := by decide +kernel
theorem dX12_worth_6 : decode cX12_worth 6 = .ok (.iload_n 1, 1) := by decide +kernel
theorem dX12_worth_7 : decode cX12_worth 7 = .ok (.invokevirtual 522, 3) := by decide +kernel
theorem dX12_worth_10 : decode cX12_worth 10 = .ok (.ifCond .ne 5, 3) := by decide +kernel
theorem dX12_worth_13 : decode cX12_worth 13 = .ok (.iconst (-1), 1) := by decide +kernel
theorem dX12_worth_14 : decode cX12_worth 14 = .ok (.ireturn, 1) := by decide +kernel
theorem dX12_worth_15 : decode cX12_worth 15 = .ok (.aload_n 0, 1) := by decide +kernel
theorem dX12_worth_16 : decode cX12_worth 16 = .ok (.invokevirtual 598, 3) := by decide +kernel
theorem dX12_worth_19 : decode cX12_worth 19 = .ok (.aload_n 0, 1) := by decide +kernel
theorem dX12_worth_20 : decode cX12_worth 20 = .ok (.iload_n 1, 1) := by decide +kernel
theorem dX12_worth_21 : decode cX12_worth 21 = .ok (.invokevirtual 601, 3) := by decide +kernel
theorem dX12_worth_24 : decode cX12_worth 24 = .ok (.ireturn, 1) := by decide +kernel
theorem dX12_tour_0 : decode cX12_tour 0 = .ok (.aload_n 0, 1) := by decide +kernel
theorem dX12_tour_1 : decode cX12_tour 1 = .ok (.iconst 0, 1) := by decide +kernel
theorem dX12_tour_2 : decode cX12_tour 2 = .ok (.putfield 195, 3) := by decide +kernel
theorem dX12_tour_5 : decode cX12_tour 5 = .ok (.aload_n 0, 1) := by decide +kernel
theorem dX12_tour_6 : decode cX12_tour 6 = .ok (.iload_n 1, 1) := by decide +kernel
theorem dX12_tour_7 : decode cX12_tour 7 = .ok (.invokevirtual 522, 3) := by decide +kernel
theorem dX12_tour_10 : decode cX12_tour 10 = .ok (.ifCond .ne 5, 3) := by decide +kernel
theorem dX12_tour_13 : decode cX12_tour 13 = .ok (.iconst (-1), 1) := by decide +kernel
theorem dX12_tour_14 : decode cX12_tour 14 = .ok (.ireturn, 1) := by decide +kernel
theorem dX12_tour_15 : decode cX12_tour 15 = .ok (.aload_n 0, 1) := by decide +kernel
theorem dX12_tour_16 : decode cX12_tour 16 = .ok (.invokevirtual 598, 3) := by decide +kernel
theorem dX12_tour_19 : decode cX12_tour 19 = .ok (.aload_n 0, 1) := by decide +kernel
theorem dX12_tour_20 : decode cX12_tour 20 = .ok (.iload_n 1, 1) := by decide +kernel
theorem dX12_tour_21 : decode cX12_tour 21 = .ok (.invokevirtual 604, 3) := by decide +kernel
theorem dX12_tour_24 : decode cX12_tour 24 = .ok (.ireturn, 1) := by decide +kernel
theorem dX12_swap_0 : decode cX12_swap 0 = .ok (.aload_n 0, 1) := by decide +kernel
theorem dX12_swap_1 : decode cX12_swap 1 = .ok (.iconst 0, 1) := by decide +kernel
theorem dX12_swap_2 : decode cX12_swap 2 = .ok (.putfield 195, 3) := by decide +kernel
theorem dX12_swap_5 : decode cX12_swap 5 = .ok (.aload_n 0, 1) := by decide +kernel
theorem dX12_swap_6 : decode cX12_swap 6 = .ok (.getfield 400, 3) := by decide +kernel
theorem dX12_swap_9 : decode cX12_swap 9 = .ok (.ifCond .eq 26, 3) := by decide +kernel
theorem dX12_swap_12 : decode cX12_swap 12 = .ok (.iload_n 1, 1) := by decide +kernel
theorem dX12_swap_13 : decode cX12_swap 13 = .ok (.ifCond .lt 22, 3) := by decide +kernel
theorem dX12_swap_16 : decode cX12_swap 16 = .ok (.iload_n 1, 1) := by decide +kernel
theorem dX12_swap_17 : decode cX12_swap 17 = .ok (.sipush 9999, 3) := by decide +kernel
theorem dX12_swap_20 : decode cX12_swap 20 = .ok (.if_icmp .gt 15, 3) := by decide +kernel
theorem dX12_swap_23 : decode cX12_swap 23 = .ok (.iload_n 2, 1) := by decide +kernel
theorem dX12_swap_24 : decode cX12_swap 24 = .ok (.ifCond .lt 11, 3) := by decide +kernel
theorem dX12_swap_27 : decode cX12_swap 27 = .ok (.iload_n 2, 1) := by decide +kernel
theorem dX12_swap_28 : decode cX12_swap 28 = .ok (.aload_n 0, 1) := by decide +kernel
theorem dX12_swap_29 : decode cX12_swap 29 = .ok (.getfield 403, 3) := by decide +kernel
theorem dX12_swap_32 : decode cX12_swap 32 = .ok (.if_icmp .le 5, 3) := by decide +kernel
theorem dX12_swap_35 : decode cX12_swap 35 = .ok (.iconst (-1), 1) := by decide +kernel
theorem dX12_swap_36 : decode cX12_swap 36 = .ok (.ireturn, 1) := by decide +kernel
theorem dX12_swap_37 : decode cX12_swap 37 = .ok (.aload_n 0, 1) := by decide +kernel
theorem dX12_swap_38 : decode cX12_swap 38 = .ok (.invokevirtual 598, 3) := by decide +kernel
theorem dX12_swap_41 : decode cX12_swap 41 = .ok (.iconst 0, 1) := by decide +kernel
theorem dX12_swap_42 : decode cX12_swap 42 = .ok (.istore_n 3, 1) := by decide +kernel
theorem dX12_swap_43 : decode cX12_swap 43 = .ok (.iload_n 3, 1) := by decide +kernel
theorem dX12_swap_44 : decode cX12_swap 44 = .ok (.aload_n 0, 1) := by decide +kernel
theorem dX12_swap_45 : decode cX12_swap 45 = .ok (.getfield 400, 3) := by decide +kernel
theorem dX12_swap_48 : decode cX12_swap 48 = .ok (.if_icmp .ge 20, 3) := by decide +kernel
theorem dX12_swap_51 : decode cX12_swap 51 = .ok (.aload_n 0, 1) := by decide +kernel
theorem dX12_swap_52 : decode cX12_swap 52 = .ok (.getfield 192, 3) := by decide +kernel
theorem dX12_swap_55 : decode cX12_swap 55 = .ok (.iload_n 3, 1) := by decide +kernel
theorem dX12_swap_56 : decode cX12_swap 56 = .ok (.aload_n 0, 1) := by decide +kernel
theorem dX12_swap_57 : decode cX12_swap 57 = .ok (.iload_n 3, 1) := by decide +kernel
theorem dX12_swap_58 : decode cX12_swap 58 = .ok (.invokevirtual 601, 3) := by decide +kernel
theorem dX12_swap_61 : decode cX12_swap 61 = .ok (.iastore, 1) := by decide +kernel
theorem dX12_swap_62 : decode cX12_swap 62 = .ok (.iinc 3 1, 3) := by decide +kernel
theorem dX12_swap_65 : decode cX12_swap 65 = .ok (.goto (-22), 3) := by decide +kernel
theorem dX12_swap_68 : decode cX12_swap 68 = .ok (.aload_n 0, 1) := by decide +kernel
theorem dX12_swap_69 : decode cX12_swap 69 = .ok (.iconst (-1), 1) := by decide +kernel
theorem dX12_swap_70 : decode cX12_swap 70 = .ok (.putfield 607, 3) := by decide +kernel
theorem dX12_swap_73 : decode cX12_swap 73 = .ok (.aload_n 0, 1) := by decide +kernel
theorem dX12_swap_74 : decode cX12_swap 74 = .ok (.iconst 0, 1) := by decide +kernel
theorem dX12_swap_75 : decode cX12_swap 75 = .ok (.iload_n 1, 1) := by decide +kernel
theorem dX12_swap_76 : decode cX12_swap 76 = .ok (.invokevirtual 610, 3) := by decide +kernel
theorem dX12_swap_79 : decode cX12_swap 79 = .ok (.iload_n 2, 1) := by decide +kernel
theorem dX12_swap_80 : decode cX12_swap 80 = .ok (.ifCond .ne 10, 3) := by decide +kernel
theorem dX12_swap_83 : decode cX12_swap 83 = .ok (.aload_n 0, 1) := by decide +kernel
theorem dX12_swap_84 : decode cX12_swap 84 = .ok (.getfield 607, 3) := by decide +kernel
theorem dX12_swap_87 : decode cX12_swap 87 = .ok (.goto 11, 3) := by decide +kernel
theorem dX12_swap_90 : decode cX12_swap 90 = .ok (.aload_n 0, 1) := by decide +kernel
theorem dX12_swap_91 : decode cX12_swap 91 = .ok (.getfield 189, 3) := by decide +kernel
theorem dX12_swap_94 : decode cX12_swap 94 = .ok (.iload_n 2, 1) := by decide +kernel
theorem dX12_swap_95 : decode cX12_swap 95 = .ok (.iconst 1, 1) := by decide +kernel
theorem dX12_swap_96 : decode cX12_swap 96 = .ok (.isub, 1) := by decide +kernel
theorem dX12_swap_97 : decode cX12_swap 97 = .ok (.iaload, 1) := by decide +kernel
theorem dX12_swap_98 : decode cX12_swap 98 = .ok (.ireturn, 1) := by decide +kernel
theorem dX12_shares_0 : decode cX12_shares 0 = .ok (.iload_n 1, 1) := by decide +kernel
theorem dX12_shares_1 : decode cX12_shares 1 = .ok (.aload_n 0, 1) := by decide +kernel
theorem dX12_shares_2 : decode cX12_shares 2 = .ok (.getfield 403, 3) := by decide +kernel
theorem dX12_shares_5 : decode cX12_shares 5 = .ok (.if_icmp .ge 35, 3) := by decide +kernel
theorem dX12_shares_8 : decode cX12_shares 8 = .ok (.iconst 0, 1) := by decide +kernel
theorem dX12_shares_9 : decode cX12_shares 9 = .ok (.istore_n 3, 1) := by decide +kernel
theorem dX12_shares_10 : decode cX12_shares 10 = .ok (.iload_n 3, 1) := by decide +kernel
theorem dX12_shares_11 : decode cX12_shares 11 = .ok (.aload_n 0, 1) := by decide +kernel
theorem dX12_shares_12 : decode cX12_shares 12 = .ok (.getfield 400, 3) := by decide +kernel
theorem dX12_shares_15 : decode cX12_shares 15 = .ok (.if_icmp .ge 24, 3) := by decide +kernel
theorem dX12_shares_18 : decode cX12_shares 18 = .ok (.aload_n 0, 1) := by decide +kernel
theorem dX12_shares_19 : decode cX12_shares 19 = .ok (.getfield 183, 3) := by decide +kernel
theorem dX12_shares_22 : decode cX12_shares 22 = .ok (.iload_n 1, 1) := by decide +kernel
theorem dX12_shares_23 : decode cX12_shares 23 = .ok (.iload_n 3, 1) := by decide +kernel
theorem dX12_shares_24 : decode cX12_shares 24 = .ok (.iastore, 1) := by decide +kernel
theorem dX12_shares_25 : decode cX12_shares 25 = .ok (.aload_n 0, 1) := by decide +kernel
theorem dX12_shares_26 : decode cX12_shares 26 = .ok (.iload_n 1, 1) := by decide +kernel
theorem dX12_shares_27 : decode cX12_shares 27 = .ok (.iconst 1, 1) := by decide +kernel
theorem dX12_shares_28 : decode cX12_shares 28 = .ok (.iadd, 1) := by decide +kernel
theorem dX12_shares_29 : decode cX12_shares 29 = .ok (.iload_n 2, 1) := by decide +kernel
theorem dX12_shares_30 : decode cX12_shares 30 = .ok (.invokevirtual 610, 3) := by decide +kernel
theorem dX12_shares_33 : decode cX12_shares 33 = .ok (.iinc 3 1, 3) := by decide +kernel
theorem dX12_shares_36 : decode cX12_shares 36 = .ok (.goto (-26), 3) := by decide +kernel
theorem dX12_shares_39 : decode cX12_shares 39 = .ok (.return_, 1) := by decide +kernel
theorem dX12_shares_40 : decode cX12_shares 40 = .ok (.iconst 0, 1) := by decide +kernel
theorem dX12_shares_41 : decode cX12_shares 41 = .ok (.istore_n 3, 1) := by decide +kernel
theorem dX12_shares_42 : decode cX12_shares 42 = .ok (.iconst 0, 1) := by decide +kernel
theorem dX12_shares_43 : decode cX12_shares 43 = .ok (.istore 4, 2) := by decide +kernel
theorem dX12_shares_45 : decode cX12_shares 45 = .ok (.iload 4, 2) := by decide +kernel
theorem dX12_shares_47 : decode cX12_shares 47 = .ok (.aload_n 0, 1) := by decide +kernel
theorem dX12_shares_48 : decode cX12_shares 48 = .ok (.getfield 400, 3) := by decide +kernel
theorem dX12_shares_51 : decode cX12_shares 51 = .ok (.if_icmp .ge 37, 3) := by decide +kernel
theorem dX12_shares_54 : decode cX12_shares 54 = .ok (.aload_n 0, 1) := by decide +kernel
theorem dX12_shares_55 : decode cX12_shares 55 = .ok (.iload 4, 2) := by decide +kernel
theorem dX12_shares_57 : decode cX12_shares 57 = .ok (.invokevirtual 601, 3) := by decide +kernel
theorem dX12_shares_60 : decode cX12_shares 60 = .ok (.aload_n 0, 1) := by decide +kernel
theorem dX12_shares_61 : decode cX12_shares 61 = .ok (.getfield 192, 3) := by decide +kernel
theorem dX12_shares_64 : decode cX12_shares 64 = .ok (.iload 4, 2) := by decide +kernel
theorem dX12_shares_66 : decode cX12_shares 66 = .ok (.iaload, 1) := by decide +kernel
theorem dX12_shares_67 : decode cX12_shares 67 = .ok (.iload_n 2, 1) := by decide +kernel
theorem dX12_shares_68 : decode cX12_shares 68 = .ok (.isub, 1) := by decide +kernel
theorem dX12_shares_69 : decode cX12_shares 69 = .ok (.if_icmp .ge 4, 3) := by decide +kernel
theorem dX12_shares_72 : decode cX12_shares 72 = .ok (.return_, 1) := by decide +kernel
theorem dX12_shares_73 : decode cX12_shares 73 = .ok (.iload_n 3, 1) := by decide +kernel
theorem dX12_shares_74 : decode cX12_shares 74 = .ok (.aload_n 0, 1) := by decide +kernel
theorem dX12_shares_75 : decode cX12_shares 75 = .ok (.iload 4, 2) := by decide +kernel
theorem dX12_shares_77 : decode cX12_shares 77 = .ok (.invokevirtual 604, 3) := by decide +kernel
theorem dX12_shares_80 : decode cX12_shares 80 = .ok (.iadd, 1) := by decide +kernel
theorem dX12_shares_81 : decode cX12_shares 81 = .ok (.istore_n 3, 1) := by decide +kernel
theorem dX12_shares_82 : decode cX12_shares 82 = .ok (.iinc 4 1, 3) := by decide +kernel
theorem dX12_shares_85 : decode cX12_shares 85 = .ok (.goto (-40), 3) := by decide +kernel
theorem dX12_shares_88 : decode cX12_shares 88 = .ok (.aload_n 0, 1) := by decide +kernel
theorem dX12_shares_89 : decode cX12_shares 89 = .ok (.getfield 607, 3) := by decide +kernel
theorem dX12_shares_92 : decode cX12_shares 92 = .ok (.iconst (-1), 1) := by decide +kernel
theorem dX12_shares_93 : decode cX12_shares 93 = .ok (.if_icmp .eq 12, 3) := by decide +kernel
theorem dX12_shares_96 : decode cX12_shares 96 = .ok (.iload_n 3, 1) := by decide +kernel
theorem dX12_shares_97 : decode cX12_shares 97 = .ok (.aload_n 0, 1) := by decide +kernel
theorem dX12_shares_98 : decode cX12_shares 98 = .ok (.getfield 607, 3) := by decide +kernel
theorem dX12_shares_101 : decode cX12_shares 101 = .ok (.if_icmp .lt 4, 3) := by decide +kernel
theorem dX12_shares_104 : decode cX12_shares 104 = .ok (.return_, 1) := by decide +kernel
theorem dX12_shares_105 : decode cX12_shares 105 = .ok (.aload_n 0, 1) := by decide +kernel
theorem dX12_shares_106 : decode cX12_shares 106 = .ok (.iload_n 3, 1) := by decide +kernel
theorem dX12_shares_107 : decode cX12_shares 107 = .ok (.putfield 607, 3) := by decide +kernel
theorem dX12_shares_110 : decode cX12_shares 110 = .ok (.iconst 0, 1) := by decide +kernel
theorem dX12_shares_111 : decode cX12_shares 111 = .ok (.istore 4, 2) := by decide +kernel
theorem dX12_shares_113 : decode cX12_shares 113 = .ok (.iload 4, 2) := by decide +kernel
theorem dX12_shares_115 : decode cX12_shares 115 = .ok (.aload_n 0, 1) := by decide +kernel
theorem dX12_shares_116 : decode cX12_shares 116 = .ok (.getfield 403, 3) := by decide +kernel
theorem dX12_shares_119 : decode cX12_shares 119 = .ok (.if_icmp .ge 23, 3) := by decide +kernel
theorem dX12_shares_122 : decode cX12_shares 122 = .ok (.aload_n 0, 1) := by decide +kernel
theorem dX12_shares_123 : decode cX12_shares 123 = .ok (.getfield 189, 3) := by decide +kernel
theorem dX12_shares_126 : decode cX12_shares 126 = .ok (.iload 4, 2) := by decide +kernel
theorem dX12_shares_128 : decode cX12_shares 128 = .ok (.aload_n 0, 1) := by decide +kernel
theorem dX12_shares_129 : decode cX12_shares 129 = .ok (.getfield 183, 3) := by decide +kernel
theorem dX12_shares_132 : decode cX12_shares 132 = .ok (.iload 4, 2) := by decide +kernel
theorem dX12_shares_134 : decode cX12_shares 134 = .ok (.iaload, 1) := by decide +kernel
theorem dX12_shares_135 : decode cX12_shares 135 = .ok (.iastore, 1) := by decide +kernel
theorem dX12_shares_136 : decode cX12_shares 136 = .ok (.iinc 4 1, 3) := by decide +kernel
theorem dX12_shares_139 : decode cX12_shares 139 = .ok (.goto (-26), 3) := by decide +kernel
theorem dX12_shares_142 : decode cX12_shares 142 = .ok (.return_, 1) := by decide +kernel
theorem dX12_sell_0 : decode cX12_sell 0 = .ok (.aload_n 0, 1) := by decide +kernel
theorem dX12_sell_1 : decode cX12_sell 1 = .ok (.iconst 0, 1) := by decide +kernel
theorem dX12_sell_2 : decode cX12_sell 2 = .ok (.putfield 195, 3) := by decide +kernel
theorem dX12_sell_5 : decode cX12_sell 5 = .ok (.aload_n 0, 1) := by decide +kernel
theorem dX12_sell_6 : decode cX12_sell 6 = .ok (.iload_n 1, 1) := by decide +kernel
theorem dX12_sell_7 : decode cX12_sell 7 = .ok (.invokevirtual 434, 3) := by decide +kernel
theorem dX12_sell_10 : decode cX12_sell 10 = .ok (.ifCond .eq 21, 3) := by decide +kernel
theorem dX12_sell_13 : decode cX12_sell 13 = .ok (.aload_n 0, 1) := by decide +kernel
theorem dX12_sell_14 : decode cX12_sell 14 = .ok (.iload_n 2, 1) := by decide +kernel
theorem dX12_sell_15 : decode cX12_sell 15 = .ok (.invokevirtual 522, 3) := by decide +kernel
theorem dX12_sell_18 : decode cX12_sell 18 = .ok (.ifCond .eq 13, 3) := by decide +kernel
theorem dX12_sell_21 : decode cX12_sell 21 = .ok (.aload_n 0, 1) := by decide +kernel
theorem dX12_sell_22 : decode cX12_sell 22 = .ok (.getfield 146, 3) := by decide +kernel
theorem dX12_sell_25 : decode cX12_sell 25 = .ok (.iload_n 1, 1) := by decide +kernel
theorem dX12_sell_26 : decode cX12_sell 26 = .ok (.iaload, 1) := by decide +kernel
theorem dX12_sell_27 : decode cX12_sell 27 = .ok (.iload_n 2, 1) := by decide +kernel
theorem dX12_sell_28 : decode cX12_sell 28 = .ok (.if_icmp .ne 5, 3) := by decide +kernel
theorem dX12_sell_31 : decode cX12_sell 31 = .ok (.iconst 0, 1) := by decide +kernel
theorem dX12_sell_32 : decode cX12_sell 32 = .ok (.ireturn, 1) := by decide +kernel
theorem dX12_sell_33 : decode cX12_sell 33 = .ok (.aload_n 0, 1) := by decide +kernel
theorem dX12_sell_34 : decode cX12_sell 34 = .ok (.getfield 146, 3) := by decide +kernel
theorem dX12_sell_37 : decode cX12_sell 37 = .ok (.iload_n 1, 1) := by decide +kernel
theorem dX12_sell_38 : decode cX12_sell 38 = .ok (.iload_n 2, 1) := by decide +kernel
theorem dX12_sell_39 : decode cX12_sell 39 = .ok (.iastore, 1) := by decide +kernel
theorem dX12_sell_40 : decode cX12_sell 40 = .ok (.aload_n 0, 1) := by decide +kernel
theorem dX12_sell_41 : decode cX12_sell 41 = .ok (.getfield 72, 3) := by decide +kernel
theorem dX12_sell_44 : decode cX12_sell 44 = .ok (.iload_n 1, 1) := by decide +kernel
theorem dX12_sell_45 : decode cX12_sell 45 = .ok (.iload_n 2, 1) := by decide +kernel
theorem dX12_sell_46 : decode cX12_sell 46 = .ok (.iastore, 1) := by decide +kernel
theorem dX12_sell_47 : decode cX12_sell 47 = .ok (.iconst 1, 1) := by decide +kernel
theorem dX12_sell_48 : decode cX12_sell 48 = .ok (.ireturn, 1) := by decide +kernel
theorem dX12_instead_0 : decode cX12_instead 0 = .ok (.aload_n 0, 1) := by decide +kernel
theorem dX12_instead_1 : decode cX12_instead 1 = .ok (.iconst 0, 1) := by decide +kernel
theorem dX12_instead_2 : decode cX12_instead 2 = .ok (.putfield 195, 3) := by decide +kernel
theorem dX12_instead_5 : decode cX12_instead 5 = .ok (.aload_n 0, 1) := by decide +kernel
theorem dX12_instead_6 : decode cX12_instead 6 = .ok (.iload_n 1, 1) := by decide +kernel
theorem dX12_instead_7 : decode cX12_instead 7 = .ok (.invokevirtual 480, 3) := by decide +kernel
theorem dX12_instead_10 : decode cX12_instead 10 = .ok (.ifCond .ne 5, 3) := by decide +kernel
theorem dX12_instead_13 : decode cX12_instead 13 = .ok (.iconst (-1), 1) := by decide +kernel
theorem dX12_instead_14 : decode cX12_instead 14 = .ok (.ireturn, 1) := by decide +kernel
theorem dX12_instead_15 : decode cX12_instead 15 = .ok (.iconst 0, 1) := by decide +kernel
theorem dX12_instead_16 : decode cX12_instead 16 = .ok (.istore_n 2, 1) := by decide +kernel
theorem dX12_instead_17 : decode cX12_instead 17 = .ok (.iconst 0, 1) := by decide +kernel
theorem dX12_instead_18 : decode cX12_instead 18 = .ok (.istore_n 3, 1) := by decide +kernel
theorem dX12_instead_19 : decode cX12_instead 19 = .ok (.iload_n 3, 1) := by decide +kernel
theorem dX12_instead_20 : decode cX12_instead 20 = .ok (.aload_n 0, 1) := by decide +kernel
theorem dX12_instead_21 : decode cX12_instead 21 = .ok (.getfield 403, 3) := by decide +kernel
theorem dX12_instead_24 : decode cX12_instead 24 = .ok (.if_icmp .ge 51, 3) := by decide +kernel
theorem dX12_instead_27 : decode cX12_instead 27 = .ok (.aload_n 0, 1) := by decide +kernel
theorem dX12_instead_28 : decode cX12_instead 28 = .ok (.getfield 69, 3) := by decide +kernel
theorem dX12_instead_31 : decode cX12_instead 31 = .ok (.iload_n 3, 1) := by decide +kernel
theorem dX12_instead_32 : decode cX12_instead 32 = .ok (.iaload, 1) := by decide +kernel
theorem dX12_instead_33 : decode cX12_instead 33 = .ok (.istore 4, 2) := by decide +kernel
theorem dX12_instead_35 : decode cX12_instead 35 = .ok (.iload_n 2, 1) := by decide +kernel
theorem dX12_instead_36 : decode cX12_instead 36 = .ok (.aload_n 0, 1) := by decide +kernel
theorem dX12_instead_37 : decode cX12_instead 37 = .ok (.iload 4, 2) := by decide +kernel
theorem dX12_instead_39 : decode cX12_instead 39 = .ok (.iload_n 1, 1) := by decide +kernel
theorem dX12_instead_40 : decode cX12_instead 40 = .ok (.iconst 0, 1) := by decide +kernel
theorem dX12_instead_41 : decode cX12_instead 41 = .ok (.invokevirtual 489, 3) := by decide +kernel
theorem dX12_instead_44 : decode cX12_instead 44 = .ok (.bipush 50, 2) := by decide +kernel
theorem dX12_instead_46 : decode cX12_instead 46 = .ok (.aload_n 0, 1) := by decide +kernel
theorem dX12_instead_47 : decode cX12_instead 47 = .ok (.getfield 45, 3) := by decide +kernel
theorem dX12_instead_50 : decode cX12_instead 50 = .ok (.iload 4, 2) := by decide +kernel
theorem dX12_instead_52 : decode cX12_instead 52 = .ok (.iaload, 1) := by decide +kernel
theorem dX12_instead_53 : decode cX12_instead 53 = .ok (.aload_n 0, 1) := by decide +kernel
theorem dX12_instead_54 : decode cX12_instead 54 = .ok (.iload 4, 2) := by decide +kernel
theorem dX12_instead_56 : decode cX12_instead 56 = .ok (.iload_n 1, 1) := by decide +kernel
theorem dX12_instead_57 : decode cX12_instead 57 = .ok (.iconst 0, 1) := by decide +kernel
theorem dX12_instead_58 : decode cX12_instead 58 = .ok (.invokevirtual 466, 3) := by decide +kernel
theorem dX12_instead_61 : decode cX12_instead 61 = .ok (.invokestatic 486, 3) := by decide +kernel
theorem dX12_instead_64 : decode cX12_instead 64 = .ok (.isub, 1) := by decide +kernel
theorem dX12_instead_65 : decode cX12_instead 65 = .ok (.imul, 1) := by decide +kernel
theorem dX12_instead_66 : decode cX12_instead 66 = .ok (.iadd, 1) := by decide +kernel
theorem dX12_instead_67 : decode cX12_instead 67 = .ok (.iadd, 1) := by decide +kernel
theorem dX12_instead_68 : decode cX12_instead 68 = .ok (.istore_n 2, 1) := by decide +kernel
theorem dX12_instead_69 : decode cX12_instead 69 = .ok (.iinc 3 1, 3) := by decide +kernel
theorem dX12_instead_72 : decode cX12_instead 72 = .ok (.goto (-53), 3) := by decide +kernel
theorem dX12_instead_75 : decode cX12_instead 75 = .ok (.iload_n 2, 1) := by decide +kernel
theorem dX12_instead_76 : decode cX12_instead 76 = .ok (.ireturn, 1) := by decide +kernel
theorem dX12_byPoles_0 : decode cX12_byPoles 0 = .ok (.aload_n 0, 1) := by decide +kernel
theorem dX12_byPoles_1 : decode cX12_byPoles 1 = .ok (.iload_n 1, 1) := by decide +kernel
theorem dX12_byPoles_2 : decode cX12_byPoles 2 = .ok (.iconst 1, 1) := by decide +kernel
theorem dX12_byPoles_3 : decode cX12_byPoles 3 = .ok (.aload_n 0, 1) := by decide +kernel
theorem dX12_byPoles_4 : decode cX12_byPoles 4 = .ok (.getfield 391, 3) := by decide +kernel
theorem dX12_byPoles_7 : decode cX12_byPoles 7 = .ok (.aload_n 0, 1) := by decide +kernel
theorem dX12_byPoles_8 : decode cX12_byPoles 8 = .ok (.getfield 394, 3) := by decide +kernel
theorem dX12_byPoles_11 : decode cX12_byPoles 11 = .ok (.iadd, 1) := by decide +kernel
theorem dX12_byPoles_12 : decode cX12_byPoles 12 = .ok (.ishl, 1) := by decide +kernel
theorem dX12_byPoles_13 : decode cX12_byPoles 13 = .ok (.iconst 1, 1) := by decide +kernel
theorem dX12_byPoles_14 : decode cX12_byPoles 14 = .ok (.isub, 1) := by decide +kernel
theorem dX12_byPoles_15 : decode cX12_byPoles 15 = .ok (.iconst 0, 1) := by decide +kernel
theorem dX12_byPoles_16 : decode cX12_byPoles 16 = .ok (.invokevirtual 483, 3) := by decide +kernel
theorem dX12_byPoles_19 : decode cX12_byPoles 19 = .ok (.pop, 1) := by decide +kernel
theorem dX12_byPoles_20 : decode cX12_byPoles 20 = .ok (.iconst 0, 1) := by decide +kernel
theorem dX12_byPoles_21 : decode cX12_byPoles 21 = .ok (.istore_n 2, 1) := by decide +kernel
theorem dX12_byPoles_22 : decode cX12_byPoles 22 = .ok (.iconst 0, 1) := by decide +kernel
theorem dX12_byPoles_23 : decode cX12_byPoles 23 = .ok (.istore_n 3, 1) := by decide +kernel
theorem dX12_byPoles_24 : decode cX12_byPoles 24 = .ok (.iconst 0, 1) := by decide +kernel
theorem dX12_byPoles_25 : decode cX12_byPoles 25 = .ok (.istore 4, 2) := by decide +kernel
theorem dX12_byPoles_27 : decode cX12_byPoles 27 = .ok (.iload 4, 2) := by decide +kernel
theorem dX12_byPoles_29 : decode cX12_byPoles 29 = .ok (.aload_n 0, 1) := by decide +kernel
theorem dX12_byPoles_30 : decode cX12_byPoles 30 = .ok (.getfield 473, 3) := by decide +kernel
theorem dX12_byPoles_33 : decode cX12_byPoles 33 = .ok (.if_icmp .ge 85, 3) := by decide +kernel
theorem dX12_byPoles_36 : decode cX12_byPoles 36 = .ok (.aload_n 0, 1) := by decide +kernel
theorem dX12_byPoles_37 : decode cX12_byPoles 37 = .ok (.getfield 122, 3) := by decide +kernel
theorem dX12_byPoles_40 : decode cX12_byPoles 40 = .ok (.iload 4, 2) := by decide +kernel
theorem dX12_byPoles_42 : decode cX12_byPoles 42 = .ok (.iaload, 1) := by decide +kernel
theorem dX12_byPoles_43 : decode cX12_byPoles 43 = .ok (.bipush 16, 2) := by decide +kernel
theorem dX12_byPoles_45 : decode cX12_byPoles 45 = .ok (.irem, 1) := by decide +kernel
theorem dX12_byPoles_46 : decode cX12_byPoles 46 = .ok (.istore 5, 2) := by decide +kernel
theorem dX12_byPoles_48 : decode cX12_byPoles 48 = .ok (.aload_n 0, 1) := by decide +kernel
theorem dX12_byPoles_49 : decode cX12_byPoles 49 = .ok (.iload_n 1, 1) := by decide +kernel
theorem dX12_byPoles_50 : decode cX12_byPoles 50 = .ok (.iload 5, 2) := by decide +kernel
theorem dX12_byPoles_52 : decode cX12_byPoles 52 = .ok (.aload_n 0, 1) := by decide +kernel
theorem dX12_byPoles_53 : decode cX12_byPoles 53 = .ok (.getfield 122, 3) := by decide +kernel
theorem dX12_byPoles_56 : decode cX12_byPoles 56 = .ok (.iload 4, 2) := by decide +kernel
theorem dX12_byPoles_58 : decode cX12_byPoles 58 = .ok (.iaload, 1) := by decide +kernel
theorem dX12_byPoles_59 : decode cX12_byPoles 59 = .ok (.bipush 16, 2) := by decide +kernel
theorem dX12_byPoles_61 : decode cX12_byPoles 61 = .ok (.idiv, 1) := by decide +kernel
theorem dX12_byPoles_62 : decode cX12_byPoles 62 = .ok (.bipush 16, 2) := by decide +kernel
theorem dX12_byPoles_64 : decode cX12_byPoles 64 = .ok (.irem, 1) := by decide +kernel
theorem dX12_byPoles_65 : decode cX12_byPoles 65 = .ok (.aload_n 0, 1) := by decide +kernel
theorem dX12_byPoles_66 : decode cX12_byPoles 66 = .ok (.getfield 122, 3) := by decide +kernel
theorem dX12_byPoles_69 : decode cX12_byPoles 69 = .ok (.iload 4, 2) := by decide +kernel
theorem dX12_byPoles_71 : decode cX12_byPoles 71 = .ok (.iaload, 1) := by decide +kernel
theorem dX12_byPoles_72 : decode cX12_byPoles 72 = .ok (.sipush 256, 3) := by decide +kernel
theorem dX12_byPoles_75 : decode cX12_byPoles 75 = .ok (.idiv, 1) := by decide +kernel
theorem dX12_byPoles_76 : decode cX12_byPoles 76 = .ok (.iconst 0, 1) := by decide +kernel
theorem dX12_byPoles_77 : decode cX12_byPoles 77 = .ok (.invokevirtual 460, 3) := by decide +kernel
theorem dX12_byPoles_80 : decode cX12_byPoles 80 = .ok (.iload_n 2, 1) := by decide +kernel
theorem dX12_byPoles_81 : decode cX12_byPoles 81 = .ok (.iconst (-1), 1) := by decide +kernel
theorem dX12_byPoles_82 : decode cX12_byPoles 82 = .ok (.ixor, 1) := by decide +kernel
theorem dX12_byPoles_83 : decode cX12_byPoles 83 = .ok (.iand, 1) := by decide +kernel
theorem dX12_byPoles_84 : decode cX12_byPoles 84 = .ok (.istore 6, 2) := by decide +kernel
theorem dX12_byPoles_86 : decode cX12_byPoles 86 = .ok (.iload_n 2, 1) := by decide +kernel
theorem dX12_byPoles_87 : decode cX12_byPoles 87 = .ok (.iload 6, 2) := by decide +kernel
theorem dX12_byPoles_89 : decode cX12_byPoles 89 = .ok (.ior, 1) := by decide +kernel
theorem dX12_byPoles_90 : decode cX12_byPoles 90 = .ok (.istore_n 2, 1) := by decide +kernel
theorem dX12_byPoles_91 : decode cX12_byPoles 91 = .ok (.iload_n 3, 1) := by decide +kernel
theorem dX12_byPoles_92 : decode cX12_byPoles 92 = .ok (.aload_n 0, 1) := by decide +kernel
theorem dX12_byPoles_93 : decode cX12_byPoles 93 = .ok (.iload 5, 2) := by decide +kernel
theorem dX12_byPoles_95 : decode cX12_byPoles 95 = .ok (.invokevirtual 440, 3) := by decide +kernel
theorem dX12_byPoles_98 : decode cX12_byPoles 98 = .ok (.ifCond .eq 7, 3) := by decide +kernel
theorem dX12_byPoles_101 : decode cX12_byPoles 101 = .ok (.iconst 0, 1) := by decide +kernel
theorem dX12_byPoles_102 : decode cX12_byPoles 102 = .ok (.goto 8, 3) := by decide +kernel
theorem dX12_byPoles_105 : decode cX12_byPoles 105 = .ok (.iload 6, 2) := by decide +kernel
theorem dX12_byPoles_107 : decode cX12_byPoles 107 = .ok (.invokestatic 486, 3) := by decide +kernel
theorem dX12_byPoles_110 : decode cX12_byPoles 110 = .ok (.iadd, 1) := by decide +kernel
theorem dX12_byPoles_111 : decode cX12_byPoles 111 = .ok (.istore_n 3, 1) := by decide +kernel
theorem dX12_byPoles_112 : decode cX12_byPoles 112 = .ok (.iinc 4 1, 3) := by decide +kernel
theorem dX12_byPoles_115 : decode cX12_byPoles 115 = .ok (.goto (-88), 3) := by decide +kernel
theorem dX12_byPoles_118 : decode cX12_byPoles 118 = .ok (.iload_n 3, 1) := by decide +kernel
theorem dX12_byPoles_119 : decode cX12_byPoles 119 = .ok (.ireturn, 1) := by decide +kernel
theorem dX12_tanks_0 : decode cX12_tanks 0 = .ok (.aload_n 0, 1) := by decide +kernel
theorem dX12_tanks_1 : decode cX12_tanks 1 = .ok (.iconst 0, 1) := by decide +kernel
theorem dX12_tanks_2 : decode cX12_tanks 2 = .ok (.putfield 195, 3) := by decide +kernel
theorem dX12_tanks_5 : decode cX12_tanks 5 = .ok (.aload_n 0, 1) := by decide +kernel
theorem dX12_tanks_6 : decode cX12_tanks 6 = .ok (.iload_n 1, 1) := by decide +kernel
theorem dX12_tanks_7 : decode cX12_tanks 7 = .ok (.invokevirtual 522, 3) := by decide +kernel
theorem dX12_tanks_10 : decode cX12_tanks 10 = .ok (.ifCond .eq 11, 3) := by decide +kernel
theorem dX12_tanks_13 : decode cX12_tanks 13 = .ok (.aload_n 0, 1) := by decide +kernel
theorem dX12_tanks_14 : decode cX12_tanks 14 = .ok (.iload_n 2, 1) := by decide +kernel
theorem dX12_tanks_15 : decode cX12_tanks 15 = .ok (.invokevirtual 573, 3) := by decide +kernel
theorem dX12_tanks_18 : decode cX12_tanks 18 = .ok (.ifCond .ne 5, 3) := by decide +kernel
theorem dX12_tanks_21 : decode cX12_tanks 21 = .ok (.iconst (-1), 1) := by decide +kernel
theorem dX12_tanks_22 : decode cX12_tanks 22 = .ok (.ireturn, 1) := by decide +kernel
theorem dX12_tanks_23 : decode cX12_tanks 23 = .ok (.aload_n 0, 1) := by decide +kernel
theorem dX12_tanks_24 : decode cX12_tanks 24 = .ok (.iload_n 1, 1) := by decide +kernel
theorem dX12_tanks_25 : decode cX12_tanks 25 = .ok (.iload_n 2, 1) := by decide +kernel
theorem dX12_tanks_26 : decode cX12_tanks 26 = .ok (.invokevirtual 576, 3) := by decide +kernel
theorem dX12_tanks_29 : decode cX12_tanks 29 = .ok (.iconst 0, 1) := by decide +kernel
theorem dX12_tanks_30 : decode cX12_tanks 30 = .ok (.istore_n 3, 1) := by decide +kernel
theorem dX12_tanks_31 : decode cX12_tanks 31 = .ok (.iconst 0, 1) := by decide +kernel
theorem dX12_tanks_32 : decode cX12_tanks 32 = .ok (.istore 4, 2) := by decide +kernel
theorem dX12_tanks_34 : decode cX12_tanks 34 = .ok (.iload 4, 2) := by decide +kernel
theorem dX12_tanks_36 : decode cX12_tanks 36 = .ok (.aload_n 0, 1) := by decide +kernel
theorem dX12_tanks_37 : decode cX12_tanks 37 = .ok (.getfield 546, 3) := by decide +kernel
theorem dX12_tanks_40 : decode cX12_tanks 40 = .ok (.if_icmp .ge 28, 3) := by decide +kernel
theorem dX12_tanks_43 : decode cX12_tanks 43 = .ok (.iload_n 3, 1) := by decide +kernel
theorem dX12_tanks_44 : decode cX12_tanks 44 = .ok (.aload_n 0, 1) := by decide +kernel
theorem dX12_tanks_45 : decode cX12_tanks 45 = .ok (.aload_n 0, 1) := by decide +kernel
theorem dX12_tanks_46 : decode cX12_tanks 46 = .ok (.getfield 69, 3) := by decide +kernel
theorem dX12_tanks_49 : decode cX12_tanks 49 = .ok (.aload_n 0, 1) := by decide +kernel
theorem dX12_tanks_50 : decode cX12_tanks 50 = .ok (.getfield 177, 3) := by decide +kernel
theorem dX12_tanks_53 : decode cX12_tanks 53 = .ok (.iload 4, 2) := by decide +kernel
theorem dX12_tanks_55 : decode cX12_tanks 55 = .ok (.iaload, 1) := by decide +kernel
theorem dX12_tanks_56 : decode cX12_tanks 56 = .ok (.iaload, 1) := by decide +kernel
theorem dX12_tanks_57 : decode cX12_tanks 57 = .ok (.invokevirtual 613, 3) := by decide +kernel
theorem dX12_tanks_60 : decode cX12_tanks 60 = .ok (.iadd, 1) := by decide +kernel
theorem dX12_tanks_61 : decode cX12_tanks 61 = .ok (.istore_n 3, 1) := by decide +kernel
theorem dX12_tanks_62 : decode cX12_tanks 62 = .ok (.iinc 4 1, 3) := by decide +kernel
theorem dX12_tanks_65 : decode cX12_tanks 65 = .ok (.goto (-31), 3) := by decide +kernel
theorem dX12_tanks_68 : decode cX12_tanks 68 = .ok (.aload_n 0, 1) := by decide +kernel
theorem dX12_tanks_69 : decode cX12_tanks 69 = .ok (.getfield 418, 3) := by decide +kernel
theorem dX12_tanks_72 : decode cX12_tanks 72 = .ok (.ifCond .ne 7, 3) := by decide +kernel
theorem dX12_tanks_75 : decode cX12_tanks 75 = .ok (.iconst 0, 1) := by decide +kernel
theorem dX12_tanks_76 : decode cX12_tanks 76 = .ok (.goto 21, 3) := by decide +kernel
theorem dX12_tanks_79 : decode cX12_tanks 79 = .ok (.iload_n 3, 1) := by decide +kernel
theorem dX12_tanks_80 : decode cX12_tanks 80 = .ok (.aload_n 0, 1) := by decide +kernel
theorem dX12_tanks_81 : decode cX12_tanks 81 = .ok (.getfield 421, 3) := by decide +kernel
theorem dX12_tanks_84 : decode cX12_tanks 84 = .ok (.imul, 1) := by decide +kernel
theorem dX12_tanks_85 : decode cX12_tanks 85 = .ok (.aload_n 0, 1) := by decide +kernel
theorem dX12_tanks_86 : decode cX12_tanks 86 = .ok (.getfield 418, 3) := by decide +kernel
theorem dX12_tanks_89 : decode cX12_tanks 89 = .ok (.iadd, 1) := by decide +kernel
theorem dX12_tanks_90 : decode cX12_tanks 90 = .ok (.iconst 1, 1) := by decide +kernel
theorem dX12_tanks_91 : decode cX12_tanks 91 = .ok (.isub, 1) := by decide +kernel
theorem dX12_tanks_92 : decode cX12_tanks 92 = .ok (.aload_n 0, 1) := by decide +kernel
theorem dX12_tanks_93 : decode cX12_tanks 93 = .ok (.getfield 418, 3) := by decide +kernel
theorem dX12_tanks_96 : decode cX12_tanks 96 = .ok (.idiv, 1) := by decide +kernel
theorem dX12_tanks_97 : decode cX12_tanks 97 = .ok (.ireturn, 1) := by decide +kernel
theorem dX12_halves_0 : decode cX12_halves 0 = .ok (.aload_n 0, 1) := by decide +kernel
theorem dX12_halves_1 : decode cX12_halves 1 = .ok (.arraylength, 1) := by decide +kernel
theorem dX12_halves_2 : decode cX12_halves 2 = .ok (.iconst 2, 1) := by decide +kernel
theorem dX12_halves_3 : decode cX12_halves 3 = .ok (.idiv, 1) := by decide +kernel
theorem dX12_halves_4 : decode cX12_halves 4 = .ok (.istore_n 2, 1) := by decide +kernel
theorem dX12_halves_5 : decode cX12_halves 5 = .ok (.iconst 0, 1) := by decide +kernel
theorem dX12_halves_6 : decode cX12_halves 6 = .ok (.istore_n 3, 1) := by decide +kernel
theorem dX12_halves_7 : decode cX12_halves 7 = .ok (.iload_n 3, 1) := by decide +kernel
theorem dX12_halves_8 : decode cX12_halves 8 = .ok (.iload_n 2, 1) := by decide +kernel
theorem dX12_halves_9 : decode cX12_halves 9 = .ok (.if_icmp .ge 32, 3) := by decide +kernel
theorem dX12_halves_12 : decode cX12_halves 12 = .ok (.iload_n 1, 1) := by decide +kernel
theorem dX12_halves_13 : decode cX12_halves 13 = .ok (.ifCond .eq 14, 3) := by decide +kernel
theorem dX12_halves_16 : decode cX12_halves 16 = .ok (.aload_n 0, 1) := by decide +kernel
theorem dX12_halves_17 : decode cX12_halves 17 = .ok (.iload_n 3, 1) := by decide +kernel
theorem dX12_halves_18 : decode cX12_halves 18 = .ok (.aload_n 0, 1) := by decide +kernel
theorem dX12_halves_19 : decode cX12_halves 19 = .ok (.iload_n 2, 1) := by decide +kernel
theorem dX12_halves_20 : decode cX12_halves 20 = .ok (.iload_n 3, 1) := by decide +kernel
theorem dX12_halves_21 : decode cX12_halves 21 = .ok (.iadd, 1) := by decide +kernel
theorem dX12_halves_22 : decode cX12_halves 22 = .ok (.iaload, 1) := by decide +kernel
theorem dX12_halves_23 : decode cX12_halves 23 = .ok (.iastore, 1) := by decide +kernel
theorem dX12_halves_24 : decode cX12_halves 24 = .ok (.goto 11, 3) := by decide +kernel
theorem dX12_halves_27 : decode cX12_halves 27 = .ok (.aload_n 0, 1) := by decide +kernel
theorem dX12_halves_28 : decode cX12_halves 28 = .ok (.iload_n 2, 1) := by decide +kernel
theorem dX12_halves_29 : decode cX12_halves 29 = .ok (.iload_n 3, 1) := by decide +kernel
theorem dX12_halves_30 : decode cX12_halves 30 = .ok (.iadd, 1) := by decide +kernel
theorem dX12_halves_31 : decode cX12_halves 31 = .ok (.aload_n 0, 1) := by decide +kernel
theorem dX12_halves_32 : decode cX12_halves 32 = .ok (.iload_n 3, 1) := by decide +kernel
theorem dX12_halves_33 : decode cX12_halves 33 = .ok (.iaload, 1) := by decide +kernel
theorem dX12_halves_34 : decode cX12_halves 34 = .ok (.iastore, 1) := by decide +kernel
theorem dX12_halves_35 : decode cX12_halves 35 = .ok (.iinc 3 1, 3) := by decide +kernel
theorem dX12_halves_38 : decode cX12_halves 38 = .ok (.goto (-31), 3) := by decide +kernel
theorem dX12_halves_41 : decode cX12_halves 41 = .ok (.return_, 1) := by decide +kernel
theorem dX12_all_0 : decode cX12_all 0 = .ok (.aload_n 0, 1) := by decide +kernel
theorem dX12_all_1 : decode cX12_all 1 = .ok (.getfield 125, 3) := by decide +kernel
theorem dX12_all_4 : decode cX12_all 4 = .ok (.iload_n 1, 1) := by decide +kernel
theorem dX12_all_5 : decode cX12_all 5 = .ok (.invokestatic 616, 3) := by decide +kernel
theorem dX12_all_8 : decode cX12_all 8 = .ok (.aload_n 0, 1) := by decide +kernel
theorem dX12_all_9 : decode cX12_all 9 = .ok (.getfield 128, 3) := by decide +kernel
theorem dX12_all_12 : decode cX12_all 12 = .ok (.iload_n 1, 1) := by decide +kernel
theorem dX12_all_13 : decode cX12_all 13 = .ok (.invokestatic 616, 3) := by decide +kernel
theorem dX12_all_16 : decode cX12_all 16 = .ok (.aload_n 0, 1) := by decide +kernel
theorem dX12_all_17 : decode cX12_all 17 = .ok (.getfield 131, 3) := by decide +kernel
theorem dX12_all_20 : decode cX12_all 20 = .ok (.iload_n 1, 1) := by decide +kernel
theorem dX12_all_21 : decode cX12_all 21 = .ok (.invokestatic 616, 3) := by decide +kernel
theorem dX12_all_24 : decode cX12_all 24 = .ok (.aload_n 0, 1) := by decide +kernel
theorem dX12_all_25 : decode cX12_all 25 = .ok (.getfield 134, 3) := by decide +kernel
theorem dX12_all_28 : decode cX12_all 28 = .ok (.iload_n 1, 1) := by decide +kernel
theorem dX12_all_29 : decode cX12_all 29 = .ok (.invokestatic 616, 3) := by decide +kernel
theorem dX12_all_32 : decode cX12_all 32 = .ok (.aload_n 0, 1) := by decide +kernel
theorem dX12_all_33 : decode cX12_all 33 = .ok (.getfield 137, 3) := by decide +kernel
theorem dX12_all_36 : decode cX12_all 36 = .ok (.iload_n 1, 1) := by decide +kernel
theorem dX12_all_37 : decode cX12_all 37 = .ok (.invokestatic 616, 3) := by decide +kernel
theorem dX12_all_40 : decode cX12_all 40 = .ok (.aload_n 0, 1) := by decide +kernel
theorem dX12_all_41 : decode cX12_all 41 = .ok (.getfield 140, 3) := by decide +kernel
theorem dX12_all_44 : decode cX12_all 44 = .ok (.iload_n 1, 1) := by decide +kernel
theorem dX12_all_45 : decode cX12_all 45 = .ok (.invokestatic 616, 3) := by decide +kernel
theorem dX12_all_48 : decode cX12_all 48 = .ok (.aload_n 0, 1) := by decide +kernel
theorem dX12_all_49 : decode cX12_all 49 = .ok (.getfield 143, 3) := by decide +kernel
theorem dX12_all_52 : decode cX12_all 52 = .ok (.iload_n 1, 1) := by decide +kernel
theorem dX12_all_53 : decode cX12_all 53 = .ok (.invokestatic 616, 3) := by decide +kernel
theorem dX12_all_56 : decode cX12_all 56 = .ok (.aload_n 0, 1) := by decide +kernel
theorem dX12_all_57 : decode cX12_all 57 = .ok (.getfield 146, 3) := by decide +kernel
theorem dX12_all_60 : decode cX12_all 60 = .ok (.iload_n 1, 1) := by decide +kernel
theorem dX12_all_61 : decode cX12_all 61 = .ok (.invokestatic 616, 3) := by decide +kernel
theorem dX12_all_64 : decode cX12_all 64 = .ok (.aload_n 0, 1) := by decide +kernel
theorem dX12_all_65 : decode cX12_all 65 = .ok (.getfield 149, 3) := by decide +kernel
theorem dX12_all_68 : decode cX12_all 68 = .ok (.iload_n 1, 1) := by decide +kernel
theorem dX12_all_69 : decode cX12_all 69 = .ok (.invokestatic 616, 3) := by decide +kernel
theorem dX12_all_72 : decode cX12_all 72 = .ok (.aload_n 0, 1) := by decide +kernel
theorem dX12_all_73 : decode cX12_all 73 = .ok (.getfield 152, 3) := by decide +kernel
theorem dX12_all_76 : decode cX12_all 76 = .ok (.iload_n 1, 1) := by decide +kernel
theorem dX12_all_77 : decode cX12_all 77 = .ok (.invokestatic 616, 3) := by decide +kernel
theorem dX12_all_80 : decode cX12_all 80 = .ok (.aload_n 0, 1) := by decide +kernel
theorem dX12_all_81 : decode cX12_all 81 = .ok (.getfield 155, 3) := by decide +kernel
theorem dX12_all_84 : decode cX12_all 84 = .ok (.iload_n 1, 1) := by decide +kernel
theorem dX12_all_85 : decode cX12_all 85 = .ok (.invokestatic 616, 3) := by decide +kernel
theorem dX12_all_88 : decode cX12_all 88 = .ok (.aload_n 0, 1) := by decide +kernel
theorem dX12_all_89 : decode cX12_all 89 = .ok (.getfield 158, 3) := by decide +kernel
theorem dX12_all_92 : decode cX12_all 92 = .ok (.iload_n 1, 1) := by decide +kernel
theorem dX12_all_93 : decode cX12_all 93 = .ok (.invokestatic 616, 3) := by decide +kernel
theorem dX12_all_96 : decode cX12_all 96 = .ok (.aload_n 0, 1) := by decide +kernel
theorem dX12_all_97 : decode cX12_all 97 = .ok (.getfield 161, 3) := by decide +kernel
theorem dX12_all_100 : decode cX12_all 100 = .ok (.iload_n 1, 1) := by decide +kernel
theorem dX12_all_101 : decode cX12_all 101 = .ok (.invokestatic 616, 3) := by decide +kernel
theorem dX12_all_104 : decode cX12_all 104 = .ok (.aload_n 0, 1) := by decide +kernel
theorem dX12_all_105 : decode cX12_all 105 = .ok (.getfield 164, 3) := by decide +kernel
theorem dX12_all_108 : decode cX12_all 108 = .ok (.iload_n 1, 1) := by decide +kernel
theorem dX12_all_109 : decode cX12_all 109 = .ok (.invokestatic 616, 3) := by decide +kernel
theorem dX12_all_112 : decode cX12_all 112 = .ok (.return_, 1) := by decide +kernel
theorem dX12_keep_0 : decode cX12_keep 0 = .ok (.aload_n 0, 1) := by decide +kernel
theorem dX12_keep_1 : decode cX12_keep 1 = .ok (.iconst 0, 1) := by decide +kernel
theorem dX12_keep_2 : decode cX12_keep 2 = .ok (.putfield 195, 3) := by decide +kernel
theorem dX12_keep_5 : decode cX12_keep 5 = .ok (.aload_n 0, 1) := by decide +kernel
theorem dX12_keep_6 : decode cX12_keep 6 = .ok (.iconst 0, 1) := by decide +kernel
theorem dX12_keep_7 : decode cX12_keep 7 = .ok (.invokevirtual 620, 3) := by decide +kernel
theorem dX12_keep_10 : decode cX12_keep 10 = .ok (.aload_n 0, 1) := by decide +kernel
theorem dX12_keep_11 : decode cX12_keep 11 = .ok (.iconst 1, 1) := by decide +kernel
theorem dX12_keep_12 : decode cX12_keep 12 = .ok (.putfield 498, 3) := by decide +kernel
theorem dX12_keep_15 : decode cX12_keep 15 = .ok (.aload_n 0, 1) := by decide +kernel
theorem dX12_keep_16 : decode cX12_keep 16 = .ok (.aload_n 0, 1) := by decide +kernel
theorem dX12_keep_17 : decode cX12_keep 17 = .ok (.getfield 492, 3) := by decide +kernel
theorem dX12_keep_20 : decode cX12_keep 20 = .ok (.putfield 624, 3) := by decide +kernel
theorem dX12_keep_23 : decode cX12_keep 23 = .ok (.aload_n 0, 1) := by decide +kernel
theorem dX12_keep_24 : decode cX12_keep 24 = .ok (.aload_n 0, 1) := by decide +kernel
theorem dX12_keep_25 : decode cX12_keep 25 = .ok (.getfield 495, 3) := by decide +kernel
theorem dX12_keep_28 : decode cX12_keep 28 = .ok (.putfield 627, 3) := by decide +kernel
theorem dX12_keep_31 : decode cX12_keep 31 = .ok (.aload_n 0, 1) := by decide +kernel
theorem dX12_keep_32 : decode cX12_keep 32 = .ok (.getfield 492, 3) := by decide +kernel
theorem dX12_keep_35 : decode cX12_keep 35 = .ok (.ireturn, 1) := by decide +kernel
theorem dX12_back_0 : decode cX12_back 0 = .ok (.aload_n 0, 1) := by decide +kernel
theorem dX12_back_1 : decode cX12_back 1 = .ok (.iconst 0, 1) := by decide +kernel
theorem dX12_back_2 : decode cX12_back 2 = .ok (.putfield 195, 3) := by decide +kernel
theorem dX12_back_5 : decode cX12_back 5 = .ok (.aload_n 0, 1) := by decide +kernel
theorem dX12_back_6 : decode cX12_back 6 = .ok (.getfield 498, 3) := by decide +kernel
theorem dX12_back_9 : decode cX12_back 9 = .ok (.ifCond .ne 5, 3) := by decide +kernel
theorem dX12_back_12 : decode cX12_back 12 = .ok (.iconst (-1), 1) := by decide +kernel
theorem dX12_back_13 : decode cX12_back 13 = .ok (.ireturn, 1) := by decide +kernel
theorem dX12_back_14 : decode cX12_back 14 = .ok (.aload_n 0, 1) := by decide +kernel
theorem dX12_back_15 : decode cX12_back 15 = .ok (.iconst 1, 1) := by decide +kernel
theorem dX12_back_16 : decode cX12_back 16 = .ok (.invokevirtual 620, 3) := by decide +kernel
theorem dX12_back_19 : decode cX12_back 19 = .ok (.aload_n 0, 1) := by decide +kernel
theorem dX12_back_20 : decode cX12_back 20 = .ok (.aload_n 0, 1) := by decide +kernel
theorem dX12_back_21 : decode cX12_back 21 = .ok (.getfield 624, 3) := by decide +kernel
theorem dX12_back_24 : decode cX12_back 24 = .ok (.putfield 492, 3) := by decide +kernel
theorem dX12_back_27 : decode cX12_back 27 = .ok (.aload_n 0, 1) := by decide +kernel
theorem dX12_back_28 : decode cX12_back 28 = .ok (.aload_n 0, 1) := by decide +kernel
theorem dX12_back_29 : decode cX12_back 29 = .ok (.getfield 627, 3) := by decide +kernel
theorem dX12_back_32 : decode cX12_back 32 = .ok (.putfield 495, 3) := by decide +kernel
theorem dX12_back_35 : decode cX12_back 35 = .ok (.iconst 0, 1) := by decide +kernel
theorem dX12_back_36 : decode cX12_back 36 = .ok (.istore_n 1, 1) := by decide +kernel
theorem dX12_back_37 : decode cX12_back 37 = .ok (.iload_n 1, 1) := by decide +kernel
theorem dX12_back_38 : decode cX12_back 38 = .ok (.aload_n 0, 1) := by decide +kernel
theorem dX12_back_39 : decode cX12_back 39 = .ok (.getfield 403, 3) := by decide +kernel
theorem dX12_back_42 : decode cX12_back 42 = .ok (.if_icmp .ge 21, 3) := by decide +kernel
theorem dX12_back_45 : decode cX12_back 45 = .ok (.aload_n 0, 1) := by decide +kernel
theorem dX12_back_46 : decode cX12_back 46 = .ok (.getfield 72, 3) := by decide +kernel
theorem dX12_back_49 : decode cX12_back 49 = .ok (.iload_n 1, 1) := by decide +kernel
theorem dX12_back_50 : decode cX12_back 50 = .ok (.aload_n 0, 1) := by decide +kernel
theorem dX12_back_51 : decode cX12_back 51 = .ok (.getfield 146, 3) := by decide +kernel
theorem dX12_back_54 : decode cX12_back 54 = .ok (.iload_n 1, 1) := by decide +kernel
theorem dX12_back_55 : decode cX12_back 55 = .ok (.iaload, 1) := by decide +kernel
theorem dX12_back_56 : decode cX12_back 56 = .ok (.iastore, 1) := by decide +kernel
theorem dX12_back_57 : decode cX12_back 57 = .ok (.iinc 1 1, 3) := by decide +kernel
theorem dX12_back_60 : decode cX12_back 60 = .ok (.goto (-23), 3) := by decide +kernel
theorem dX12_back_63 : decode cX12_back 63 = .ok (.aload_n 0, 1) := by decide +kernel
theorem dX12_back_64 : decode cX12_back 64 = .ok (.getfield 492, 3) := by decide +kernel
theorem dX12_back_67 : decode cX12_back 67 = .ok (.ireturn, 1) := by decide +kernel
theorem dX12_count_0 : decode cX12_count 0 = .ok (.aload_n 0, 1) := by decide +kernel
theorem dX12_count_1 : decode cX12_count 1 = .ok (.iconst 0, 1) := by decide +kernel
theorem dX12_count_2 : decode cX12_count 2 = .ok (.putfield 195, 3) := by decide +kernel
theorem dX12_count_5 : decode cX12_count 5 = .ok (.iconst 0, 1) := by decide +kernel
theorem dX12_count_6 : decode cX12_count 6 = .ok (.istore_n 2, 1) := by decide +kernel
theorem dX12_count_7 : decode cX12_count 7 = .ok (.iload_n 1, 1) := by decide +kernel
theorem dX12_count_8 : decode cX12_count 8 = .ok (.tableswitch 194 0 12 #[68, 73, 78, 83, 88, 93, 98, 103, 108, 142, 147, 152, 152], 68) := by decide +kernel
theorem dX12_count_76 : decode cX12_count 76 = .ok (.aload_n 0, 1) := by decide +kernel
theorem dX12_count_77 : decode cX12_count 77 = .ok (.getfield 391, 3) := by decide +kernel
theorem dX12_count_80 : decode cX12_count 80 = .ok (.ireturn, 1) := by decide +kernel
theorem dX12_count_81 : decode cX12_count 81 = .ok (.aload_n 0, 1) := by decide +kernel
theorem dX12_count_82 : decode cX12_count 82 = .ok (.getfield 394, 3) := by decide +kernel
theorem dX12_count_85 : decode cX12_count 85 = .ok (.ireturn, 1) := by decide +kernel
theorem dX12_count_86 : decode cX12_count 86 = .ok (.aload_n 0, 1) := by decide +kernel
theorem dX12_count_87 : decode cX12_count 87 = .ok (.getfield 397, 3) := by decide +kernel
theorem dX12_count_90 : decode cX12_count 90 = .ok (.ireturn, 1) := by decide +kernel
theorem dX12_count_91 : decode cX12_count 91 = .ok (.aload_n 0, 1) := by decide +kernel
theorem dX12_count_92 : decode cX12_count 92 = .ok (.getfield 400, 3) := by decide +kernel
theorem dX12_count_95 : decode cX12_count 95 = .ok (.ireturn, 1) := by decide +kernel
theorem dX12_count_96 : decode cX12_count 96 = .ok (.aload_n 0, 1) := by decide +kernel
theorem dX12_count_97 : decode cX12_count 97 = .ok (.getfield 403, 3) := by decide +kernel
theorem dX12_count_100 : decode cX12_count 100 = .ok (.ireturn, 1) := by decide +kernel
theorem dX12_count_101 : decode cX12_count 101 = .ok (.aload_n 0, 1) := by decide +kernel
theorem dX12_count_102 : decode cX12_count 102 = .ok (.getfield 495, 3) := by decide +kernel
theorem dX12_count_105 : decode cX12_count 105 = .ok (.ireturn, 1) := by decide +kernel
theorem dX12_count_106 : decode cX12_count 106 = .ok (.aload_n 0, 1) := by decide +kernel
theorem dX12_count_107 : decode cX12_count 107 = .ok (.getfield 492, 3) := by decide +kernel
theorem dX12_count_110 : decode cX12_count 110 = .ok (.ireturn, 1) := by decide +kernel
theorem dX12_count_111 : decode cX12_count 111 = .ok (.aload_n 0, 1) := by decide +kernel
theorem dX12_count_112 : decode cX12_count 112 = .ok (.getfield 424, 3) := by decide +kernel
theorem dX12_count_115 : decode cX12_count 115 = .ok (.ireturn, 1) := by decide +kernel
theorem dX12_count_116 : decode cX12_count 116 = .ok (.iconst 0, 1) := by decide +kernel
theorem dX12_count_117 : decode cX12_count 117 = .ok (.istore_n 3, 1) := by decide +kernel
theorem dX12_count_118 : decode cX12_count 118 = .ok (.iload_n 3, 1) := by decide +kernel
theorem dX12_count_119 : decode cX12_count 119 = .ok (.sipush 200, 3) := by decide +kernel
theorem dX12_count_122 : decode cX12_count 122 = .ok (.if_icmp .ge 26, 3) := by decide +kernel
theorem dX12_count_125 : decode cX12_count 125 = .ok (.iload_n 2, 1) := by decide +kernel
theorem dX12_count_126 : decode cX12_count 126 = .ok (.aload_n 0, 1) := by decide +kernel
theorem dX12_count_127 : decode cX12_count 127 = .ok (.getfield 100, 3) := by decide +kernel
theorem dX12_count_130 : decode cX12_count 130 = .ok (.iload_n 3, 1) := by decide +kernel
theorem dX12_count_131 : decode cX12_count 131 = .ok (.baload, 1) := by decide +kernel
theorem dX12_count_132 : decode cX12_count 132 = .ok (.ifCond .eq 7, 3) := by decide +kernel
theorem dX12_count_135 : decode cX12_count 135 = .ok (.iconst 1, 1) := by decide +kernel
theorem dX12_count_136 : decode cX12_count 136 = .ok (.goto 4, 3) := by decide +kernel
theorem dX12_count_139 : decode cX12_count 139 = .ok (.iconst 0, 1) := by decide +kernel
theorem dX12_count_140 : decode cX12_count 140 = .ok (.iadd, 1) := by decide +kernel
theorem dX12_count_141 : decode cX12_count 141 = .ok (.istore_n 2, 1) := by decide +kernel
theorem dX12_count_142 : decode cX12_count 142 = .ok (.iinc 3 1, 3) := by decide +kernel
theorem dX12_count_145 : decode cX12_count 145 = .ok (.goto (-27), 3) := by decide +kernel
theorem dX12_count_148 : decode cX12_count 148 = .ok (.iload_n 2, 1) := by decide +kernel
theorem dX12_count_149 : decode cX12_count 149 = .ok (.ireturn, 1) := by decide +kernel
theorem dX12_count_150 : decode cX12_count 150 = .ok (.aload_n 0, 1) := by decide +kernel
theorem dX12_count_151 : decode cX12_count 151 = .ok (.getfield 418, 3) := by decide +kernel
theorem dX12_count_154 : decode cX12_count 154 = .ok (.ireturn, 1) := by decide +kernel
theorem dX12_count_155 : decode cX12_count 155 = .ok (.aload_n 0, 1) := by decide +kernel
theorem dX12_count_156 : decode cX12_count 156 = .ok (.getfield 421, 3) := by decide +kernel
theorem dX12_count_159 : decode cX12_count 159 = .ok (.ireturn, 1) := by decide +kernel
theorem dX12_count_160 : decode cX12_count 160 = .ok (.iconst 0, 1) := by decide +kernel
theorem dX12_count_161 : decode cX12_count 161 = .ok (.istore_n 3, 1) := by decide +kernel
theorem dX12_count_162 : decode cX12_count 162 = .ok (.iload_n 3, 1) := by decide +kernel
theorem dX12_count_163 : decode cX12_count 163 = .ok (.aload_n 0, 1) := by decide +kernel
theorem dX12_count_164 : decode cX12_count 164 = .ok (.getfield 403, 3) := by decide +kernel
theorem dX12_count_167 : decode cX12_count 167 = .ok (.if_icmp .ge 33, 3) := by decide +kernel
theorem dX12_count_170 : decode cX12_count 170 = .ok (.iload_n 2, 1) := by decide +kernel
theorem dX12_count_171 : decode cX12_count 171 = .ok (.iload_n 1, 1) := by decide +kernel
theorem dX12_count_172 : decode cX12_count 172 = .ok (.bipush 11, 2) := by decide +kernel
theorem dX12_count_174 : decode cX12_count 174 = .ok (.if_icmp .ne 12, 3) := by decide +kernel
theorem dX12_count_177 : decode cX12_count 177 = .ok (.aload_n 0, 1) := by decide +kernel
theorem dX12_count_178 : decode cX12_count 178 = .ok (.getfield 131, 3) := by decide +kernel
theorem dX12_count_181 : decode cX12_count 181 = .ok (.iload_n 3, 1) := by decide +kernel
theorem dX12_count_182 : decode cX12_count 182 = .ok (.iaload, 1) := by decide +kernel
theorem dX12_count_183 : decode cX12_count 183 = .ok (.goto 9, 3) := by decide +kernel
theorem dX12_count_186 : decode cX12_count 186 = .ok (.aload_n 0, 1) := by decide +kernel
theorem dX12_count_187 : decode cX12_count 187 = .ok (.getfield 134, 3) := by decide +kernel
theorem dX12_count_190 : decode cX12_count 190 = .ok (.iload_n 3, 1) := by decide +kernel
theorem dX12_count_191 : decode cX12_count 191 = .ok (.iaload, 1) := by decide +kernel
theorem dX12_count_192 : decode cX12_count 192 = .ok (.iadd, 1) := by decide +kernel
theorem dX12_count_193 : decode cX12_count 193 = .ok (.istore_n 2, 1) := by decide +kernel
theorem dX12_count_194 : decode cX12_count 194 = .ok (.iinc 3 1, 3) := by decide +kernel
theorem dX12_count_197 : decode cX12_count 197 = .ok (.goto (-35), 3) := by decide +kernel
theorem dX12_count_200 : decode cX12_count 200 = .ok (.iload_n 2, 1) := by decide +kernel
theorem dX12_count_201 : decode cX12_count 201 = .ok (.ireturn, 1) := by decide +kernel
theorem dX12_count_202 : decode cX12_count 202 = .ok (.iconst (-1), 1) := by decide +kernel
theorem dX12_count_203 : decode cX12_count 203 = .ok (.ireturn, 1) := by decide +kernel
