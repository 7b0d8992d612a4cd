theorem dX7_init_0 : decode cX7_init 0 = .ok (.aload_n 0, 1) := by decide +kernel
theorem dX7_init_1 : decode cX7_init 1 = .ok (.invokespecial 3, 3) := by decide +kernel
theorem dX7_init_4 : decode cX7_init 4 = .ok (.aload_n 0, 1) := by decide +kernel
theorem dX7_init_5 : decode cX7_init 5 = .ok (.iconst 0, 1) := by decide +kernel
theorem dX7_init_6 : decode cX7_init 6 = .ok (.putfield 9, 3) := by decide +kernel
theorem dX7_init_9 : decode cX7_init 9 = .ok (.aload_n 0, 1) := by decide +kernel
theorem dX7_init_10 : decode cX7_init 10 = .ok (.iconst (-1), 1) := by decide +kernel
theorem dX7_init_11 : decode cX7_init 11 = .ok (.putfield 15, 3) := by decide +kernel
theorem dX7_init_14 : decode cX7_init 14 = .ok (.aload_n 0, 1) := by decide +kernel
theorem dX7_init_15 : decode cX7_init 15 = .ok (.iconst 0, 1) := by decide +kernel
theorem dX7_init_16 : decode cX7_init 16 = .ok (.putfield 18, 3) := by decide +kernel
theorem dX7_init_19 : decode cX7_init 19 = .ok (.aload_n 0, 1) := by decide +kernel
theorem dX7_init_20 : decode cX7_init 20 = .ok (.sipush 901, 3) := by decide +kernel
theorem dX7_init_23 : decode cX7_init 23 = .ok (.newarray .int, 2) := by decide +kernel
theorem dX7_init_25 : decode cX7_init 25 = .ok (.putfield 21, 3) := by decide +kernel
theorem dX7_init_28 : decode cX7_init 28 = .ok (.aload_n 0, 1) := by decide +kernel
theorem dX7_init_29 : decode cX7_init 29 = .ok (.sipush 901, 3) := by decide +kernel
theorem dX7_init_32 : decode cX7_init 32 = .ok (.newarray .int, 2) := by decide +kernel
theorem dX7_init_34 : decode cX7_init 34 = .ok (.putfield 25, 3) := by decide +kernel
theorem dX7_init_37 : decode cX7_init 37 = .ok (.aload_n 0, 1) := by decide +kernel
theorem dX7_init_38 : decode cX7_init 38 = .ok (.sipush 901, 3) := by decide +kernel
theorem dX7_init_41 : decode cX7_init 41 = .ok (.newarray .int, 2) := by decide +kernel
theorem dX7_init_43 : decode cX7_init 43 = .ok (.putfield 28, 3) := by decide +kernel
theorem dX7_init_46 : decode cX7_init 46 = .ok (.aload_n 0, 1) := by decide +kernel
theorem dX7_init_47 : decode cX7_init 47 = .ok (.iconst 0, 1) := by decide +kernel
theorem dX7_init_48 : decode cX7_init 48 = .ok (.putfield 31, 3) := by decide +kernel
theorem dX7_init_51 : decode cX7_init 51 = .ok (.aload_n 0, 1) := by decide +kernel
theorem dX7_init_52 : decode cX7_init 52 = .ok (.iconst 0, 1) := by decide +kernel
theorem dX7_init_53 : decode cX7_init 53 = .ok (.putfield 34, 3) := by decide +kernel
theorem dX7_init_56 : decode cX7_init 56 = .ok (.aload_n 0, 1) := by decide +kernel
theorem dX7_init_57 : decode cX7_init 57 = .ok (.bipush 41, 2) := by decide +kernel
theorem dX7_init_59 : decode cX7_init 59 = .ok (.putfield 37, 3) := by decide +kernel
theorem dX7_init_62 : decode cX7_init 62 = .ok (.aload_n 0, 1) := by decide +kernel
theorem dX7_init_63 : decode cX7_init 63 = .ok (.iconst 0, 1) := by decide +kernel
theorem dX7_init_64 : decode cX7_init 64 = .ok (.putfield 40, 3) := by decide +kernel
theorem dX7_init_67 : decode cX7_init 67 = .ok (.aload_n 0, 1) := by decide +kernel
theorem dX7_init_68 : decode cX7_init 68 = .ok (.iconst 0, 1) := by decide +kernel
theorem dX7_init_69 : decode cX7_init 69 = .ok (.putfield 43, 3) := by decide +kernel
theorem dX7_init_72 : decode cX7_init 72 = .ok (.aload_n 0, 1) := by decide +kernel
theorem dX7_init_73 : decode cX7_init 73 = .ok (.aconst_null, 1) := by decide +kernel
theorem dX7_init_74 : decode cX7_init 74 = .ok (.putfield 46, 3) := by decide +kernel
theorem dX7_init_77 : decode cX7_init 77 = .ok (.aload_n 0, 1) := by decide +kernel
theorem dX7_init_78 : decode cX7_init 78 = .ok (.bipush 72, 2) := by decide +kernel
theorem dX7_init_80 : decode cX7_init 80 = .ok (.newarray .int, 2) := by decide +kernel
theorem dX7_init_82 : decode cX7_init 82 = .ok (.putfield 50, 3) := by decide +kernel
theorem dX7_init_85 : decode cX7_init 85 = .ok (.aload_n 0, 1) := by decide +kernel
theorem dX7_init_86 : decode cX7_init 86 = .ok (.iconst 0, 1) := by decide +kernel
theorem dX7_init_87 : decode cX7_init 87 = .ok (.putfield 53, 3) := by decide +kernel
theorem dX7_init_90 : decode cX7_init 90 = .ok (.aload_n 0, 1) := by decide +kernel
theorem dX7_init_91 : decode cX7_init 91 = .ok (.iconst 0, 1) := by decide +kernel
theorem dX7_init_92 : decode cX7_init 92 = .ok (.putfield 56, 3) := by decide +kernel
theorem dX7_init_95 : decode cX7_init 95 = .ok (.return_, 1) := by decide +kernel
theorem dX7_readAll_0 : decode cX7_readAll 0 = .ok (.aload_n 0, 1) := by decide +kernel
theorem dX7_readAll_1 : decode cX7_readAll 1 = .ok (.iconst 0, 1) := by decide +kernel
theorem dX7_readAll_2 : decode cX7_readAll 2 = .ok (.iload_n 2, 1) := by decide +kernel
theorem dX7_readAll_3 : decode cX7_readAll 3 = .ok (.aload_n 1, 1) := by decide +kernel
theorem dX7_readAll_4 : decode cX7_readAll 4 = .ok (.arraylength, 1) := by decide +kernel
theorem dX7_readAll_5 : decode cX7_readAll 5 = .ok (.sipush 900, 3) := by decide +kernel
theorem dX7_readAll_8 : decode cX7_readAll 8 = .ok (.invokestatic 59, 3) := by decide +kernel
theorem dX7_readAll_11 : decode cX7_readAll 11 = .ok (.invokestatic 59, 3) := by decide +kernel
theorem dX7_readAll_14 : decode cX7_readAll 14 = .ok (.invokestatic 65, 3) := by decide +kernel
theorem dX7_readAll_17 : decode cX7_readAll 17 = .ok (.putfield 18, 3) := by decide +kernel
theorem dX7_readAll_20 : decode cX7_readAll 20 = .ok (.aload_n 0, 1) := by decide +kernel
theorem dX7_readAll_21 : decode cX7_readAll 21 = .ok (.aload_n 1, 1) := by decide +kernel
theorem dX7_readAll_22 : decode cX7_readAll 22 = .ok (.invokevirtual 68, 3) := by decide +kernel
theorem dX7_readAll_25 : decode cX7_readAll 25 = .ok (.aload_n 0, 1) := by decide +kernel
theorem dX7_readAll_26 : decode cX7_readAll 26 = .ok (.aload_n 3, 1) := by decide +kernel
theorem dX7_readAll_27 : decode cX7_readAll 27 = .ok (.putfield 46, 3) := by decide +kernel
theorem dX7_readAll_30 : decode cX7_readAll 30 = .ok (.aload_n 0, 1) := by decide +kernel
theorem dX7_readAll_31 : decode cX7_readAll 31 = .ok (.getfield 46, 3) := by decide +kernel
theorem dX7_readAll_34 : decode cX7_readAll 34 = .ok (.invokevirtual 72, 3) := by decide +kernel
theorem dX7_readAll_37 : decode cX7_readAll 37 = .ok (.aload_n 0, 1) := by decide +kernel
theorem dX7_readAll_38 : decode cX7_readAll 38 = .ok (.iconst 0, 1) := by decide +kernel
theorem dX7_readAll_39 : decode cX7_readAll 39 = .ok (.putfield 9, 3) := by decide +kernel
theorem dX7_readAll_42 : decode cX7_readAll 42 = .ok (.aload_n 0, 1) := by decide +kernel
theorem dX7_readAll_43 : decode cX7_readAll 43 = .ok (.iconst (-1), 1) := by decide +kernel
theorem dX7_readAll_44 : decode cX7_readAll 44 = .ok (.putfield 15, 3) := by decide +kernel
theorem dX7_readAll_47 : decode cX7_readAll 47 = .ok (.aload_n 0, 1) := by decide +kernel
theorem dX7_readAll_48 : decode cX7_readAll 48 = .ok (.iconst (-1), 1) := by decide +kernel
theorem dX7_readAll_49 : decode cX7_readAll 49 = .ok (.putfield 34, 3) := by decide +kernel
theorem dX7_readAll_52 : decode cX7_readAll 52 = .ok (.aload_n 0, 1) := by decide +kernel
theorem dX7_readAll_53 : decode cX7_readAll 53 = .ok (.invokevirtual 77, 3) := by decide +kernel
theorem dX7_readAll_56 : decode cX7_readAll 56 = .ok (.iconst 0, 1) := by decide +kernel
theorem dX7_readAll_57 : decode cX7_readAll 57 = .ok (.istore 4, 2) := by decide +kernel
theorem dX7_readAll_59 : decode cX7_readAll 59 = .ok (.iload 4, 2) := by decide +kernel
theorem dX7_readAll_61 : decode cX7_readAll 61 = .ok (.aload_n 0, 1) := by decide +kernel
theorem dX7_readAll_62 : decode cX7_readAll 62 = .ok (.getfield 18, 3) := by decide +kernel
theorem dX7_readAll_65 : decode cX7_readAll 65 = .ok (.if_icmp .gt 61, 3) := by decide +kernel
theorem dX7_readAll_68 : decode cX7_readAll 68 = .ok (.aload_n 0, 1) := by decide +kernel
theorem dX7_readAll_69 : decode cX7_readAll 69 = .ok (.getfield 37, 3) := by decide +kernel
theorem dX7_readAll_72 : decode cX7_readAll 72 = .ok (.bipush 41, 2) := by decide +kernel
theorem dX7_readAll_74 : decode cX7_readAll 74 = .ok (.if_icmp .ne 5, 3) := by decide +kernel
theorem dX7_readAll_77 : decode cX7_readAll 77 = .ok (.iconst 1, 1) := by decide +kernel
theorem dX7_readAll_78 : decode cX7_readAll 78 = .ok (.ireturn, 1) := by decide +kernel
theorem dX7_readAll_79 : decode cX7_readAll 79 = .ok (.aload_n 0, 1) := by decide +kernel
theorem dX7_readAll_80 : decode cX7_readAll 80 = .ok (.invokevirtual 80, 3) := by decide +kernel
theorem dX7_readAll_83 : decode cX7_readAll 83 = .ok (.ifCond .ne 5, 3) := by decide +kernel
theorem dX7_readAll_86 : decode cX7_readAll 86 = .ok (.iconst 0, 1) := by decide +kernel
theorem dX7_readAll_87 : decode cX7_readAll 87 = .ok (.ireturn, 1) := by decide +kernel
theorem dX7_readAll_88 : decode cX7_readAll 88 = .ok (.aload_n 0, 1) := by decide +kernel
theorem dX7_readAll_89 : decode cX7_readAll 89 = .ok (.getfield 37, 3) := by decide +kernel
theorem dX7_readAll_92 : decode cX7_readAll 92 = .ok (.bipush 27, 2) := by decide +kernel
theorem dX7_readAll_94 : decode cX7_readAll 94 = .ok (.if_icmp .eq 9, 3) := by decide +kernel
theorem dX7_readAll_97 : decode cX7_readAll 97 = .ok (.aload_n 0, 1) := by decide +kernel
theorem dX7_readAll_98 : decode cX7_readAll 98 = .ok (.iconst 1, 1) := by decide +kernel
theorem dX7_readAll_99 : decode cX7_readAll 99 = .ok (.invokevirtual 84, 3) := by decide +kernel
theorem dX7_readAll_102 : decode cX7_readAll 102 = .ok (.ireturn, 1) := by decide +kernel
theorem dX7_readAll_103 : decode cX7_readAll 103 = .ok (.aload_n 0, 1) := by decide +kernel
theorem dX7_readAll_104 : decode cX7_readAll 104 = .ok (.getfield 46, 3) := by decide +kernel
theorem dX7_readAll_107 : decode cX7_readAll 107 = .ok (.dup, 1) := by decide +kernel
theorem dX7_readAll_108 : decode cX7_readAll 108 = .ok (.getfield 88, 3) := by decide +kernel
theorem dX7_readAll_111 : decode cX7_readAll 111 = .ok (.iconst 1, 1) := by decide +kernel
theorem dX7_readAll_112 : decode cX7_readAll 112 = .ok (.iadd, 1) := by decide +kernel
theorem dX7_readAll_113 : decode cX7_readAll 113 = .ok (.putfield 88, 3) := by decide +kernel
theorem dX7_readAll_116 : decode cX7_readAll 116 = .ok (.aload_n 0, 1) := by decide +kernel
theorem dX7_readAll_117 : decode cX7_readAll 117 = .ok (.invokevirtual 77, 3) := by decide +kernel
theorem dX7_readAll_120 : decode cX7_readAll 120 = .ok (.iinc 4 1, 3) := by decide +kernel
theorem dX7_readAll_123 : decode cX7_readAll 123 = .ok (.goto (-64), 3) := by decide +kernel
theorem dX7_readAll_126 : decode cX7_readAll 126 = .ok (.iconst 1, 1) := by decide +kernel
theorem dX7_readAll_127 : decode cX7_readAll 127 = .ok (.ireturn, 1) := by decide +kernel
theorem dX7_fail_0 : decode cX7_fail 0 = .ok (.aload_n 0, 1) := by decide +kernel
theorem dX7_fail_1 : decode cX7_fail 1 = .ok (.iload_n 1, 1) := by decide +kernel
theorem dX7_fail_2 : decode cX7_fail 2 = .ok (.putfield 9, 3) := by decide +kernel
theorem dX7_fail_5 : decode cX7_fail 5 = .ok (.aload_n 0, 1) := by decide +kernel
theorem dX7_fail_6 : decode cX7_fail 6 = .ok (.aload_n 0, 1) := by decide +kernel
theorem dX7_fail_7 : decode cX7_fail 7 = .ok (.getfield 25, 3) := by decide +kernel
theorem dX7_fail_10 : decode cX7_fail 10 = .ok (.aload_n 0, 1) := by decide +kernel
theorem dX7_fail_11 : decode cX7_fail 11 = .ok (.getfield 34, 3) := by decide +kernel
theorem dX7_fail_14 : decode cX7_fail 14 = .ok (.iaload, 1) := by decide +kernel
theorem dX7_fail_15 : decode cX7_fail 15 = .ok (.putfield 15, 3) := by decide +kernel
theorem dX7_fail_18 : decode cX7_fail 18 = .ok (.iconst 0, 1) := by decide +kernel
theorem dX7_fail_19 : decode cX7_fail 19 = .ok (.ireturn, 1) := by decide +kernel
theorem dX7_advance_0 : decode cX7_advance 0 = .ok (.aload_n 0, 1) := by decide +kernel
theorem dX7_advance_1 : decode cX7_advance 1 = .ok (.getfield 34, 3) := by decide +kernel
theorem dX7_advance_4 : decode cX7_advance 4 = .ok (.aload_n 0, 1) := by decide +kernel
theorem dX7_advance_5 : decode cX7_advance 5 = .ok (.getfield 31, 3) := by decide +kernel
theorem dX7_advance_8 : decode cX7_advance 8 = .ok (.iconst 1, 1) := by decide +kernel
theorem dX7_advance_9 : decode cX7_advance 9 = .ok (.isub, 1) := by decide +kernel
theorem dX7_advance_10 : decode cX7_advance 10 = .ok (.if_icmp .ge 13, 3) := by decide +kernel
theorem dX7_advance_13 : decode cX7_advance 13 = .ok (.aload_n 0, 1) := by decide +kernel
theorem dX7_advance_14 : decode cX7_advance 14 = .ok (.dup, 1) := by decide +kernel
theorem dX7_advance_15 : decode cX7_advance 15 = .ok (.getfield 34, 3) := by decide +kernel
theorem dX7_advance_18 : decode cX7_advance 18 = .ok (.iconst 1, 1) := by decide +kernel
theorem dX7_advance_19 : decode cX7_advance 19 = .ok (.iadd, 1) := by decide +kernel
theorem dX7_advance_20 : decode cX7_advance 20 = .ok (.putfield 34, 3) := by decide +kernel
theorem dX7_advance_23 : decode cX7_advance 23 = .ok (.aload_n 0, 1) := by decide +kernel
theorem dX7_advance_24 : decode cX7_advance 24 = .ok (.aload_n 0, 1) := by decide +kernel
theorem dX7_advance_25 : decode cX7_advance 25 = .ok (.getfield 21, 3) := by decide +kernel
theorem dX7_advance_28 : decode cX7_advance 28 = .ok (.aload_n 0, 1) := by decide +kernel
theorem dX7_advance_29 : decode cX7_advance 29 = .ok (.getfield 34, 3) := by decide +kernel
theorem dX7_advance_32 : decode cX7_advance 32 = .ok (.iaload, 1) := by decide +kernel
theorem dX7_advance_33 : decode cX7_advance 33 = .ok (.putfield 37, 3) := by decide +kernel
theorem dX7_advance_36 : decode cX7_advance 36 = .ok (.aload_n 0, 1) := by decide +kernel
theorem dX7_advance_37 : decode cX7_advance 37 = .ok (.aload_n 0, 1) := by decide +kernel
theorem dX7_advance_38 : decode cX7_advance 38 = .ok (.getfield 28, 3) := by decide +kernel
theorem dX7_advance_41 : decode cX7_advance 41 = .ok (.aload_n 0, 1) := by decide +kernel
theorem dX7_advance_42 : decode cX7_advance 42 = .ok (.getfield 34, 3) := by decide +kernel
theorem dX7_advance_45 : decode cX7_advance 45 = .ok (.iaload, 1) := by decide +kernel
theorem dX7_advance_46 : decode cX7_advance 46 = .ok (.putfield 40, 3) := by decide +kernel
theorem dX7_advance_49 : decode cX7_advance 49 = .ok (.return_, 1) := by decide +kernel
theorem dX7_splitTape_0 : decode cX7_splitTape 0 = .ok (.aload_n 0, 1) := by decide +kernel
theorem dX7_splitTape_1 : decode cX7_splitTape 1 = .ok (.iconst 0, 1) := by decide +kernel
theorem dX7_splitTape_2 : decode cX7_splitTape 2 = .ok (.putfield 31, 3) := by decide +kernel
theorem dX7_splitTape_5 : decode cX7_splitTape 5 = .ok (.iconst 0, 1) := by decide +kernel
theorem dX7_splitTape_6 : decode cX7_splitTape 6 = .ok (.istore_n 2, 1) := by decide +kernel
theorem dX7_splitTape_7 : decode cX7_splitTape 7 = .ok (.iconst 0, 1) := by decide +kernel
theorem dX7_splitTape_8 : decode cX7_splitTape 8 = .ok (.istore_n 3, 1) := by decide +kernel
theorem dX7_splitTape_9 : decode cX7_splitTape 9 = .ok (.iload_n 3, 1) := by decide +kernel
theorem dX7_splitTape_10 : decode cX7_splitTape 10 = .ok (.aload_n 0, 1) := by decide +kernel
theorem dX7_splitTape_11 : decode cX7_splitTape 11 = .ok (.getfield 18, 3) := by decide +kernel
theorem dX7_splitTape_14 : decode cX7_splitTape 14 = .ok (.if_icmp .ge 78, 3) := by decide +kernel
theorem dX7_splitTape_17 : decode cX7_splitTape 17 = .ok (.iload_n 3, 1) := by decide +kernel
theorem dX7_splitTape_18 : decode cX7_splitTape 18 = .ok (.iload_n 2, 1) := by decide +kernel
theorem dX7_splitTape_19 : decode cX7_splitTape 19 = .ok (.if_icmp .lt 67, 3) := by decide +kernel
theorem dX7_splitTape_22 : decode cX7_splitTape 22 = .ok (.aload_n 1, 1) := by decide +kernel
theorem dX7_splitTape_23 : decode cX7_splitTape 23 = .ok (.iload_n 3, 1) := by decide +kernel
theorem dX7_splitTape_24 : decode cX7_splitTape 24 = .ok (.baload, 1) := by decide +kernel
theorem dX7_splitTape_25 : decode cX7_splitTape 25 = .ok (.bipush 10, 2) := by decide +kernel
theorem dX7_splitTape_27 : decode cX7_splitTape 27 = .ok (.if_icmp .eq 59, 3) := by decide +kernel
theorem dX7_splitTape_30 : decode cX7_splitTape 30 = .ok (.aload_n 1, 1) := by decide +kernel
theorem dX7_splitTape_31 : decode cX7_splitTape 31 = .ok (.iload_n 3, 1) := by decide +kernel
theorem dX7_splitTape_32 : decode cX7_splitTape 32 = .ok (.baload, 1) := by decide +kernel
theorem dX7_splitTape_33 : decode cX7_splitTape 33 = .ok (.bipush 32, 2) := by decide +kernel
theorem dX7_splitTape_35 : decode cX7_splitTape 35 = .ok (.if_icmp .ne 6, 3) := by decide +kernel
theorem dX7_splitTape_38 : decode cX7_splitTape 38 = .ok (.goto 48, 3) := by decide +kernel
theorem dX7_splitTape_41 : decode cX7_splitTape 41 = .ok (.aload_n 1, 1) := by decide +kernel
theorem dX7_splitTape_42 : decode cX7_splitTape 42 = .ok (.iload_n 3, 1) := by decide +kernel
theorem dX7_splitTape_43 : decode cX7_splitTape 43 = .ok (.baload, 1) := by decide +kernel
theorem dX7_splitTape_44 : decode cX7_splitTape 44 = .ok (.invokestatic 91, 3) := by decide +kernel
theorem dX7_splitTape_47 : decode cX7_splitTape 47 = .ok (.ifCond .eq 13, 3) := by decide +kernel
theorem dX7_splitTape_50 : decode cX7_splitTape 50 = .ok (.aload_n 0, 1) := by decide +kernel
theorem dX7_splitTape_51 : decode cX7_splitTape 51 = .ok (.aload_n 1, 1) := by decide +kernel
theorem dX7_splitTape_52 : decode cX7_splitTape 52 = .ok (.iload_n 3, 1) := by decide +kernel
theorem dX7_splitTape_53 : decode cX7_splitTape 53 = .ok (.invokevirtual 94, 3) := by decide +kernel
theorem dX7_splitTape_56 : decode cX7_splitTape 56 = .ok (.istore_n 2, 1) := by decide +kernel
theorem dX7_splitTape_57 : decode cX7_splitTape 57 = .ok (.goto 29, 3) := by decide +kernel
theorem dX7_splitTape_60 : decode cX7_splitTape 60 = .ok (.aload_n 1, 1) := by decide +kernel
theorem dX7_splitTape_61 : decode cX7_splitTape 61 = .ok (.iload_n 3, 1) := by decide +kernel
theorem dX7_splitTape_62 : decode cX7_splitTape 62 = .ok (.baload, 1) := by decide +kernel
theorem dX7_splitTape_63 : decode cX7_splitTape 63 = .ok (.invokestatic 98, 3) := by decide +kernel
theorem dX7_splitTape_66 : decode cX7_splitTape 66 = .ok (.ifCond .eq 13, 3) := by decide +kernel
theorem dX7_splitTape_69 : decode cX7_splitTape 69 = .ok (.aload_n 0, 1) := by decide +kernel
theorem dX7_splitTape_70 : decode cX7_splitTape 70 = .ok (.aload_n 1, 1) := by decide +kernel
theorem dX7_splitTape_71 : decode cX7_splitTape 71 = .ok (.iload_n 3, 1) := by decide +kernel
theorem dX7_splitTape_72 : decode cX7_splitTape 72 = .ok (.invokevirtual 101, 3) := by decide +kernel
theorem dX7_splitTape_75 : decode cX7_splitTape 75 = .ok (.istore_n 2, 1) := by decide +kernel
theorem dX7_splitTape_76 : decode cX7_splitTape 76 = .ok (.goto 10, 3) := by decide +kernel
theorem dX7_splitTape_79 : decode cX7_splitTape 79 = .ok (.aload_n 0, 1) := by decide +kernel
theorem dX7_splitTape_80 : decode cX7_splitTape 80 = .ok (.aload_n 1, 1) := by decide +kernel
theorem dX7_splitTape_81 : decode cX7_splitTape 81 = .ok (.iload_n 3, 1) := by decide +kernel
theorem dX7_splitTape_82 : decode cX7_splitTape 82 = .ok (.invokevirtual 104, 3) := by decide +kernel
theorem dX7_splitTape_85 : decode cX7_splitTape 85 = .ok (.istore_n 2, 1) := by decide +kernel
theorem dX7_splitTape_86 : decode cX7_splitTape 86 = .ok (.iinc 3 1, 3) := by decide +kernel
theorem dX7_splitTape_89 : decode cX7_splitTape 89 = .ok (.goto (-80), 3) := by decide +kernel
theorem dX7_splitTape_92 : decode cX7_splitTape 92 = .ok (.aload_n 0, 1) := by decide +kernel
theorem dX7_splitTape_93 : decode cX7_splitTape 93 = .ok (.bipush 41, 2) := by decide +kernel
theorem dX7_splitTape_95 : decode cX7_splitTape 95 = .ok (.aload_n 0, 1) := by decide +kernel
theorem dX7_splitTape_96 : decode cX7_splitTape 96 = .ok (.getfield 18, 3) := by decide +kernel
theorem dX7_splitTape_99 : decode cX7_splitTape 99 = .ok (.iconst 0, 1) := by decide +kernel
theorem dX7_splitTape_100 : decode cX7_splitTape 100 = .ok (.invokevirtual 107, 3) := by decide +kernel
theorem dX7_splitTape_103 : decode cX7_splitTape 103 = .ok (.return_, 1) := by decide +kernel
theorem dX7_addToken_0 : decode cX7_addToken 0 = .ok (.aload_n 0, 1) := by decide +kernel
theorem dX7_addToken_1 : decode cX7_addToken 1 = .ok (.getfield 31, 3) := by decide +kernel
theorem dX7_addToken_4 : decode cX7_addToken 4 = .ok (.aload_n 0, 1) := by decide +kernel
theorem dX7_addToken_5 : decode cX7_addToken 5 = .ok (.getfield 21, 3) := by decide +kernel
theorem dX7_addToken_8 : decode cX7_addToken 8 = .ok (.arraylength, 1) := by decide +kernel
theorem dX7_addToken_9 : decode cX7_addToken 9 = .ok (.if_icmp .ge 43, 3) := by decide +kernel
theorem dX7_addToken_12 : decode cX7_addToken 12 = .ok (.aload_n 0, 1) := by decide +kernel
theorem dX7_addToken_13 : decode cX7_addToken 13 = .ok (.getfield 21, 3) := by decide +kernel
theorem dX7_addToken_16 : decode cX7_addToken 16 = .ok (.aload_n 0, 1) := by decide +kernel
theorem dX7_addToken_17 : decode cX7_addToken 17 = .ok (.getfield 31, 3) := by decide +kernel
theorem dX7_addToken_20 : decode cX7_addToken 20 = .ok (.iload_n 1, 1) := by decide +kernel
theorem dX7_addToken_21 : decode cX7_addToken 21 = .ok (.iastore, 1) := by decide +kernel
theorem dX7_addToken_22 : decode cX7_addToken 22 = .ok (.aload_n 0, 1) := by decide +kernel
theorem dX7_addToken_23 : decode cX7_addToken 23 = .ok (.getfield 25, 3) := by decide +kernel
theorem dX7_addToken_26 : decode cX7_addToken 26 = .ok (.aload_n 0, 1) := by decide +kernel
theorem dX7_addToken_27 : decode cX7_addToken 27 = .ok (.getfield 31, 3) := by decide +kernel
theorem dX7_addToken_30 : decode cX7_addToken 30 = .ok (.iload_n 2, 1) := by decide +kernel
theorem dX7_addToken_31 : decode cX7_addToken 31 = .ok (.iastore, 1) := by decide +kernel
theorem dX7_addToken_32 : decode cX7_addToken 32 = .ok (.aload_n 0, 1) := by decide +kernel
theorem dX7_addToken_33 : decode cX7_addToken 33 = .ok (.getfield 28, 3) := by decide +kernel
theorem dX7_addToken_36 : decode cX7_addToken 36 = .ok (.aload_n 0, 1) := by decide +kernel
theorem dX7_addToken_37 : decode cX7_addToken 37 = .ok (.getfield 31, 3) := by decide +kernel
theorem dX7_addToken_40 : decode cX7_addToken 40 = .ok (.iload_n 3, 1) := by decide +kernel
theorem dX7_addToken_41 : decode cX7_addToken 41 = .ok (.iastore, 1) := by decide +kernel
theorem dX7_addToken_42 : decode cX7_addToken 42 = .ok (.aload_n 0, 1) := by decide +kernel
theorem dX7_addToken_43 : decode cX7_addToken 43 = .ok (.dup, 1) := by decide +kernel
theorem dX7_addToken_44 : decode cX7_addToken 44 = .ok (.getfield 31, 3) := by decide +kernel
theorem dX7_addToken_47 : decode cX7_addToken 47 = .ok (.iconst 1, 1) := by decide +kernel
theorem dX7_addToken_48 : decode cX7_addToken 48 = .ok (.iadd, 1) := by decide +kernel
theorem dX7_addToken_49 : decode cX7_addToken 49 = .ok (.putfield 31, 3) := by decide +kernel
theorem dX7_addToken_52 : decode cX7_addToken 52 = .ok (.return_, 1) := by decide +kernel
theorem dX7_isLetter_0 : decode cX7_isLetter 0 = .ok (.iload_n 0, 1) := by decide +kernel
theorem dX7_isLetter_1 : decode cX7_isLetter 1 = .ok (.bipush 97, 2) := by decide +kernel
theorem dX7_isLetter_3 : decode cX7_isLetter 3 = .ok (.if_icmp .lt 13, 3) := by decide +kernel
theorem dX7_isLetter_6 : decode cX7_isLetter 6 = .ok (.iload_n 0, 1) := by decide +kernel
theorem dX7_isLetter_7 : decode cX7_isLetter 7 = .ok (.bipush 122, 2) := by decide +kernel
theorem dX7_isLetter_9 : decode cX7_isLetter 9 = .ok (.if_icmp .gt 7, 3) := by decide +kernel
theorem dX7_isLetter_12 : decode cX7_isLetter 12 = .ok (.iconst 1, 1) := by decide +kernel
theorem dX7_isLetter_13 : decode cX7_isLetter 13 = .ok (.goto 4, 3) := by decide +kernel
theorem dX7_isLetter_16 : decode cX7_isLetter 16 = .ok (.iconst 0, 1) := by decide +kernel
theorem dX7_isLetter_17 : decode cX7_isLetter 17 = .ok (.ireturn, 1) := by decide +kernel
theorem dX7_isDigit_0 : decode cX7_isDigit 0 = .ok (.iload_n 0, 1) := by decide +kernel
theorem dX7_isDigit_1 : decode cX7_isDigit 1 = .ok (.bipush 48, 2) := by decide +kernel
theorem dX7_isDigit_3 : decode cX7_isDigit 3 = .ok (.if_icmp .lt 13, 3) := by decide +kernel
theorem dX7_isDigit_6 : decode cX7_isDigit 6 = .ok (.iload_n 0, 1) := by decide +kernel
theorem dX7_isDigit_7 : decode cX7_isDigit 7 = .ok (.bipush 57, 2) := by decide +kernel
theorem dX7_isDigit_9 : decode cX7_isDigit 9 = .ok (.if_icmp .gt 7, 3) := by decide +kernel
theorem dX7_isDigit_12 : decode cX7_isDigit 12 = .ok (.iconst 1, 1) := by decide +kernel
theorem dX7_isDigit_13 : decode cX7_isDigit 13 = .ok (.goto 4, 3) := by decide +kernel
theorem dX7_isDigit_16 : decode cX7_isDigit 16 = .ok (.iconst 0, 1) := by decide +kernel
theorem dX7_isDigit_17 : decode cX7_isDigit 17 = .ok (.ireturn, 1) := by decide +kernel
theorem dX7_splitWord_0 : decode cX7_splitWord 0 = .ok (.iload_n 2, 1) := by decide +kernel
theorem dX7_splitWord_1 : decode cX7_splitWord 1 = .ok (.istore_n 3, 1) := by decide +kernel
theorem dX7_splitWord_2 : decode cX7_splitWord 2 = .ok (.iconst 0, 1) := by decide +kernel
theorem dX7_splitWord_3 : decode cX7_splitWord 3 = .ok (.istore 4, 2) := by decide +kernel
theorem dX7_splitWord_5 : decode cX7_splitWord 5 = .ok (.iload_n 2, 1) := by decide +kernel
theorem dX7_splitWord_6 : decode cX7_splitWord 6 = .ok (.istore 5, 2) := by decide +kernel
theorem dX7_splitWord_8 : decode cX7_splitWord 8 = .ok (.iload 5, 2) := by decide +kernel
theorem dX7_splitWord_10 : decode cX7_splitWord 10 = .ok (.aload_n 0, 1) := by decide +kernel
theorem dX7_splitWord_11 : decode cX7_splitWord 11 = .ok (.getfield 18, 3) := by decide +kernel
theorem dX7_splitWord_14 : decode cX7_splitWord 14 = .ok (.if_icmp .ge 57, 3) := by decide +kernel
theorem dX7_splitWord_17 : decode cX7_splitWord 17 = .ok (.aload_n 1, 1) := by decide +kernel
theorem dX7_splitWord_18 : decode cX7_splitWord 18 = .ok (.iload 5, 2) := by decide +kernel
theorem dX7_splitWord_20 : decode cX7_splitWord 20 = .ok (.baload, 1) := by decide +kernel
theorem dX7_splitWord_21 : decode cX7_splitWord 21 = .ok (.invokestatic 91, 3) := by decide +kernel
theorem dX7_splitWord_24 : decode cX7_splitWord 24 = .ok (.ifCond .eq 47, 3) := by decide +kernel
theorem dX7_splitWord_27 : decode cX7_splitWord 27 = .ok (.iload 5, 2) := by decide +kernel
theorem dX7_splitWord_29 : decode cX7_splitWord 29 = .ok (.iload_n 2, 1) := by decide +kernel
theorem dX7_splitWord_30 : decode cX7_splitWord 30 = .ok (.isub, 1) := by decide +kernel
theorem dX7_splitWord_31 : decode cX7_splitWord 31 = .ok (.bipush 6, 2) := by decide +kernel
theorem dX7_splitWord_33 : decode cX7_splitWord 33 = .ok (.if_icmp .ge 27, 3) := by decide +kernel
theorem dX7_splitWord_36 : decode cX7_splitWord 36 = .ok (.iload 4, 2) := by decide +kernel
theorem dX7_splitWord_38 : decode cX7_splitWord 38 = .ok (.aload_n 1, 1) := by decide +kernel
theorem dX7_splitWord_39 : decode cX7_splitWord 39 = .ok (.iload 5, 2) := by decide +kernel
theorem dX7_splitWord_41 : decode cX7_splitWord 41 = .ok (.baload, 1) := by decide +kernel
theorem dX7_splitWord_42 : decode cX7_splitWord 42 = .ok (.bipush 97, 2) := by decide +kernel
theorem dX7_splitWord_44 : decode cX7_splitWord 44 = .ok (.isub, 1) := by decide +kernel
theorem dX7_splitWord_45 : decode cX7_splitWord 45 = .ok (.iconst 1, 1) := by decide +kernel
theorem dX7_splitWord_46 : decode cX7_splitWord 46 = .ok (.iadd, 1) := by decide +kernel
theorem dX7_splitWord_47 : decode cX7_splitWord 47 = .ok (.bipush 25, 2) := by decide +kernel
theorem dX7_splitWord_49 : decode cX7_splitWord 49 = .ok (.iconst 5, 1) := by decide +kernel
theorem dX7_splitWord_50 : decode cX7_splitWord 50 = .ok (.iload 5, 2) := by decide +kernel
theorem dX7_splitWord_52 : decode cX7_splitWord 52 = .ok (.iload_n 2, 1) := by decide +kernel
theorem dX7_splitWord_53 : decode cX7_splitWord 53 = .ok (.isub, 1) := by decide +kernel
theorem dX7_splitWord_54 : decode cX7_splitWord 54 = .ok (.imul, 1) := by decide +kernel
theorem dX7_splitWord_55 : decode cX7_splitWord 55 = .ok (.isub, 1) := by decide +kernel
theorem dX7_splitWord_56 : decode cX7_splitWord 56 = .ok (.ishl, 1) := by decide +kernel
theorem dX7_splitWord_57 : decode cX7_splitWord 57 = .ok (.ior, 1) := by decide +kernel
theorem dX7_splitWord_58 : decode cX7_splitWord 58 = .ok (.istore 4, 2) := by decide +kernel
theorem dX7_splitWord_60 : decode cX7_splitWord 60 = .ok (.iload 5, 2) := by decide +kernel
theorem dX7_splitWord_62 : decode cX7_splitWord 62 = .ok (.iconst 1, 1) := by decide +kernel
theorem dX7_splitWord_63 : decode cX7_splitWord 63 = .ok (.iadd, 1) := by decide +kernel
theorem dX7_splitWord_64 : decode cX7_splitWord 64 = .ok (.istore_n 3, 1) := by decide +kernel
theorem dX7_splitWord_65 : decode cX7_splitWord 65 = .ok (.iinc 5 1, 3) := by decide +kernel
theorem dX7_splitWord_68 : decode cX7_splitWord 68 = .ok (.goto (-60), 3) := by decide +kernel
theorem dX7_splitWord_71 : decode cX7_splitWord 71 = .ok (.aload_n 1, 1) := by decide +kernel
theorem dX7_splitWord_72 : decode cX7_splitWord 72 = .ok (.iload_n 2, 1) := by decide +kernel
theorem dX7_splitWord_73 : decode cX7_splitWord 73 = .ok (.iload_n 3, 1) := by decide +kernel
theorem dX7_splitWord_74 : decode cX7_splitWord 74 = .ok (.invokestatic 111, 3) := by decide +kernel
theorem dX7_splitWord_77 : decode cX7_splitWord 77 = .ok (.istore 5, 2) := by decide +kernel
theorem dX7_splitWord_79 : decode cX7_splitWord 79 = .ok (.iload 5, 2) := by decide +kernel
theorem dX7_splitWord_81 : decode cX7_splitWord 81 = .ok (.bipush 25, 2) := by decide +kernel
theorem dX7_splitWord_83 : decode cX7_splitWord 83 = .ok (.if_icmp .ne 15, 3) := by decide +kernel
theorem dX7_splitWord_86 : decode cX7_splitWord 86 = .ok (.iload_n 3, 1) := by decide +kernel
theorem dX7_splitWord_87 : decode cX7_splitWord 87 = .ok (.iload_n 2, 1) := by decide +kernel
theorem dX7_splitWord_88 : decode cX7_splitWord 88 = .ok (.isub, 1) := by decide +kernel
theorem dX7_splitWord_89 : decode cX7_splitWord 89 = .ok (.bipush 6, 2) := by decide +kernel
theorem dX7_splitWord_91 : decode cX7_splitWord 91 = .ok (.if_icmp .le 7, 3) := by decide +kernel
theorem dX7_splitWord_94 : decode cX7_splitWord 94 = .ok (.bipush 40, 2) := by decide +kernel
theorem dX7_splitWord_96 : decode cX7_splitWord 96 = .ok (.istore 5, 2) := by decide +kernel
theorem dX7_splitWord_98 : decode cX7_splitWord 98 = .ok (.aload_n 0, 1) := by decide +kernel
theorem dX7_splitWord_99 : decode cX7_splitWord 99 = .ok (.iload 5, 2) := by decide +kernel
theorem dX7_splitWord_101 : decode cX7_splitWord 101 = .ok (.iload_n 2, 1) := by decide +kernel
theorem dX7_splitWord_102 : decode cX7_splitWord 102 = .ok (.iload 4, 2) := by decide +kernel
theorem dX7_splitWord_104 : decode cX7_splitWord 104 = .ok (.invokevirtual 107, 3) := by decide +kernel
theorem dX7_splitWord_107 : decode cX7_splitWord 107 = .ok (.iload_n 3, 1) := by decide +kernel
theorem dX7_splitWord_108 : decode cX7_splitWord 108 = .ok (.ireturn, 1) := by decide +kernel
theorem dX7_wordOfLanguage_0 : decode cX7_wordOfLanguage 0 = .ok (.iconst 0, 1) := by decide +kernel
theorem dX7_wordOfLanguage_1 : decode cX7_wordOfLanguage 1 = .ok (.istore_n 3, 1) := by decide +kernel
theorem dX7_wordOfLanguage_2 : decode cX7_wordOfLanguage 2 = .ok (.iconst 0, 1) := by decide +kernel
theorem dX7_wordOfLanguage_3 : decode cX7_wordOfLanguage 3 = .ok (.istore 4, 2) := by decide +kernel
theorem dX7_wordOfLanguage_5 : decode cX7_wordOfLanguage 5 = .ok (.iconst 0, 1) := by decide +kernel
theorem dX7_wordOfLanguage_6 : decode cX7_wordOfLanguage 6 = .ok (.istore 5, 2) := by decide +kernel
theorem dX7_wordOfLanguage_8 : decode cX7_wordOfLanguage 8 = .ok (.iload 5, 2) := by decide +kernel
theorem dX7_wordOfLanguage_10 : decode cX7_wordOfLanguage 10 = .ok (.ldc 115, 2) := by decide +kernel
theorem dX7_wordOfLanguage_12 : decode cX7_wordOfLanguage 12 = .ok (.invokevirtual 117, 3) := by decide +kernel
theorem dX7_wordOfLanguage_15 : decode cX7_wordOfLanguage 15 = .ok (.if_icmp .ge 55, 3) := by decide +kernel
theorem dX7_wordOfLanguage_18 : decode cX7_wordOfLanguage 18 = .ok (.ldc 115, 2) := by decide +kernel
theorem dX7_wordOfLanguage_20 : decode cX7_wordOfLanguage 20 = .ok (.iload 5, 2) := by decide +kernel
theorem dX7_wordOfLanguage_22 : decode cX7_wordOfLanguage 22 = .ok (.invokevirtual 122, 3) := by decide +kernel
theorem dX7_wordOfLanguage_25 : decode cX7_wordOfLanguage 25 = .ok (.bipush 32, 2) := by decide +kernel
theorem dX7_wordOfLanguage_27 : decode cX7_wordOfLanguage 27 = .ok (.if_icmp .ne 37, 3) := by decide +kernel
theorem dX7_wordOfLanguage_30 : decode cX7_wordOfLanguage 30 = .ok (.iload 5, 2) := by decide +kernel
theorem dX7_wordOfLanguage_32 : decode cX7_wordOfLanguage 32 = .ok (.iload 4, 2) := by decide +kernel
theorem dX7_wordOfLanguage_34 : decode cX7_wordOfLanguage 34 = .ok (.isub, 1) := by decide +kernel
theorem dX7_wordOfLanguage_35 : decode cX7_wordOfLanguage 35 = .ok (.iload_n 2, 1) := by decide +kernel
theorem dX7_wordOfLanguage_36 : decode cX7_wordOfLanguage 36 = .ok (.iload_n 1, 1) := by decide +kernel
theorem dX7_wordOfLanguage_37 : decode cX7_wordOfLanguage 37 = .ok (.isub, 1) := by decide +kernel
theorem dX7_wordOfLanguage_38 : decode cX7_wordOfLanguage 38 = .ok (.if_icmp .ne 17, 3) := by decide +kernel
theorem dX7_wordOfLanguage_41 : decode cX7_wordOfLanguage 41 = .ok (.aload_n 0, 1) := by decide +kernel
theorem dX7_wordOfLanguage_42 : decode cX7_wordOfLanguage 42 = .ok (.iload_n 1, 1) := by decide +kernel
theorem dX7_wordOfLanguage_43 : decode cX7_wordOfLanguage 43 = .ok (.iload 4, 2) := by decide +kernel
theorem dX7_wordOfLanguage_45 : decode cX7_wordOfLanguage 45 = .ok (.iload 5, 2) := by decide +kernel
theorem dX7_wordOfLanguage_47 : decode cX7_wordOfLanguage 47 = .ok (.invokestatic 126, 3) := by decide +kernel
theorem dX7_wordOfLanguage_50 : decode cX7_wordOfLanguage 50 = .ok (.ifCond .eq 5, 3) := by decide +kernel
theorem dX7_wordOfLanguage_53 : decode cX7_wordOfLanguage 53 = .ok (.iload_n 3, 1) := by decide +kernel
theorem dX7_wordOfLanguage_54 : decode cX7_wordOfLanguage 54 = .ok (.ireturn, 1) := by decide +kernel
theorem dX7_wordOfLanguage_55 : decode cX7_wordOfLanguage 55 = .ok (.iinc 3 1, 3) := by decide +kernel
theorem dX7_wordOfLanguage_58 : decode cX7_wordOfLanguage 58 = .ok (.iload 5, 2) := by decide +kernel
theorem dX7_wordOfLanguage_60 : decode cX7_wordOfLanguage 60 = .ok (.iconst 1, 1) := by decide +kernel
theorem dX7_wordOfLanguage_61 : decode cX7_wordOfLanguage 61 = .ok (.iadd, 1) := by decide +kernel
theorem dX7_wordOfLanguage_62 : decode cX7_wordOfLanguage 62 = .ok (.istore 4, 2) := by decide +kernel
theorem dX7_wordOfLanguage_64 : decode cX7_wordOfLanguage 64 = .ok (.iinc 5 1, 3) := by decide +kernel
theorem dX7_wordOfLanguage_67 : decode cX7_wordOfLanguage 67 = .ok (.goto (-59), 3) := by decide +kernel
theorem dX7_wordOfLanguage_70 : decode cX7_wordOfLanguage 70 = .ok (.bipush 25, 2) := by decide +kernel
theorem dX7_wordOfLanguage_72 : decode cX7_wordOfLanguage 72 = .ok (.ireturn, 1) := by decide +kernel
theorem dX7_isSpelled_0 : decode cX7_isSpelled 0 = .ok (.iload_n 2, 1) := by decide +kernel
theorem dX7_isSpelled_1 : decode cX7_isSpelled 1 = .ok (.istore 4, 2) := by decide +kernel
theorem dX7_isSpelled_3 : decode cX7_isSpelled 3 = .ok (.iload 4, 2) := by decide +kernel
theorem dX7_isSpelled_5 : decode cX7_isSpelled 5 = .ok (.iload_n 3, 1) := by decide +kernel
theorem dX7_isSpelled_6 : decode cX7_isSpelled 6 = .ok (.if_icmp .ge 29, 3) := by decide +kernel
theorem dX7_isSpelled_9 : decode cX7_isSpelled 9 = .ok (.ldc 115, 2) := by decide +kernel
theorem dX7_isSpelled_11 : decode cX7_isSpelled 11 = .ok (.iload 4, 2) := by decide +kernel
theorem dX7_isSpelled_13 : decode cX7_isSpelled 13 = .ok (.invokevirtual 122, 3) := by decide +kernel
theorem dX7_isSpelled_16 : decode cX7_isSpelled 16 = .ok (.aload_n 0, 1) := by decide +kernel
theorem dX7_isSpelled_17 : decode cX7_isSpelled 17 = .ok (.iload_n 1, 1) := by decide +kernel
theorem dX7_isSpelled_18 : decode cX7_isSpelled 18 = .ok (.iload 4, 2) := by decide +kernel
theorem dX7_isSpelled_20 : decode cX7_isSpelled 20 = .ok (.iadd, 1) := by decide +kernel
theorem dX7_isSpelled_21 : decode cX7_isSpelled 21 = .ok (.iload_n 2, 1) := by decide +kernel
theorem dX7_isSpelled_22 : decode cX7_isSpelled 22 = .ok (.isub, 1) := by decide +kernel
theorem dX7_isSpelled_23 : decode cX7_isSpelled 23 = .ok (.baload, 1) := by decide +kernel
theorem dX7_isSpelled_24 : decode cX7_isSpelled 24 = .ok (.if_icmp .eq 5, 3) := by decide +kernel
theorem dX7_isSpelled_27 : decode cX7_isSpelled 27 = .ok (.iconst 0, 1) := by decide +kernel
theorem dX7_isSpelled_28 : decode cX7_isSpelled 28 = .ok (.ireturn, 1) := by decide +kernel
theorem dX7_isSpelled_29 : decode cX7_isSpelled 29 = .ok (.iinc 4 1, 3) := by decide +kernel
theorem dX7_isSpelled_32 : decode cX7_isSpelled 32 = .ok (.goto (-29), 3) := by decide +kernel
theorem dX7_isSpelled_35 : decode cX7_isSpelled 35 = .ok (.iconst 1, 1) := by decide +kernel
theorem dX7_isSpelled_36 : decode cX7_isSpelled 36 = .ok (.ireturn, 1) := by decide +kernel
theorem dX7_splitNumber_0 : decode cX7_splitNumber 0 = .ok (.iload_n 2, 1) := by decide +kernel
theorem dX7_splitNumber_1 : decode cX7_splitNumber 1 = .ok (.istore_n 3, 1) := by decide +kernel
theorem dX7_splitNumber_2 : decode cX7_splitNumber 2 = .ok (.iconst 0, 1) := by decide +kernel
theorem dX7_splitNumber_3 : decode cX7_splitNumber 3 = .ok (.istore 4, 2) := by decide +kernel
theorem dX7_splitNumber_5 : decode cX7_splitNumber 5 = .ok (.iload_n 2, 1) := by decide +kernel
theorem dX7_splitNumber_6 : decode cX7_splitNumber 6 = .ok (.istore 5, 2) := by decide +kernel
theorem dX7_splitNumber_8 : decode cX7_splitNumber 8 = .ok (.iload 5, 2) := by decide +kernel
theorem dX7_splitNumber_10 : decode cX7_splitNumber 10 = .ok (.aload_n 0, 1) := by decide +kernel
theorem dX7_splitNumber_11 : decode cX7_splitNumber 11 = .ok (.getfield 18, 3) := by decide +kernel
theorem dX7_splitNumber_14 : decode cX7_splitNumber 14 = .ok (.if_icmp .ge 44, 3) := by decide +kernel
theorem dX7_splitNumber_17 : decode cX7_splitNumber 17 = .ok (.aload_n 1, 1) := by decide +kernel
theorem dX7_splitNumber_18 : decode cX7_splitNumber 18 = .ok (.iload 5, 2) := by decide +kernel
theorem dX7_splitNumber_20 : decode cX7_splitNumber 20 = .ok (.baload, 1) := by decide +kernel
theorem dX7_splitNumber_21 : decode cX7_splitNumber 21 = .ok (.invokestatic 98, 3) := by decide +kernel
theorem dX7_splitNumber_24 : decode cX7_splitNumber 24 = .ok (.ifCond .eq 34, 3) := by decide +kernel
theorem dX7_splitNumber_27 : decode cX7_splitNumber 27 = .ok (.ldc 130, 2) := by decide +kernel
theorem dX7_splitNumber_29 : decode cX7_splitNumber 29 = .ok (.iload 4, 2) := by decide +kernel
theorem dX7_splitNumber_31 : decode cX7_splitNumber 31 = .ok (.bipush 10, 2) := by decide +kernel
theorem dX7_splitNumber_33 : decode cX7_splitNumber 33 = .ok (.imul, 1) := by decide +kernel
theorem dX7_splitNumber_34 : decode cX7_splitNumber 34 = .ok (.aload_n 1, 1) := by decide +kernel
theorem dX7_splitNumber_35 : decode cX7_splitNumber 35 = .ok (.iload 5, 2) := by decide +kernel
theorem dX7_splitNumber_37 : decode cX7_splitNumber 37 = .ok (.baload, 1) := by decide +kernel
theorem dX7_splitNumber_38 : decode cX7_splitNumber 38 = .ok (.iadd, 1) := by decide +kernel
theorem dX7_splitNumber_39 : decode cX7_splitNumber 39 = .ok (.bipush 48, 2) := by decide +kernel
theorem dX7_splitNumber_41 : decode cX7_splitNumber 41 = .ok (.isub, 1) := by decide +kernel
theorem dX7_splitNumber_42 : decode cX7_splitNumber 42 = .ok (.invokestatic 59, 3) := by decide +kernel
theorem dX7_splitNumber_45 : decode cX7_splitNumber 45 = .ok (.istore 4, 2) := by decide +kernel
theorem dX7_splitNumber_47 : decode cX7_splitNumber 47 = .ok (.iload 5, 2) := by decide +kernel
theorem dX7_splitNumber_49 : decode cX7_splitNumber 49 = .ok (.iconst 1, 1) := by decide +kernel
theorem dX7_splitNumber_50 : decode cX7_splitNumber 50 = .ok (.iadd, 1) := by decide +kernel
theorem dX7_splitNumber_51 : decode cX7_splitNumber 51 = .ok (.istore_n 3, 1) := by decide +kernel
theorem dX7_splitNumber_52 : decode cX7_splitNumber 52 = .ok (.iinc 5 1, 3) := by decide +kernel
theorem dX7_splitNumber_55 : decode cX7_splitNumber 55 = .ok (.goto (-47), 3) := by decide +kernel
theorem dX7_splitNumber_58 : decode cX7_splitNumber 58 = .ok (.aload_n 0, 1) := by decide +kernel
theorem dX7_splitNumber_59 : decode cX7_splitNumber 59 = .ok (.bipush 26, 2) := by decide +kernel
theorem dX7_splitNumber_61 : decode cX7_splitNumber 61 = .ok (.iload_n 2, 1) := by decide +kernel
theorem dX7_splitNumber_62 : decode cX7_splitNumber 62 = .ok (.iload 4, 2) := by decide +kernel
theorem dX7_splitNumber_64 : decode cX7_splitNumber 64 = .ok (.invokevirtual 107, 3) := by decide +kernel
theorem dX7_splitNumber_67 : decode cX7_splitNumber 67 = .ok (.iload_n 3, 1) := by decide +kernel
theorem dX7_splitNumber_68 : decode cX7_splitNumber 68 = .ok (.ireturn, 1) := by decide +kernel
theorem dX7_splitSign_0 : decode cX7_splitSign 0 = .ok (.iload_n 2, 1) := by decide +kernel
theorem dX7_splitSign_1 : decode cX7_splitSign 1 = .ok (.iconst 1, 1) := by decide +kernel
theorem dX7_splitSign_2 : decode cX7_splitSign 2 = .ok (.iadd, 1) := by decide +kernel
theorem dX7_splitSign_3 : decode cX7_splitSign 3 = .ok (.aload_n 0, 1) := by decide +kernel
theorem dX7_splitSign_4 : decode cX7_splitSign 4 = .ok (.getfield 18, 3) := by decide +kernel
theorem dX7_splitSign_7 : decode cX7_splitSign 7 = .ok (.if_icmp .ge 11, 3) := by decide +kernel
theorem dX7_splitSign_10 : decode cX7_splitSign 10 = .ok (.aload_n 1, 1) := by decide +kernel
theorem dX7_splitSign_11 : decode cX7_splitSign 11 = .ok (.iload_n 2, 1) := by decide +kernel
theorem dX7_splitSign_12 : decode cX7_splitSign 12 = .ok (.iconst 1, 1) := by decide +kernel
theorem dX7_splitSign_13 : decode cX7_splitSign 13 = .ok (.iadd, 1) := by decide +kernel
theorem dX7_splitSign_14 : decode cX7_splitSign 14 = .ok (.baload, 1) := by decide +kernel
theorem dX7_splitSign_15 : decode cX7_splitSign 15 = .ok (.goto 4, 3) := by decide +kernel
theorem dX7_splitSign_18 : decode cX7_splitSign 18 = .ok (.iconst 0, 1) := by decide +kernel
theorem dX7_splitSign_19 : decode cX7_splitSign 19 = .ok (.istore_n 3, 1) := by decide +kernel
theorem dX7_splitSign_20 : decode cX7_splitSign 20 = .ok (.aload_n 1, 1) := by decide +kernel
theorem dX7_splitSign_21 : decode cX7_splitSign 21 = .ok (.iload_n 2, 1) := by decide +kernel
theorem dX7_splitSign_22 : decode cX7_splitSign 22 = .ok (.baload, 1) := by decide +kernel
theorem dX7_splitSign_23 : decode cX7_splitSign 23 = .ok (.iload_n 3, 1) := by decide +kernel
theorem dX7_splitSign_24 : decode cX7_splitSign 24 = .ok (.invokestatic 131, 3) := by decide +kernel
theorem dX7_splitSign_27 : decode cX7_splitSign 27 = .ok (.istore 4, 2) := by decide +kernel
theorem dX7_splitSign_29 : decode cX7_splitSign 29 = .ok (.aload_n 0, 1) := by decide +kernel
theorem dX7_splitSign_30 : decode cX7_splitSign 30 = .ok (.iload 4, 2) := by decide +kernel
theorem dX7_splitSign_32 : decode cX7_splitSign 32 = .ok (.iload_n 2, 1) := by decide +kernel
theorem dX7_splitSign_33 : decode cX7_splitSign 33 = .ok (.iconst 0, 1) := by decide +kernel
theorem dX7_splitSign_34 : decode cX7_splitSign 34 = .ok (.invokevirtual 107, 3) := by decide +kernel
theorem dX7_splitSign_37 : decode cX7_splitSign 37 = .ok (.iload 4, 2) := by decide +kernel
theorem dX7_splitSign_39 : decode cX7_splitSign 39 = .ok (.bipush 31, 2) := by decide +kernel
theorem dX7_splitSign_41 : decode cX7_splitSign 41 = .ok (.if_icmp .eq 17, 3) := by decide +kernel
theorem dX7_splitSign_44 : decode cX7_splitSign 44 = .ok (.iload 4, 2) := by decide +kernel
theorem dX7_splitSign_46 : decode cX7_splitSign 46 = .ok (.bipush 33, 2) := by decide +kernel
theorem dX7_splitSign_48 : decode cX7_splitSign 48 = .ok (.if_icmp .eq 10, 3) := by decide +kernel
theorem dX7_splitSign_51 : decode cX7_splitSign 51 = .ok (.iload 4, 2) := by decide +kernel
theorem dX7_splitSign_53 : decode cX7_splitSign 53 = .ok (.bipush 34, 2) := by decide +kernel
theorem dX7_splitSign_55 : decode cX7_splitSign 55 = .ok (.if_icmp .ne 9, 3) := by decide +kernel
theorem dX7_splitSign_58 : decode cX7_splitSign 58 = .ok (.iload_n 2, 1) := by decide +kernel
theorem dX7_splitSign_59 : decode cX7_splitSign 59 = .ok (.iconst 2, 1) := by decide +kernel
theorem dX7_splitSign_60 : decode cX7_splitSign 60 = .ok (.iadd, 1) := by decide +kernel
theorem dX7_splitSign_61 : decode cX7_splitSign 61 = .ok (.goto 6, 3) := by decide +kernel
theorem dX7_splitSign_64 : decode cX7_splitSign 64 = .ok (.iload_n 2, 1) := by decide +kernel
theorem dX7_splitSign_65 : decode cX7_splitSign 65 = .ok (.iconst 1, 1) := by decide +kernel
theorem dX7_splitSign_66 : decode cX7_splitSign 66 = .ok (.iadd, 1) := by decide +kernel
theorem dX7_splitSign_67 : decode cX7_splitSign 67 = .ok (.ireturn, 1) := by decide +kernel
theorem dX7_signOf_0 : decode cX7_signOf 0 = .ok (.iload_n 0, 1) := by decide +kernel
theorem dX7_signOf_1 : decode cX7_signOf 1 = .ok (.tableswitch 170 40 62 #[110, 113, 122, 116, 170, 119, 170, 125, 170, 170, 170, 170, 170, 170, 170, 170, 170, 170, 170, 107, 131, 128, 156], 107) := by decide +kernel
theorem dX7_signOf_108 : decode cX7_signOf 108 = .ok (.bipush 27, 2) := by decide +kernel
theorem dX7_signOf_110 : decode cX7_signOf 110 = .ok (.ireturn, 1) := by decide +kernel
theorem dX7_signOf_111 : decode cX7_signOf 111 = .ok (.bipush 28, 2) := by decide +kernel
theorem dX7_signOf_113 : decode cX7_signOf 113 = .ok (.ireturn, 1) := by decide +kernel
theorem dX7_signOf_114 : decode cX7_signOf 114 = .ok (.bipush 29, 2) := by decide +kernel
theorem dX7_signOf_116 : decode cX7_signOf 116 = .ok (.ireturn, 1) := by decide +kernel
theorem dX7_signOf_117 : decode cX7_signOf 117 = .ok (.bipush 36, 2) := by decide +kernel
theorem dX7_signOf_119 : decode cX7_signOf 119 = .ok (.ireturn, 1) := by decide +kernel
theorem dX7_signOf_120 : decode cX7_signOf 120 = .ok (.bipush 37, 2) := by decide +kernel
theorem dX7_signOf_122 : decode cX7_signOf 122 = .ok (.ireturn, 1) := by decide +kernel
theorem dX7_signOf_123 : decode cX7_signOf 123 = .ok (.bipush 38, 2) := by decide +kernel
theorem dX7_signOf_125 : decode cX7_signOf 125 = .ok (.ireturn, 1) := by decide +kernel
theorem dX7_signOf_126 : decode cX7_signOf 126 = .ok (.bipush 39, 2) := by decide +kernel
theorem dX7_signOf_128 : decode cX7_signOf 128 = .ok (.ireturn, 1) := by decide +kernel
theorem dX7_signOf_129 : decode cX7_signOf 129 = .ok (.bipush 32, 2) := by decide +kernel
theorem dX7_signOf_131 : decode cX7_signOf 131 = .ok (.ireturn, 1) := by decide +kernel
theorem dX7_signOf_132 : decode cX7_signOf 132 = .ok (.iload_n 1, 1) := by decide +kernel
theorem dX7_signOf_133 : decode cX7_signOf 133 = .ok (.bipush 61, 2) := by decide +kernel
theorem dX7_signOf_135 : decode cX7_signOf 135 = .ok (.if_icmp .ne 8, 3) := by decide +kernel
theorem dX7_signOf_138 : decode cX7_signOf 138 = .ok (.bipush 31, 2) := by decide +kernel
theorem dX7_signOf_140 : decode cX7_signOf 140 = .ok (.goto 16, 3) := by decide +kernel
theorem dX7_signOf_143 : decode cX7_signOf 143 = .ok (.iload_n 1, 1) := by decide +kernel
theorem dX7_signOf_144 : decode cX7_signOf 144 = .ok (.bipush 62, 2) := by decide +kernel
theorem dX7_signOf_146 : decode cX7_signOf 146 = .ok (.if_icmp .ne 8, 3) := by decide +kernel
theorem dX7_signOf_149 : decode cX7_signOf 149 = .ok (.bipush 33, 2) := by decide +kernel
theorem dX7_signOf_151 : decode cX7_signOf 151 = .ok (.goto 5, 3) := by decide +kernel
theorem dX7_signOf_154 : decode cX7_signOf 154 = .ok (.bipush 30, 2) := by decide +kernel
theorem dX7_signOf_156 : decode cX7_signOf 156 = .ok (.ireturn, 1) := by decide +kernel
theorem dX7_signOf_157 : decode cX7_signOf 157 = .ok (.iload_n 1, 1) := by decide +kernel
theorem dX7_signOf_158 : decode cX7_signOf 158 = .ok (.bipush 61, 2) := by decide +kernel
theorem dX7_signOf_160 : decode cX7_signOf 160 = .ok (.if_icmp .ne 8, 3) := by decide +kernel
theorem dX7_signOf_163 : decode cX7_signOf 163 = .ok (.bipush 34, 2) := by decide +kernel
theorem dX7_signOf_165 : decode cX7_signOf 165 = .ok (.goto 5, 3) := by decide +kernel
theorem dX7_signOf_168 : decode cX7_signOf 168 = .ok (.bipush 35, 2) := by decide +kernel
theorem dX7_signOf_170 : decode cX7_signOf 170 = .ok (.ireturn, 1) := by decide +kernel
theorem dX7_signOf_171 : decode cX7_signOf 171 = .ok (.bipush 40, 2) := by decide +kernel
theorem dX7_signOf_173 : decode cX7_signOf 173 = .ok (.ireturn, 1) := by decide +kernel
theorem dX7_readLine_0 : decode cX7_readLine 0 = .ok (.aload_n 0, 1) := by decide +kernel
theorem dX7_readLine_1 : decode cX7_readLine 1 = .ok (.getfield 37, 3) := by decide +kernel
theorem dX7_readLine_4 : decode cX7_readLine 4 = .ok (.tableswitch 111 0 8 #[52, 57, 62, 67, 72, 77, 82, 94, 106], 52) := by decide +kernel
theorem dX7_readLine_56 : decode cX7_readLine 56 = .ok (.aload_n 0, 1) := by decide +kernel
theorem dX7_readLine_57 : decode cX7_readLine 57 = .ok (.invokevirtual 134, 3) := by decide +kernel
theorem dX7_readLine_60 : decode cX7_readLine 60 = .ok (.ireturn, 1) := by decide +kernel
theorem dX7_readLine_61 : decode cX7_readLine 61 = .ok (.aload_n 0, 1) := by decide +kernel
theorem dX7_readLine_62 : decode cX7_readLine 62 = .ok (.invokevirtual 137, 3) := by decide +kernel
theorem dX7_readLine_65 : decode cX7_readLine 65 = .ok (.ireturn, 1) := by decide +kernel
theorem dX7_readLine_66 : decode cX7_readLine 66 = .ok (.aload_n 0, 1) := by decide +kernel
theorem dX7_readLine_67 : decode cX7_readLine 67 = .ok (.invokevirtual 140, 3) := by decide +kernel
theorem dX7_readLine_70 : decode cX7_readLine 70 = .ok (.ireturn, 1) := by decide +kernel
theorem dX7_readLine_71 : decode cX7_readLine 71 = .ok (.aload_n 0, 1) := by decide +kernel
theorem dX7_readLine_72 : decode cX7_readLine 72 = .ok (.invokevirtual 143, 3) := by decide +kernel
theorem dX7_readLine_75 : decode cX7_readLine 75 = .ok (.ireturn, 1) := by decide +kernel
theorem dX7_readLine_76 : decode cX7_readLine 76 = .ok (.aload_n 0, 1) := by decide +kernel
theorem dX7_readLine_77 : decode cX7_readLine 77 = .ok (.invokevirtual 146, 3) := by decide +kernel
theorem dX7_readLine_80 : decode cX7_readLine 80 = .ok (.ireturn, 1) := by decide +kernel
theorem dX7_readLine_81 : decode cX7_readLine 81 = .ok (.aload_n 0, 1) := by decide +kernel
theorem dX7_readLine_82 : decode cX7_readLine 82 = .ok (.invokevirtual 149, 3) := by decide +kernel
theorem dX7_readLine_85 : decode cX7_readLine 85 = .ok (.ireturn, 1) := by decide +kernel
theorem dX7_readLine_86 : decode cX7_readLine 86 = .ok (.aload_n 0, 1) := by decide +kernel
theorem dX7_readLine_87 : decode cX7_readLine 87 = .ok (.aload_n 0, 1) := by decide +kernel
theorem dX7_readLine_88 : decode cX7_readLine 88 = .ok (.getfield 46, 3) := by decide +kernel
theorem dX7_readLine_91 : decode cX7_readLine 91 = .ok (.getfield 152, 3) := by decide +kernel
theorem dX7_readLine_94 : decode cX7_readLine 94 = .ok (.invokevirtual 156, 3) := by decide +kernel
theorem dX7_readLine_97 : decode cX7_readLine 97 = .ok (.ireturn, 1) := by decide +kernel
theorem dX7_readLine_98 : decode cX7_readLine 98 = .ok (.aload_n 0, 1) := by decide +kernel
theorem dX7_readLine_99 : decode cX7_readLine 99 = .ok (.aload_n 0, 1) := by decide +kernel
theorem dX7_readLine_100 : decode cX7_readLine 100 = .ok (.getfield 46, 3) := by decide +kernel
theorem dX7_readLine_103 : decode cX7_readLine 103 = .ok (.getfield 160, 3) := by decide +kernel
theorem dX7_readLine_106 : decode cX7_readLine 106 = .ok (.invokevirtual 156, 3) := by decide +kernel
theorem dX7_readLine_109 : decode cX7_readLine 109 = .ok (.ireturn, 1) := by decide +kernel
theorem dX7_readLine_110 : decode cX7_readLine 110 = .ok (.aload_n 0, 1) := by decide +kernel
theorem dX7_readLine_111 : decode cX7_readLine 111 = .ok (.invokevirtual 163, 3) := by decide +kernel
theorem dX7_readLine_114 : decode cX7_readLine 114 = .ok (.ireturn, 1) := by decide +kernel
theorem dX7_readLine_115 : decode cX7_readLine 115 = .ok (.aload_n 0, 1) := by decide +kernel
theorem dX7_readLine_116 : decode cX7_readLine 116 = .ok (.iconst 1, 1) := by decide +kernel
theorem dX7_readLine_117 : decode cX7_readLine 117 = .ok (.invokevirtual 84, 3) := by decide +kernel
theorem dX7_readLine_120 : decode cX7_readLine 120 = .ok (.ireturn, 1) := by decide +kernel
theorem dX7_readLadder_0 : decode cX7_readLadder 0 = .ok (.aload_n 0, 1) := by decide +kernel
theorem dX7_readLadder_1 : decode cX7_readLadder 1 = .ok (.getfield 46, 3) := by decide +kernel
theorem dX7_readLadder_4 : decode cX7_readLadder 4 = .ok (.getfield 166, 3) := by decide +kernel
theorem dX7_readLadder_7 : decode cX7_readLadder 7 = .ok (.astore_n 1, 1) := by decide +kernel
theorem dX7_readLadder_8 : decode cX7_readLadder 8 = .ok (.aload_n 1, 1) := by decide +kernel
theorem dX7_readLadder_9 : decode cX7_readLadder 9 = .ok (.getfield 170, 3) := by decide +kernel
theorem dX7_readLadder_12 : decode cX7_readLadder 12 = .ok (.istore_n 2, 1) := by decide +kernel
theorem dX7_readLadder_13 : decode cX7_readLadder 13 = .ok (.iload_n 2, 1) := by decide +kernel
theorem dX7_readLadder_14 : decode cX7_readLadder 14 = .ok (.iconst 4, 1) := by decide +kernel
theorem dX7_readLadder_15 : decode cX7_readLadder 15 = .ok (.if_icmp .lt 9, 3) := by decide +kernel
theorem dX7_readLadder_18 : decode cX7_readLadder 18 = .ok (.aload_n 0, 1) := by decide +kernel
theorem dX7_readLadder_19 : decode cX7_readLadder 19 = .ok (.iconst 2, 1) := by decide +kernel
theorem dX7_readLadder_20 : decode cX7_readLadder 20 = .ok (.invokevirtual 84, 3) := by decide +kernel
theorem dX7_readLadder_23 : decode cX7_readLadder 23 = .ok (.ireturn, 1) := by decide +kernel
theorem dX7_readLadder_24 : decode cX7_readLadder 24 = .ok (.aload_n 0, 1) := by decide +kernel
theorem dX7_readLadder_25 : decode cX7_readLadder 25 = .ok (.invokevirtual 77, 3) := by decide +kernel
theorem dX7_readLadder_28 : decode cX7_readLadder 28 = .ok (.aload_n 0, 1) := by decide +kernel
theorem dX7_readLadder_29 : decode cX7_readLadder 29 = .ok (.aload_n 1, 1) := by decide +kernel
theorem dX7_readLadder_30 : decode cX7_readLadder 30 = .ok (.aload_n 0, 1) := by decide +kernel
theorem dX7_readLadder_31 : decode cX7_readLadder 31 = .ok (.getfield 40, 3) := by decide +kernel
theorem dX7_readLadder_34 : decode cX7_readLadder 34 = .ok (.invokevirtual 175, 3) := by decide +kernel
theorem dX7_readLadder_37 : decode cX7_readLadder 37 = .ok (.invokevirtual 179, 3) := by decide +kernel
theorem dX7_readLadder_40 : decode cX7_readLadder 40 = .ok (.ifCond .ne 5, 3) := by decide +kernel
theorem dX7_readLadder_43 : decode cX7_readLadder 43 = .ok (.iconst 0, 1) := by decide +kernel
theorem dX7_readLadder_44 : decode cX7_readLadder 44 = .ok (.ireturn, 1) := by decide +kernel
theorem dX7_readLadder_45 : decode cX7_readLadder 45 = .ok (.aload_n 1, 1) := by decide +kernel
theorem dX7_readLadder_46 : decode cX7_readLadder 46 = .ok (.getfield 182, 3) := by decide +kernel
theorem dX7_readLadder_49 : decode cX7_readLadder 49 = .ok (.iload_n 2, 1) := by decide +kernel
theorem dX7_readLadder_50 : decode cX7_readLadder 50 = .ok (.aload_n 0, 1) := by decide +kernel
theorem dX7_readLadder_51 : decode cX7_readLadder 51 = .ok (.getfield 40, 3) := by decide +kernel
theorem dX7_readLadder_54 : decode cX7_readLadder 54 = .ok (.iastore, 1) := by decide +kernel
theorem dX7_readLadder_55 : decode cX7_readLadder 55 = .ok (.aload_n 0, 1) := by decide +kernel
theorem dX7_readLadder_56 : decode cX7_readLadder 56 = .ok (.invokevirtual 77, 3) := by decide +kernel
theorem dX7_readLadder_59 : decode cX7_readLadder 59 = .ok (.aload_n 0, 1) := by decide +kernel
theorem dX7_readLadder_60 : decode cX7_readLadder 60 = .ok (.iconst 4, 1) := by decide +kernel
theorem dX7_readLadder_61 : decode cX7_readLadder 61 = .ok (.bipush 30, 2) := by decide +kernel
theorem dX7_readLadder_63 : decode cX7_readLadder 63 = .ok (.invokevirtual 185, 3) := by decide +kernel
theorem dX7_readLadder_66 : decode cX7_readLadder 66 = .ok (.ifCond .ne 5, 3) := by decide +kernel
theorem dX7_readLadder_69 : decode cX7_readLadder 69 = .ok (.iconst 0, 1) := by decide +kernel
theorem dX7_readLadder_70 : decode cX7_readLadder 70 = .ok (.ireturn, 1) := by decide +kernel
theorem dX7_readLadder_71 : decode cX7_readLadder 71 = .ok (.aload_n 1, 1) := by decide +kernel
theorem dX7_readLadder_72 : decode cX7_readLadder 72 = .ok (.getfield 189, 3) := by decide +kernel
theorem dX7_readLadder_75 : decode cX7_readLadder 75 = .ok (.iload_n 2, 1) := by decide +kernel
theorem dX7_readLadder_76 : decode cX7_readLadder 76 = .ok (.aload_n 0, 1) := by decide +kernel
theorem dX7_readLadder_77 : decode cX7_readLadder 77 = .ok (.getfield 43, 3) := by decide +kernel
theorem dX7_readLadder_80 : decode cX7_readLadder 80 = .ok (.iastore, 1) := by decide +kernel
theorem dX7_readLadder_81 : decode cX7_readLadder 81 = .ok (.aload_n 1, 1) := by decide +kernel
theorem dX7_readLadder_82 : decode cX7_readLadder 82 = .ok (.dup, 1) := by decide +kernel
theorem dX7_readLadder_83 : decode cX7_readLadder 83 = .ok (.getfield 170, 3) := by decide +kernel
theorem dX7_readLadder_86 : decode cX7_readLadder 86 = .ok (.iconst 1, 1) := by decide +kernel
theorem dX7_readLadder_87 : decode cX7_readLadder 87 = .ok (.iadd, 1) := by decide +kernel
theorem dX7_readLadder_88 : decode cX7_readLadder 88 = .ok (.putfield 170, 3) := by decide +kernel
theorem dX7_readLadder_91 : decode cX7_readLadder 91 = .ok (.iconst 1, 1) := by decide +kernel
theorem dX7_readLadder_92 : decode cX7_readLadder 92 = .ok (.ireturn, 1) := by decide +kernel
theorem dX7_readPole_0 : decode cX7_readPole 0 = .ok (.aload_n 0, 1) := by decide +kernel
theorem dX7_readPole_1 : decode cX7_readPole 1 = .ok (.getfield 46, 3) := by decide +kernel
theorem dX7_readPole_4 : decode cX7_readPole 4 = .ok (.getfield 166, 3) := by decide +kernel
theorem dX7_readPole_7 : decode cX7_readPole 7 = .ok (.astore_n 1, 1) := by decide +kernel
theorem dX7_readPole_8 : decode cX7_readPole 8 = .ok (.aload_n 1, 1) := by decide +kernel
theorem dX7_readPole_9 : decode cX7_readPole 9 = .ok (.getfield 192, 3) := by decide +kernel
theorem dX7_readPole_12 : decode cX7_readPole 12 = .ok (.istore_n 2, 1) := by decide +kernel
theorem dX7_readPole_13 : decode cX7_readPole 13 = .ok (.iload_n 2, 1) := by decide +kernel
theorem dX7_readPole_14 : decode cX7_readPole 14 = .ok (.iconst 3, 1) := by decide +kernel
theorem dX7_readPole_15 : decode cX7_readPole 15 = .ok (.if_icmp .lt 9, 3) := by decide +kernel
theorem dX7_readPole_18 : decode cX7_readPole 18 = .ok (.aload_n 0, 1) := by decide +kernel
theorem dX7_readPole_19 : decode cX7_readPole 19 = .ok (.iconst 2, 1) := by decide +kernel
theorem dX7_readPole_20 : decode cX7_readPole 20 = .ok (.invokevirtual 84, 3) := by decide +kernel
theorem dX7_readPole_23 : decode cX7_readPole 23 = .ok (.ireturn, 1) := by decide +kernel
theorem dX7_readPole_24 : decode cX7_readPole 24 = .ok (.aload_n 0, 1) := by decide +kernel
theorem dX7_readPole_25 : decode cX7_readPole 25 = .ok (.invokevirtual 77, 3) := by decide +kernel
theorem dX7_readPole_28 : decode cX7_readPole 28 = .ok (.aload_n 0, 1) := by decide +kernel
theorem dX7_readPole_29 : decode cX7_readPole 29 = .ok (.aload_n 1, 1) := by decide +kernel
theorem dX7_readPole_30 : decode cX7_readPole 30 = .ok (.aload_n 0, 1) := by decide +kernel
theorem dX7_readPole_31 : decode cX7_readPole 31 = .ok (.getfield 40, 3) := by decide +kernel
theorem dX7_readPole_34 : decode cX7_readPole 34 = .ok (.invokevirtual 175, 3) := by decide +kernel
theorem dX7_readPole_37 : decode cX7_readPole 37 = .ok (.invokevirtual 179, 3) := by decide +kernel
theorem dX7_readPole_40 : decode cX7_readPole 40 = .ok (.ifCond .ne 5, 3) := by decide +kernel
theorem dX7_readPole_43 : decode cX7_readPole 43 = .ok (.iconst 0, 1) := by decide +kernel
theorem dX7_readPole_44 : decode cX7_readPole 44 = .ok (.ireturn, 1) := by decide +kernel
theorem dX7_readPole_45 : decode cX7_readPole 45 = .ok (.aload_n 1, 1) := by decide +kernel
theorem dX7_readPole_46 : decode cX7_readPole 46 = .ok (.getfield 195, 3) := by decide +kernel
theorem dX7_readPole_49 : decode cX7_readPole 49 = .ok (.iload_n 2, 1) := by decide +kernel
theorem dX7_readPole_50 : decode cX7_readPole 50 = .ok (.aload_n 0, 1) := by decide +kernel
theorem dX7_readPole_51 : decode cX7_readPole 51 = .ok (.getfield 40, 3) := by decide +kernel
theorem dX7_readPole_54 : decode cX7_readPole 54 = .ok (.iastore, 1) := by decide +kernel
theorem dX7_readPole_55 : decode cX7_readPole 55 = .ok (.aload_n 0, 1) := by decide +kernel
theorem dX7_readPole_56 : decode cX7_readPole 56 = .ok (.invokevirtual 77, 3) := by decide +kernel
theorem dX7_readPole_59 : decode cX7_readPole 59 = .ok (.aload_n 0, 1) := by decide +kernel
theorem dX7_readPole_60 : decode cX7_readPole 60 = .ok (.iconst 4, 1) := by decide +kernel
theorem dX7_readPole_61 : decode cX7_readPole 61 = .ok (.bipush 40, 2) := by decide +kernel
theorem dX7_readPole_63 : decode cX7_readPole 63 = .ok (.invokevirtual 185, 3) := by decide +kernel
theorem dX7_readPole_66 : decode cX7_readPole 66 = .ok (.ifCond .ne 5, 3) := by decide +kernel
theorem dX7_readPole_69 : decode cX7_readPole 69 = .ok (.iconst 0, 1) := by decide +kernel
theorem dX7_readPole_70 : decode cX7_readPole 70 = .ok (.ireturn, 1) := by decide +kernel
theorem dX7_readPole_71 : decode cX7_readPole 71 = .ok (.aload_n 1, 1) := by decide +kernel
theorem dX7_readPole_72 : decode cX7_readPole 72 = .ok (.getfield 198, 3) := by decide +kernel
theorem dX7_readPole_75 : decode cX7_readPole 75 = .ok (.iload_n 2, 1) := by decide +kernel
theorem dX7_readPole_76 : decode cX7_readPole 76 = .ok (.aload_n 0, 1) := by decide +kernel
theorem dX7_readPole_77 : decode cX7_readPole 77 = .ok (.getfield 43, 3) := by decide +kernel
theorem dX7_readPole_80 : decode cX7_readPole 80 = .ok (.iastore, 1) := by decide +kernel
theorem dX7_readPole_81 : decode cX7_readPole 81 = .ok (.aload_n 0, 1) := by decide +kernel
theorem dX7_readPole_82 : decode cX7_readPole 82 = .ok (.iconst 0, 1) := by decide +kernel
theorem dX7_readPole_83 : decode cX7_readPole 83 = .ok (.bipush 9, 2) := by decide +kernel
theorem dX7_readPole_85 : decode cX7_readPole 85 = .ok (.invokevirtual 185, 3) := by decide +kernel
theorem dX7_readPole_88 : decode cX7_readPole 88 = .ok (.ifCond .ne 5, 3) := by decide +kernel
theorem dX7_readPole_91 : decode cX7_readPole 91 = .ok (.iconst 0, 1) := by decide +kernel
theorem dX7_readPole_92 : decode cX7_readPole 92 = .ok (.ireturn, 1) := by decide +kernel
theorem dX7_readPole_93 : decode cX7_readPole 93 = .ok (.aload_n 1, 1) := by decide +kernel
theorem dX7_readPole_94 : decode cX7_readPole 94 = .ok (.getfield 201, 3) := by decide +kernel
theorem dX7_readPole_97 : decode cX7_readPole 97 = .ok (.iload_n 2, 1) := by decide +kernel
theorem dX7_readPole_98 : decode cX7_readPole 98 = .ok (.aload_n 0, 1) := by decide +kernel
theorem dX7_readPole_99 : decode cX7_readPole 99 = .ok (.getfield 43, 3) := by decide +kernel
theorem dX7_readPole_102 : decode cX7_readPole 102 = .ok (.iastore, 1) := by decide +kernel
theorem dX7_readPole_103 : decode cX7_readPole 103 = .ok (.aload_n 1, 1) := by decide +kernel
theorem dX7_readPole_104 : decode cX7_readPole 104 = .ok (.dup, 1) := by decide +kernel
theorem dX7_readPole_105 : decode cX7_readPole 105 = .ok (.getfield 192, 3) := by decide +kernel
theorem dX7_readPole_108 : decode cX7_readPole 108 = .ok (.iconst 1, 1) := by decide +kernel
theorem dX7_readPole_109 : decode cX7_readPole 109 = .ok (.iadd, 1) := by decide +kernel
theorem dX7_readPole_110 : decode cX7_readPole 110 = .ok (.putfield 192, 3) := by decide +kernel
theorem dX7_readPole_113 : decode cX7_readPole 113 = .ok (.iconst 1, 1) := by decide +kernel
theorem dX7_readPole_114 : decode cX7_readPole 114 = .ok (.ireturn, 1) := by decide +kernel
theorem dX7_readFront_0 : decode cX7_readFront 0 = .ok (.aload_n 0, 1) := by decide +kernel
theorem dX7_readFront_1 : decode cX7_readFront 1 = .ok (.getfield 46, 3) := by decide +kernel
theorem dX7_readFront_4 : decode cX7_readFront 4 = .ok (.getfield 204, 3) := by decide +kernel
theorem dX7_readFront_7 : decode cX7_readFront 7 = .ok (.iconst 5, 1) := by decide +kernel
theorem dX7_readFront_8 : decode cX7_readFront 8 = .ok (.if_icmp .lt 9, 3) := by decide +kernel
theorem dX7_readFront_11 : decode cX7_readFront 11 = .ok (.aload_n 0, 1) := by decide +kernel
theorem dX7_readFront_12 : decode cX7_readFront 12 = .ok (.iconst 2, 1) := by decide +kernel
theorem dX7_readFront_13 : decode cX7_readFront 13 = .ok (.invokevirtual 84, 3) := by decide +kernel
theorem dX7_readFront_16 : decode cX7_readFront 16 = .ok (.ireturn, 1) := by decide +kernel
theorem dX7_readFront_17 : decode cX7_readFront 17 = .ok (.aload_n 0, 1) := by decide +kernel
theorem dX7_readFront_18 : decode cX7_readFront 18 = .ok (.invokevirtual 77, 3) := by decide +kernel
theorem dX7_readFront_21 : decode cX7_readFront 21 = .ok (.aload_n 0, 1) := by decide +kernel
theorem dX7_readFront_22 : decode cX7_readFront 22 = .ok (.aload_n 0, 1) := by decide +kernel
theorem dX7_readFront_23 : decode cX7_readFront 23 = .ok (.getfield 46, 3) := by decide +kernel
theorem dX7_readFront_26 : decode cX7_readFront 26 = .ok (.aload_n 0, 1) := by decide +kernel
theorem dX7_readFront_27 : decode cX7_readFront 27 = .ok (.getfield 40, 3) := by decide +kernel
theorem dX7_readFront_30 : decode cX7_readFront 30 = .ok (.invokevirtual 207, 3) := by decide +kernel
theorem dX7_readFront_33 : decode cX7_readFront 33 = .ok (.invokevirtual 179, 3) := by decide +kernel
theorem dX7_readFront_36 : decode cX7_readFront 36 = .ok (.ifCond .ne 5, 3) := by decide +kernel
theorem dX7_readFront_39 : decode cX7_readFront 39 = .ok (.iconst 0, 1) := by decide +kernel
theorem dX7_readFront_40 : decode cX7_readFront 40 = .ok (.ireturn, 1) := by decide +kernel
theorem dX7_readFront_41 : decode cX7_readFront 41 = .ok (.aload_n 0, 1) := by decide +kernel
theorem dX7_readFront_42 : decode cX7_readFront 42 = .ok (.getfield 46, 3) := by decide +kernel
theorem dX7_readFront_45 : decode cX7_readFront 45 = .ok (.getfield 210, 3) := by decide +kernel
theorem dX7_readFront_48 : decode cX7_readFront 48 = .ok (.aload_n 0, 1) := by decide +kernel
theorem dX7_readFront_49 : decode cX7_readFront 49 = .ok (.getfield 46, 3) := by decide +kernel
theorem dX7_readFront_52 : decode cX7_readFront 52 = .ok (.getfield 204, 3) := by decide +kernel
theorem dX7_readFront_55 : decode cX7_readFront 55 = .ok (.aaload, 1) := by decide +kernel
theorem dX7_readFront_56 : decode cX7_readFront 56 = .ok (.astore_n 1, 1) := by decide +kernel
theorem dX7_readFront_57 : decode cX7_readFront 57 = .ok (.aload_n 1, 1) := by decide +kernel
theorem dX7_readFront_58 : decode cX7_readFront 58 = .ok (.aload_n 0, 1) := by decide +kernel
theorem dX7_readFront_59 : decode cX7_readFront 59 = .ok (.getfield 40, 3) := by decide +kernel
theorem dX7_readFront_62 : decode cX7_readFront 62 = .ok (.invokevirtual 214, 3) := by decide +kernel
theorem dX7_readFront_65 : decode cX7_readFront 65 = .ok (.aload_n 0, 1) := by decide +kernel
theorem dX7_readFront_66 : decode cX7_readFront 66 = .ok (.invokevirtual 77, 3) := by decide +kernel
theorem dX7_readFront_69 : decode cX7_readFront 69 = .ok (.aload_n 0, 1) := by decide +kernel
theorem dX7_readFront_70 : decode cX7_readFront 70 = .ok (.iconst 1, 1) := by decide +kernel
theorem dX7_readFront_71 : decode cX7_readFront 71 = .ok (.bipush 12, 2) := by decide +kernel
theorem dX7_readFront_73 : decode cX7_readFront 73 = .ok (.invokevirtual 185, 3) := by decide +kernel
theorem dX7_readFront_76 : decode cX7_readFront 76 = .ok (.ifCond .ne 5, 3) := by decide +kernel
theorem dX7_readFront_79 : decode cX7_readFront 79 = .ok (.iconst 0, 1) := by decide +kernel
theorem dX7_readFront_80 : decode cX7_readFront 80 = .ok (.ireturn, 1) := by decide +kernel
theorem dX7_readFront_81 : decode cX7_readFront 81 = .ok (.aload_n 1, 1) := by decide +kernel
theorem dX7_readFront_82 : decode cX7_readFront 82 = .ok (.aload_n 0, 1) := by decide +kernel
theorem dX7_readFront_83 : decode cX7_readFront 83 = .ok (.getfield 43, 3) := by decide +kernel
theorem dX7_readFront_86 : decode cX7_readFront 86 = .ok (.putfield 220, 3) := by decide +kernel
theorem dX7_readFront_89 : decode cX7_readFront 89 = .ok (.aload_n 0, 1) := by decide +kernel
theorem dX7_readFront_90 : decode cX7_readFront 90 = .ok (.iconst 1, 1) := by decide +kernel
theorem dX7_readFront_91 : decode cX7_readFront 91 = .ok (.bipush 24, 2) := by decide +kernel
theorem dX7_readFront_93 : decode cX7_readFront 93 = .ok (.invokevirtual 185, 3) := by decide +kernel
theorem dX7_readFront_96 : decode cX7_readFront 96 = .ok (.ifCond .ne 5, 3) := by decide +kernel
theorem dX7_readFront_99 : decode cX7_readFront 99 = .ok (.iconst 0, 1) := by decide +kernel
theorem dX7_readFront_100 : decode cX7_readFront 100 = .ok (.ireturn, 1) := by decide +kernel
theorem dX7_readFront_101 : decode cX7_readFront 101 = .ok (.aload_n 1, 1) := by decide +kernel
theorem dX7_readFront_102 : decode cX7_readFront 102 = .ok (.aload_n 0, 1) := by decide +kernel
theorem dX7_readFront_103 : decode cX7_readFront 103 = .ok (.getfield 43, 3) := by decide +kernel
theorem dX7_readFront_106 : decode cX7_readFront 106 = .ok (.putfield 223, 3) := by decide +kernel
theorem dX7_readFront_109 : decode cX7_readFront 109 = .ok (.iconst 0, 1) := by decide +kernel
theorem dX7_readFront_110 : decode cX7_readFront 110 = .ok (.istore_n 2, 1) := by decide +kernel
theorem dX7_readFront_111 : decode cX7_readFront 111 = .ok (.iload_n 2, 1) := by decide +kernel
theorem dX7_readFront_112 : decode cX7_readFront 112 = .ok (.aload_n 0, 1) := by decide +kernel
theorem dX7_readFront_113 : decode cX7_readFront 113 = .ok (.getfield 18, 3) := by decide +kernel
theorem dX7_readFront_116 : decode cX7_readFront 116 = .ok (.if_icmp .gt 69, 3) := by decide +kernel
theorem dX7_readFront_119 : decode cX7_readFront 119 = .ok (.aload_n 0, 1) := by decide +kernel
theorem dX7_readFront_120 : decode cX7_readFront 120 = .ok (.getfield 37, 3) := by decide +kernel
theorem dX7_readFront_123 : decode cX7_readFront 123 = .ok (.bipush 9, 2) := by decide +kernel
theorem dX7_readFront_125 : decode cX7_readFront 125 = .ok (.if_icmp .eq 24, 3) := by decide +kernel
theorem dX7_readFront_128 : decode cX7_readFront 128 = .ok (.aload_n 0, 1) := by decide +kernel
theorem dX7_readFront_129 : decode cX7_readFront 129 = .ok (.getfield 37, 3) := by decide +kernel
theorem dX7_readFront_132 : decode cX7_readFront 132 = .ok (.bipush 10, 2) := by decide +kernel
theorem dX7_readFront_134 : decode cX7_readFront 134 = .ok (.if_icmp .eq 15, 3) := by decide +kernel
theorem dX7_readFront_137 : decode cX7_readFront 137 = .ok (.aload_n 0, 1) := by decide +kernel
theorem dX7_readFront_138 : decode cX7_readFront 138 = .ok (.getfield 37, 3) := by decide +kernel
theorem dX7_readFront_141 : decode cX7_readFront 141 = .ok (.bipush 11, 2) := by decide +kernel
theorem dX7_readFront_143 : decode cX7_readFront 143 = .ok (.if_icmp .eq 6, 3) := by decide +kernel
theorem dX7_readFront_146 : decode cX7_readFront 146 = .ok (.goto 39, 3) := by decide +kernel
theorem dX7_readFront_149 : decode cX7_readFront 149 = .ok (.aload_n 0, 1) := by decide +kernel
theorem dX7_readFront_150 : decode cX7_readFront 150 = .ok (.getfield 37, 3) := by decide +kernel
theorem dX7_readFront_153 : decode cX7_readFront 153 = .ok (.bipush 9, 2) := by decide +kernel
theorem dX7_readFront_155 : decode cX7_readFront 155 = .ok (.if_icmp .ne 14, 3) := by decide +kernel
theorem dX7_readFront_158 : decode cX7_readFront 158 = .ok (.aload_n 0, 1) := by decide +kernel
theorem dX7_readFront_159 : decode cX7_readFront 159 = .ok (.aload_n 1, 1) := by decide +kernel
theorem dX7_readFront_160 : decode cX7_readFront 160 = .ok (.invokevirtual 226, 3) := by decide +kernel
theorem dX7_readFront_163 : decode cX7_readFront 163 = .ok (.ifCond .eq 14, 3) := by decide +kernel
theorem dX7_readFront_166 : decode cX7_readFront 166 = .ok (.goto 13, 3) := by decide +kernel
theorem dX7_readFront_169 : decode cX7_readFront 169 = .ok (.aload_n 0, 1) := by decide +kernel
theorem dX7_readFront_170 : decode cX7_readFront 170 = .ok (.aload_n 1, 1) := by decide +kernel
theorem dX7_readFront_171 : decode cX7_readFront 171 = .ok (.invokevirtual 230, 3) := by decide +kernel
theorem dX7_readFront_174 : decode cX7_readFront 174 = .ok (.ifCond .ne 5, 3) := by decide +kernel
theorem dX7_readFront_177 : decode cX7_readFront 177 = .ok (.iconst 0, 1) := by decide +kernel
theorem dX7_readFront_178 : decode cX7_readFront 178 = .ok (.ireturn, 1) := by decide +kernel
theorem dX7_readFront_179 : decode cX7_readFront 179 = .ok (.iinc 2 1, 3) := by decide +kernel
theorem dX7_readFront_182 : decode cX7_readFront 182 = .ok (.goto (-71), 3) := by decide +kernel
theorem dX7_readFront_185 : decode cX7_readFront 185 = .ok (.aload_n 0, 1) := by decide +kernel
theorem dX7_readFront_186 : decode cX7_readFront 186 = .ok (.getfield 46, 3) := by decide +kernel
theorem dX7_readFront_189 : decode cX7_readFront 189 = .ok (.dup, 1) := by decide +kernel
theorem dX7_readFront_190 : decode cX7_readFront 190 = .ok (.getfield 204, 3) := by decide +kernel
theorem dX7_readFront_193 : decode cX7_readFront 193 = .ok (.iconst 1, 1) := by decide +kernel
theorem dX7_readFront_194 : decode cX7_readFront 194 = .ok (.iadd, 1) := by decide +kernel
theorem dX7_readFront_195 : decode cX7_readFront 195 = .ok (.putfield 204, 3) := by decide +kernel
theorem dX7_readFront_198 : decode cX7_readFront 198 = .ok (.iconst 1, 1) := by decide +kernel
theorem dX7_readFront_199 : decode cX7_readFront 199 = .ok (.ireturn, 1) := by decide +kernel
theorem dX7_readGround_0 : decode cX7_readGround 0 = .ok (.aload_n 0, 1) := by decide +kernel
theorem dX7_readGround_1 : decode cX7_readGround 1 = .ok (.getfield 37, 3) := by decide +kernel
theorem dX7_readGround_4 : decode cX7_readGround 4 = .ok (.bipush 10, 2) := by decide +kernel
theorem dX7_readGround_6 : decode cX7_readGround 6 = .ok (.if_icmp .ne 7, 3) := by decide +kernel
theorem dX7_readGround_9 : decode cX7_readGround 9 = .ok (.iconst 1, 1) := by decide +kernel
theorem dX7_readGround_10 : decode cX7_readGround 10 = .ok (.goto 4, 3) := by decide +kernel
theorem dX7_readGround_13 : decode cX7_readGround 13 = .ok (.iconst 0, 1) := by decide +kernel
theorem dX7_readGround_14 : decode cX7_readGround 14 = .ok (.istore_n 2, 1) := by decide +kernel
theorem dX7_readGround_15 : decode cX7_readGround 15 = .ok (.aload_n 0, 1) := by decide +kernel
theorem dX7_readGround_16 : decode cX7_readGround 16 = .ok (.invokevirtual 77, 3) := by decide +kernel
theorem dX7_readGround_19 : decode cX7_readGround 19 = .ok (.aload_n 0, 1) := by decide +kernel
theorem dX7_readGround_20 : decode cX7_readGround 20 = .ok (.iload_n 2, 1) := by decide +kernel
theorem dX7_readGround_21 : decode cX7_readGround 21 = .ok (.ifCond .eq 10, 3) := by decide +kernel
theorem dX7_readGround_24 : decode cX7_readGround 24 = .ok (.aload_n 1, 1) := by decide +kernel
theorem dX7_readGround_25 : decode cX7_readGround 25 = .ok (.getfield 233, 3) := by decide +kernel
theorem dX7_readGround_28 : decode cX7_readGround 28 = .ok (.goto 7, 3) := by decide +kernel
theorem dX7_readGround_31 : decode cX7_readGround 31 = .ok (.aload_n 1, 1) := by decide +kernel
theorem dX7_readGround_32 : decode cX7_readGround 32 = .ok (.getfield 236, 3) := by decide +kernel
theorem dX7_readGround_35 : decode cX7_readGround 35 = .ok (.aload_n 1, 1) := by decide +kernel
theorem dX7_readGround_36 : decode cX7_readGround 36 = .ok (.getfield 220, 3) := by decide +kernel
theorem dX7_readGround_39 : decode cX7_readGround 39 = .ok (.iconst 1, 1) := by decide +kernel
theorem dX7_readGround_40 : decode cX7_readGround 40 = .ok (.isub, 1) := by decide +kernel
theorem dX7_readGround_41 : decode cX7_readGround 41 = .ok (.invokevirtual 239, 3) := by decide +kernel
theorem dX7_readGround_44 : decode cX7_readGround 44 = .ok (.ifCond .ne 5, 3) := by decide +kernel
theorem dX7_readGround_47 : decode cX7_readGround 47 = .ok (.iconst 0, 1) := by decide +kernel
theorem dX7_readGround_48 : decode cX7_readGround 48 = .ok (.ireturn, 1) := by decide +kernel
theorem dX7_readGround_49 : decode cX7_readGround 49 = .ok (.iload_n 2, 1) := by decide +kernel
theorem dX7_readGround_50 : decode cX7_readGround 50 = .ok (.ifCond .eq 21, 3) := by decide +kernel
theorem dX7_readGround_53 : decode cX7_readGround 53 = .ok (.aload_n 1, 1) := by decide +kernel
theorem dX7_readGround_54 : decode cX7_readGround 54 = .ok (.dup, 1) := by decide +kernel
theorem dX7_readGround_55 : decode cX7_readGround 55 = .ok (.getfield 233, 3) := by decide +kernel
theorem dX7_readGround_58 : decode cX7_readGround 58 = .ok (.iconst 1, 1) := by decide +kernel
theorem dX7_readGround_59 : decode cX7_readGround 59 = .ok (.aload_n 0, 1) := by decide +kernel
theorem dX7_readGround_60 : decode cX7_readGround 60 = .ok (.getfield 40, 3) := by decide +kernel
theorem dX7_readGround_63 : decode cX7_readGround 63 = .ok (.ishl, 1) := by decide +kernel
theorem dX7_readGround_64 : decode cX7_readGround 64 = .ok (.ior, 1) := by decide +kernel
theorem dX7_readGround_65 : decode cX7_readGround 65 = .ok (.putfield 233, 3) := by decide +kernel
theorem dX7_readGround_68 : decode cX7_readGround 68 = .ok (.goto 18, 3) := by decide +kernel
theorem dX7_readGround_71 : decode cX7_readGround 71 = .ok (.aload_n 1, 1) := by decide +kernel
theorem dX7_readGround_72 : decode cX7_readGround 72 = .ok (.dup, 1) := by decide +kernel
theorem dX7_readGround_73 : decode cX7_readGround 73 = .ok (.getfield 236, 3) := by decide +kernel
theorem dX7_readGround_76 : decode cX7_readGround 76 = .ok (.iconst 1, 1) := by decide +kernel
theorem dX7_readGround_77 : decode cX7_readGround 77 = .ok (.aload_n 0, 1) := by decide +kernel
theorem dX7_readGround_78 : decode cX7_readGround 78 = .ok (.getfield 40, 3) := by decide +kernel
theorem dX7_readGround_81 : decode cX7_readGround 81 = .ok (.ishl, 1) := by decide +kernel
theorem dX7_readGround_82 : decode cX7_readGround 82 = .ok (.ior, 1) := by decide +kernel
theorem dX7_readGround_83 : decode cX7_readGround 83 = .ok (.putfield 236, 3) := by decide +kernel
theorem dX7_readGround_86 : decode cX7_readGround 86 = .ok (.aload_n 0, 1) := by decide +kernel
theorem dX7_readGround_87 : decode cX7_readGround 87 = .ok (.invokevirtual 77, 3) := by decide +kernel
theorem dX7_readGround_90 : decode cX7_readGround 90 = .ok (.iconst 1, 1) := by decide +kernel
theorem dX7_readGround_91 : decode cX7_readGround 91 = .ok (.ireturn, 1) := by decide +kernel
theorem dX7_readPane_0 : decode cX7_readPane 0 = .ok (.aload_n 1, 1) := by decide +kernel
theorem dX7_readPane_1 : decode cX7_readPane 1 = .ok (.getfield 242, 3) := by decide +kernel
theorem dX7_readPane_4 : decode cX7_readPane 4 = .ok (.istore_n 2, 1) := by decide +kernel
theorem dX7_readPane_5 : decode cX7_readPane 5 = .ok (.iload_n 2, 1) := by decide +kernel
theorem dX7_readPane_6 : decode cX7_readPane 6 = .ok (.bipush 12, 2) := by decide +kernel
theorem dX7_readPane_8 : decode cX7_readPane 8 = .ok (.if_icmp .lt 9, 3) := by decide +kernel
theorem dX7_readPane_11 : decode cX7_readPane 11 = .ok (.aload_n 0, 1) := by decide +kernel
theorem dX7_readPane_12 : decode cX7_readPane 12 = .ok (.iconst 2, 1) := by decide +kernel
theorem dX7_readPane_13 : decode cX7_readPane 13 = .ok (.invokevirtual 84, 3) := by decide +kernel
theorem dX7_readPane_16 : decode cX7_readPane 16 = .ok (.ireturn, 1) := by decide +kernel
theorem dX7_readPane_17 : decode cX7_readPane 17 = .ok (.aload_n 0, 1) := by decide +kernel
theorem dX7_readPane_18 : decode cX7_readPane 18 = .ok (.invokevirtual 77, 3) := by decide +kernel
theorem dX7_readPane_21 : decode cX7_readPane 21 = .ok (.aload_n 0, 1) := by decide +kernel
theorem dX7_readPane_22 : decode cX7_readPane 22 = .ok (.iconst 0, 1) := by decide +kernel
theorem dX7_readPane_23 : decode cX7_readPane 23 = .ok (.aload_n 1, 1) := by decide +kernel
theorem dX7_readPane_24 : decode cX7_readPane 24 = .ok (.getfield 220, 3) := by decide +kernel
theorem dX7_readPane_27 : decode cX7_readPane 27 = .ok (.iconst 1, 1) := by decide +kernel
theorem dX7_readPane_28 : decode cX7_readPane 28 = .ok (.isub, 1) := by decide +kernel
theorem dX7_readPane_29 : decode cX7_readPane 29 = .ok (.invokevirtual 185, 3) := by decide +kernel
theorem dX7_readPane_32 : decode cX7_readPane 32 = .ok (.ifCond .ne 5, 3) := by decide +kernel
theorem dX7_readPane_35 : decode cX7_readPane 35 = .ok (.iconst 0, 1) := by decide +kernel
theorem dX7_readPane_36 : decode cX7_readPane 36 = .ok (.ireturn, 1) := by decide +kernel
theorem dX7_readPane_37 : decode cX7_readPane 37 = .ok (.aload_n 1, 1) := by decide +kernel
theorem dX7_readPane_38 : decode cX7_readPane 38 = .ok (.getfield 245, 3) := by decide +kernel
theorem dX7_readPane_41 : decode cX7_readPane 41 = .ok (.iload_n 2, 1) := by decide +kernel
theorem dX7_readPane_42 : decode cX7_readPane 42 = .ok (.aload_n 0, 1) := by decide +kernel
theorem dX7_readPane_43 : decode cX7_readPane 43 = .ok (.getfield 43, 3) := by decide +kernel
theorem dX7_readPane_46 : decode cX7_readPane 46 = .ok (.iastore, 1) := by decide +kernel
theorem dX7_readPane_47 : decode cX7_readPane 47 = .ok (.aload_n 0, 1) := by decide +kernel
theorem dX7_readPane_48 : decode cX7_readPane 48 = .ok (.iconst 1, 1) := by decide +kernel
theorem dX7_readPane_49 : decode cX7_readPane 49 = .ok (.aload_n 1, 1) := by decide +kernel
theorem dX7_readPane_50 : decode cX7_readPane 50 = .ok (.getfield 223, 3) := by decide +kernel
theorem dX7_readPane_53 : decode cX7_readPane 53 = .ok (.invokevirtual 248, 3) := by decide +kernel
theorem dX7_readPane_56 : decode cX7_readPane 56 = .ok (.ifCond .ne 5, 3) := by decide +kernel
theorem dX7_readPane_59 : decode cX7_readPane 59 = .ok (.iconst 0, 1) := by decide +kernel
theorem dX7_readPane_60 : decode cX7_readPane 60 = .ok (.ireturn, 1) := by decide +kernel
theorem dX7_readPane_61 : decode cX7_readPane 61 = .ok (.aload_n 1, 1) := by decide +kernel
theorem dX7_readPane_62 : decode cX7_readPane 62 = .ok (.aload_n 1, 1) := by decide +kernel
theorem dX7_readPane_63 : decode cX7_readPane 63 = .ok (.getfield 245, 3) := by decide +kernel
theorem dX7_readPane_66 : decode cX7_readPane 66 = .ok (.iload_n 2, 1) := by decide +kernel
theorem dX7_readPane_67 : decode cX7_readPane 67 = .ok (.iaload, 1) := by decide +kernel
theorem dX7_readPane_68 : decode cX7_readPane 68 = .ok (.aload_n 0, 1) := by decide +kernel
theorem dX7_readPane_69 : decode cX7_readPane 69 = .ok (.getfield 40, 3) := by decide +kernel
theorem dX7_readPane_72 : decode cX7_readPane 72 = .ok (.invokevirtual 251, 3) := by decide +kernel
theorem dX7_readPane_75 : decode cX7_readPane 75 = .ok (.ifCond .eq 9, 3) := by decide +kernel
theorem dX7_readPane_78 : decode cX7_readPane 78 = .ok (.aload_n 0, 1) := by decide +kernel
theorem dX7_readPane_79 : decode cX7_readPane 79 = .ok (.iconst 3, 1) := by decide +kernel
theorem dX7_readPane_80 : decode cX7_readPane 80 = .ok (.invokevirtual 84, 3) := by decide +kernel
theorem dX7_readPane_83 : decode cX7_readPane 83 = .ok (.ireturn, 1) := by decide +kernel
theorem dX7_readPane_84 : decode cX7_readPane 84 = .ok (.aload_n 1, 1) := by decide +kernel
theorem dX7_readPane_85 : decode cX7_readPane 85 = .ok (.getfield 254, 3) := by decide +kernel
theorem dX7_readPane_88 : decode cX7_readPane 88 = .ok (.iload_n 2, 1) := by decide +kernel
theorem dX7_readPane_89 : decode cX7_readPane 89 = .ok (.aload_n 0, 1) := by decide +kernel
theorem dX7_readPane_90 : decode cX7_readPane 90 = .ok (.getfield 40, 3) := by decide +kernel
theorem dX7_readPane_93 : decode cX7_readPane 93 = .ok (.iastore, 1) := by decide +kernel
theorem dX7_readPane_94 : decode cX7_readPane 94 = .ok (.aload_n 1, 1) := by decide +kernel
theorem dX7_readPane_95 : decode cX7_readPane 95 = .ok (.dup, 1) := by decide +kernel
theorem dX7_readPane_96 : decode cX7_readPane 96 = .ok (.getfield 242, 3) := by decide +kernel
theorem dX7_readPane_99 : decode cX7_readPane 99 = .ok (.iconst 1, 1) := by decide +kernel
theorem dX7_readPane_100 : decode cX7_readPane 100 = .ok (.iadd, 1) := by decide +kernel
theorem dX7_readPane_101 : decode cX7_readPane 101 = .ok (.putfield 242, 3) := by decide +kernel
theorem dX7_readPane_104 : decode cX7_readPane 104 = .ok (.aload_n 0, 1) := by decide +kernel
theorem dX7_readPane_105 : decode cX7_readPane 105 = .ok (.invokevirtual 77, 3) := by decide +kernel
theorem dX7_readPane_108 : decode cX7_readPane 108 = .ok (.iconst 1, 1) := by decide +kernel
theorem dX7_readPane_109 : decode cX7_readPane 109 = .ok (.ireturn, 1) := by decide +kernel
theorem dX7_readMan_0 : decode cX7_readMan 0 = .ok (.aload_n 0, 1) := by decide +kernel
theorem dX7_readMan_1 : decode cX7_readMan 1 = .ok (.getfield 46, 3) := by decide +kernel
theorem dX7_readMan_4 : decode cX7_readMan 4 = .ok (.getfield 257, 3) := by decide +kernel
theorem dX7_readMan_7 : decode cX7_readMan 7 = .ok (.iconst 3, 1) := by decide +kernel
theorem dX7_readMan_8 : decode cX7_readMan 8 = .ok (.if_icmp .lt 9, 3) := by decide +kernel
theorem dX7_readMan_11 : decode cX7_readMan 11 = .ok (.aload_n 0, 1) := by decide +kernel
theorem dX7_readMan_12 : decode cX7_readMan 12 = .ok (.iconst 2, 1) := by decide +kernel
theorem dX7_readMan_13 : decode cX7_readMan 13 = .ok (.invokevirtual 84, 3) := by decide +kernel
theorem dX7_readMan_16 : decode cX7_readMan 16 = .ok (.ireturn, 1) := by decide +kernel
theorem dX7_readMan_17 : decode cX7_readMan 17 = .ok (.aload_n 0, 1) := by decide +kernel
theorem dX7_readMan_18 : decode cX7_readMan 18 = .ok (.invokevirtual 77, 3) := by decide +kernel
theorem dX7_readMan_21 : decode cX7_readMan 21 = .ok (.aload_n 0, 1) := by decide +kernel
theorem dX7_readMan_22 : decode cX7_readMan 22 = .ok (.aload_n 0, 1) := by decide +kernel
theorem dX7_readMan_23 : decode cX7_readMan 23 = .ok (.getfield 46, 3) := by decide +kernel
theorem dX7_readMan_26 : decode cX7_readMan 26 = .ok (.aload_n 0, 1) := by decide +kernel
theorem dX7_readMan_27 : decode cX7_readMan 27 = .ok (.getfield 40, 3) := by decide +kernel
theorem dX7_readMan_30 : decode cX7_readMan 30 = .ok (.invokevirtual 260, 3) := by decide +kernel
theorem dX7_readMan_33 : decode cX7_readMan 33 = .ok (.invokevirtual 179, 3) := by decide +kernel
theorem dX7_readMan_36 : decode cX7_readMan 36 = .ok (.ifCond .ne 5, 3) := by decide +kernel
theorem dX7_readMan_39 : decode cX7_readMan 39 = .ok (.iconst 0, 1) := by decide +kernel
theorem dX7_readMan_40 : decode cX7_readMan 40 = .ok (.ireturn, 1) := by decide +kernel
theorem dX7_readMan_41 : decode cX7_readMan 41 = .ok (.aload_n 0, 1) := by decide +kernel
theorem dX7_readMan_42 : decode cX7_readMan 42 = .ok (.getfield 46, 3) := by decide +kernel
theorem dX7_readMan_45 : decode cX7_readMan 45 = .ok (.getfield 263, 3) := by decide +kernel
theorem dX7_readMan_48 : decode cX7_readMan 48 = .ok (.aload_n 0, 1) := by decide +kernel
theorem dX7_readMan_49 : decode cX7_readMan 49 = .ok (.getfield 46, 3) := by decide +kernel
theorem dX7_readMan_52 : decode cX7_readMan 52 = .ok (.getfield 257, 3) := by decide +kernel
theorem dX7_readMan_55 : decode cX7_readMan 55 = .ok (.aaload, 1) := by decide +kernel
theorem dX7_readMan_56 : decode cX7_readMan 56 = .ok (.astore_n 1, 1) := by decide +kernel
theorem dX7_readMan_57 : decode cX7_readMan 57 = .ok (.aload_n 1, 1) := by decide +kernel
theorem dX7_readMan_58 : decode cX7_readMan 58 = .ok (.aload_n 0, 1) := by decide +kernel
theorem dX7_readMan_59 : decode cX7_readMan 59 = .ok (.getfield 40, 3) := by decide +kernel
theorem dX7_readMan_62 : decode cX7_readMan 62 = .ok (.putfield 267, 3) := by decide +kernel
theorem dX7_readMan_65 : decode cX7_readMan 65 = .ok (.aload_n 0, 1) := by decide +kernel
theorem dX7_readMan_66 : decode cX7_readMan 66 = .ok (.invokevirtual 77, 3) := by decide +kernel
theorem dX7_readMan_69 : decode cX7_readMan 69 = .ok (.aload_n 0, 1) := by decide +kernel
theorem dX7_readMan_70 : decode cX7_readMan 70 = .ok (.iconst 0, 1) := by decide +kernel
theorem dX7_readMan_71 : decode cX7_readMan 71 = .ok (.bipush 9, 2) := by decide +kernel
theorem dX7_readMan_73 : decode cX7_readMan 73 = .ok (.invokevirtual 185, 3) := by decide +kernel
theorem dX7_readMan_76 : decode cX7_readMan 76 = .ok (.ifCond .ne 5, 3) := by decide +kernel
theorem dX7_readMan_79 : decode cX7_readMan 79 = .ok (.iconst 0, 1) := by decide +kernel
theorem dX7_readMan_80 : decode cX7_readMan 80 = .ok (.ireturn, 1) := by decide +kernel
theorem dX7_readMan_81 : decode cX7_readMan 81 = .ok (.aload_n 1, 1) := by decide +kernel
theorem dX7_readMan_82 : decode cX7_readMan 82 = .ok (.aload_n 0, 1) := by decide +kernel
theorem dX7_readMan_83 : decode cX7_readMan 83 = .ok (.getfield 43, 3) := by decide +kernel
theorem dX7_readMan_86 : decode cX7_readMan 86 = .ok (.putfield 272, 3) := by decide +kernel
theorem dX7_readMan_89 : decode cX7_readMan 89 = .ok (.aload_n 0, 1) := by decide +kernel
theorem dX7_readMan_90 : decode cX7_readMan 90 = .ok (.iconst 0, 1) := by decide +kernel
theorem dX7_readMan_91 : decode cX7_readMan 91 = .ok (.bipush 99, 2) := by decide +kernel
theorem dX7_readMan_93 : decode cX7_readMan 93 = .ok (.invokevirtual 185, 3) := by decide +kernel
theorem dX7_readMan_96 : decode cX7_readMan 96 = .ok (.ifCond .ne 5, 3) := by decide +kernel
theorem dX7_readMan_99 : decode cX7_readMan 99 = .ok (.iconst 0, 1) := by decide +kernel
theorem dX7_readMan_100 : decode cX7_readMan 100 = .ok (.ireturn, 1) := by decide +kernel
theorem dX7_readMan_101 : decode cX7_readMan 101 = .ok (.aload_n 1, 1) := by decide +kernel
theorem dX7_readMan_102 : decode cX7_readMan 102 = .ok (.aload_n 0, 1) := by decide +kernel
theorem dX7_readMan_103 : decode cX7_readMan 103 = .ok (.getfield 43, 3) := by decide +kernel
theorem dX7_readMan_106 : decode cX7_readMan 106 = .ok (.putfield 275, 3) := by decide +kernel
theorem dX7_readMan_109 : decode cX7_readMan 109 = .ok (.aload_n 0, 1) := by decide +kernel
theorem dX7_readMan_110 : decode cX7_readMan 110 = .ok (.bipush 10, 2) := by decide +kernel
theorem dX7_readMan_112 : decode cX7_readMan 112 = .ok (.sipush 600, 3) := by decide +kernel
theorem dX7_readMan_115 : decode cX7_readMan 115 = .ok (.invokevirtual 185, 3) := by decide +kernel
theorem dX7_readMan_118 : decode cX7_readMan 118 = .ok (.ifCond .ne 5, 3) := by decide +kernel
theorem dX7_readMan_121 : decode cX7_readMan 121 = .ok (.iconst 0, 1) := by decide +kernel
theorem dX7_readMan_122 : decode cX7_readMan 122 = .ok (.ireturn, 1) := by decide +kernel
theorem dX7_readMan_123 : decode cX7_readMan 123 = .ok (.aload_n 1, 1) := by decide +kernel
theorem dX7_readMan_124 : decode cX7_readMan 124 = .ok (.aload_n 0, 1) := by decide +kernel
theorem dX7_readMan_125 : decode cX7_readMan 125 = .ok (.getfield 43, 3) := by decide +kernel
theorem dX7_readMan_128 : decode cX7_readMan 128 = .ok (.putfield 278, 3) := by decide +kernel
theorem dX7_readMan_131 : decode cX7_readMan 131 = .ok (.aload_n 0, 1) := by decide +kernel
theorem dX7_readMan_132 : decode cX7_readMan 132 = .ok (.getfield 46, 3) := by decide +kernel
theorem dX7_readMan_135 : decode cX7_readMan 135 = .ok (.dup, 1) := by decide +kernel
theorem dX7_readMan_136 : decode cX7_readMan 136 = .ok (.getfield 257, 3) := by decide +kernel
theorem dX7_readMan_139 : decode cX7_readMan 139 = .ok (.iconst 1, 1) := by decide +kernel
theorem dX7_readMan_140 : decode cX7_readMan 140 = .ok (.iadd, 1) := by decide +kernel
theorem dX7_readMan_141 : decode cX7_readMan 141 = .ok (.putfield 257, 3) := by decide +kernel
theorem dX7_readMan_144 : decode cX7_readMan 144 = .ok (.iconst 1, 1) := by decide +kernel
theorem dX7_readMan_145 : decode cX7_readMan 145 = .ok (.ireturn, 1) := by decide +kernel
theorem dX7_readHouse_0 : decode cX7_readHouse 0 = .ok (.aload_n 0, 1) := by decide +kernel
theorem dX7_readHouse_1 : decode cX7_readHouse 1 = .ok (.getfield 46, 3) := by decide +kernel
theorem dX7_readHouse_4 : decode cX7_readHouse 4 = .ok (.getfield 281, 3) := by decide +kernel
theorem dX7_readHouse_7 : decode cX7_readHouse 7 = .ok (.bipush 10, 2) := by decide +kernel
theorem dX7_readHouse_9 : decode cX7_readHouse 9 = .ok (.if_icmp .lt 9, 3) := by decide +kernel
theorem dX7_readHouse_12 : decode cX7_readHouse 12 = .ok (.aload_n 0, 1) := by decide +kernel
theorem dX7_readHouse_13 : decode cX7_readHouse 13 = .ok (.iconst 2, 1) := by decide +kernel
theorem dX7_readHouse_14 : decode cX7_readHouse 14 = .ok (.invokevirtual 84, 3) := by decide +kernel
theorem dX7_readHouse_17 : decode cX7_readHouse 17 = .ok (.ireturn, 1) := by decide +kernel
theorem dX7_readHouse_18 : decode cX7_readHouse 18 = .ok (.aload_n 0, 1) := by decide +kernel
theorem dX7_readHouse_19 : decode cX7_readHouse 19 = .ok (.invokevirtual 77, 3) := by decide +kernel
theorem dX7_readHouse_22 : decode cX7_readHouse 22 = .ok (.aload_n 0, 1) := by decide +kernel
theorem dX7_readHouse_23 : decode cX7_readHouse 23 = .ok (.aload_n 0, 1) := by decide +kernel
theorem dX7_readHouse_24 : decode cX7_readHouse 24 = .ok (.getfield 46, 3) := by decide +kernel
theorem dX7_readHouse_27 : decode cX7_readHouse 27 = .ok (.aload_n 0, 1) := by decide +kernel
theorem dX7_readHouse_28 : decode cX7_readHouse 28 = .ok (.getfield 40, 3) := by decide +kernel
theorem dX7_readHouse_31 : decode cX7_readHouse 31 = .ok (.invokevirtual 284, 3) := by decide +kernel
theorem dX7_readHouse_34 : decode cX7_readHouse 34 = .ok (.invokevirtual 179, 3) := by decide +kernel
theorem dX7_readHouse_37 : decode cX7_readHouse 37 = .ok (.ifCond .ne 5, 3) := by decide +kernel
theorem dX7_readHouse_40 : decode cX7_readHouse 40 = .ok (.iconst 0, 1) := by decide +kernel
theorem dX7_readHouse_41 : decode cX7_readHouse 41 = .ok (.ireturn, 1) := by decide +kernel
theorem dX7_readHouse_42 : decode cX7_readHouse 42 = .ok (.aload_n 0, 1) := by decide +kernel
theorem dX7_readHouse_43 : decode cX7_readHouse 43 = .ok (.getfield 46, 3) := by decide +kernel
theorem dX7_readHouse_46 : decode cX7_readHouse 46 = .ok (.getfield 287, 3) := by decide +kernel
theorem dX7_readHouse_49 : decode cX7_readHouse 49 = .ok (.aload_n 0, 1) := by decide +kernel
theorem dX7_readHouse_50 : decode cX7_readHouse 50 = .ok (.getfield 46, 3) := by decide +kernel
theorem dX7_readHouse_53 : decode cX7_readHouse 53 = .ok (.getfield 281, 3) := by decide +kernel
theorem dX7_readHouse_56 : decode cX7_readHouse 56 = .ok (.aaload, 1) := by decide +kernel
theorem dX7_readHouse_57 : decode cX7_readHouse 57 = .ok (.astore_n 1, 1) := by decide +kernel
theorem dX7_readHouse_58 : decode cX7_readHouse 58 = .ok (.aload_n 1, 1) := by decide +kernel
theorem dX7_readHouse_59 : decode cX7_readHouse 59 = .ok (.aload_n 0, 1) := by decide +kernel
theorem dX7_readHouse_60 : decode cX7_readHouse 60 = .ok (.getfield 40, 3) := by decide +kernel
theorem dX7_readHouse_63 : decode cX7_readHouse 63 = .ok (.invokevirtual 291, 3) := by decide +kernel
theorem dX7_readHouse_66 : decode cX7_readHouse 66 = .ok (.aload_n 0, 1) := by decide +kernel
theorem dX7_readHouse_67 : decode cX7_readHouse 67 = .ok (.invokevirtual 77, 3) := by decide +kernel
theorem dX7_readHouse_70 : decode cX7_readHouse 70 = .ok (.aload_n 0, 1) := by decide +kernel
theorem dX7_readHouse_71 : decode cX7_readHouse 71 = .ok (.aload_n 0, 1) := by decide +kernel
theorem dX7_readHouse_72 : decode cX7_readHouse 72 = .ok (.getfield 46, 3) := by decide +kernel
theorem dX7_readHouse_75 : decode cX7_readHouse 75 = .ok (.aload_n 0, 1) := by decide +kernel
theorem dX7_readHouse_76 : decode cX7_readHouse 76 = .ok (.getfield 40, 3) := by decide +kernel
theorem dX7_readHouse_79 : decode cX7_readHouse 79 = .ok (.invokevirtual 207, 3) := by decide +kernel
theorem dX7_readHouse_82 : decode cX7_readHouse 82 = .ok (.invokevirtual 294, 3) := by decide +kernel
theorem dX7_readHouse_85 : decode cX7_readHouse 85 = .ok (.ifCond .ne 5, 3) := by decide +kernel
theorem dX7_readHouse_88 : decode cX7_readHouse 88 = .ok (.iconst 0, 1) := by decide +kernel
theorem dX7_readHouse_89 : decode cX7_readHouse 89 = .ok (.ireturn, 1) := by decide +kernel
theorem dX7_readHouse_90 : decode cX7_readHouse 90 = .ok (.aload_n 1, 1) := by decide +kernel
theorem dX7_readHouse_91 : decode cX7_readHouse 91 = .ok (.aload_n 0, 1) := by decide +kernel
theorem dX7_readHouse_92 : decode cX7_readHouse 92 = .ok (.getfield 46, 3) := by decide +kernel
theorem dX7_readHouse_95 : decode cX7_readHouse 95 = .ok (.aload_n 0, 1) := by decide +kernel
theorem dX7_readHouse_96 : decode cX7_readHouse 96 = .ok (.getfield 40, 3) := by decide +kernel
theorem dX7_readHouse_99 : decode cX7_readHouse 99 = .ok (.invokevirtual 207, 3) := by decide +kernel
theorem dX7_readHouse_102 : decode cX7_readHouse 102 = .ok (.putfield 297, 3) := by decide +kernel
theorem dX7_readHouse_105 : decode cX7_readHouse 105 = .ok (.aload_n 0, 1) := by decide +kernel
theorem dX7_readHouse_106 : decode cX7_readHouse 106 = .ok (.invokevirtual 77, 3) := by decide +kernel
theorem dX7_readHouse_109 : decode cX7_readHouse 109 = .ok (.aload_n 0, 1) := by decide +kernel
theorem dX7_readHouse_110 : decode cX7_readHouse 110 = .ok (.aload_n 0, 1) := by decide +kernel
theorem dX7_readHouse_111 : decode cX7_readHouse 111 = .ok (.getfield 46, 3) := by decide +kernel
theorem dX7_readHouse_114 : decode cX7_readHouse 114 = .ok (.aload_n 0, 1) := by decide +kernel
theorem dX7_readHouse_115 : decode cX7_readHouse 115 = .ok (.getfield 40, 3) := by decide +kernel
theorem dX7_readHouse_118 : decode cX7_readHouse 118 = .ok (.invokevirtual 260, 3) := by decide +kernel
theorem dX7_readHouse_121 : decode cX7_readHouse 121 = .ok (.invokevirtual 294, 3) := by decide +kernel
theorem dX7_readHouse_124 : decode cX7_readHouse 124 = .ok (.ifCond .ne 5, 3) := by decide +kernel
theorem dX7_readHouse_127 : decode cX7_readHouse 127 = .ok (.iconst 0, 1) := by decide +kernel
theorem dX7_readHouse_128 : decode cX7_readHouse 128 = .ok (.ireturn, 1) := by decide +kernel
theorem dX7_readHouse_129 : decode cX7_readHouse 129 = .ok (.aload_n 1, 1) := by decide +kernel
theorem dX7_readHouse_130 : decode cX7_readHouse 130 = .ok (.aload_n 0, 1) := by decide +kernel
theorem dX7_readHouse_131 : decode cX7_readHouse 131 = .ok (.getfield 46, 3) := by decide +kernel
theorem dX7_readHouse_134 : decode cX7_readHouse 134 = .ok (.aload_n 0, 1) := by decide +kernel
theorem dX7_readHouse_135 : decode cX7_readHouse 135 = .ok (.getfield 40, 3) := by decide +kernel
theorem dX7_readHouse_138 : decode cX7_readHouse 138 = .ok (.invokevirtual 260, 3) := by decide +kernel
theorem dX7_readHouse_141 : decode cX7_readHouse 141 = .ok (.putfield 299, 3) := by decide +kernel
theorem dX7_readHouse_144 : decode cX7_readHouse 144 = .ok (.aload_n 0, 1) := by decide +kernel
theorem dX7_readHouse_145 : decode cX7_readHouse 145 = .ok (.invokevirtual 77, 3) := by decide +kernel
theorem dX7_readHouse_148 : decode cX7_readHouse 148 = .ok (.aload_n 0, 1) := by decide +kernel
theorem dX7_readHouse_149 : decode cX7_readHouse 149 = .ok (.aload_n 1, 1) := by decide +kernel
theorem dX7_readHouse_150 : decode cX7_readHouse 150 = .ok (.invokevirtual 301, 3) := by decide +kernel
theorem dX7_readHouse_153 : decode cX7_readHouse 153 = .ok (.ifCond .eq 11, 3) := by decide +kernel
theorem dX7_readHouse_156 : decode cX7_readHouse 156 = .ok (.aload_n 0, 1) := by decide +kernel
theorem dX7_readHouse_157 : decode cX7_readHouse 157 = .ok (.aload_n 1, 1) := by decide +kernel
theorem dX7_readHouse_158 : decode cX7_readHouse 158 = .ok (.invokevirtual 305, 3) := by decide +kernel
theorem dX7_readHouse_161 : decode cX7_readHouse 161 = .ok (.ifCond .ne 5, 3) := by decide +kernel
theorem dX7_readHouse_164 : decode cX7_readHouse 164 = .ok (.iconst 0, 1) := by decide +kernel
theorem dX7_readHouse_165 : decode cX7_readHouse 165 = .ok (.ireturn, 1) := by decide +kernel
theorem dX7_readHouse_166 : decode cX7_readHouse 166 = .ok (.aload_n 0, 1) := by decide +kernel
theorem dX7_readHouse_167 : decode cX7_readHouse 167 = .ok (.getfield 46, 3) := by decide +kernel
theorem dX7_readHouse_170 : decode cX7_readHouse 170 = .ok (.dup, 1) := by decide +kernel
theorem dX7_readHouse_171 : decode cX7_readHouse 171 = .ok (.getfield 281, 3) := by decide +kernel
theorem dX7_readHouse_174 : decode cX7_readHouse 174 = .ok (.iconst 1, 1) := by decide +kernel
theorem dX7_readHouse_175 : decode cX7_readHouse 175 = .ok (.iadd, 1) := by decide +kernel
theorem dX7_readHouse_176 : decode cX7_readHouse 176 = .ok (.putfield 281, 3) := by decide +kernel
theorem dX7_readHouse_179 : decode cX7_readHouse 179 = .ok (.iconst 1, 1) := by decide +kernel
theorem dX7_readHouse_180 : decode cX7_readHouse 180 = .ok (.ireturn, 1) := by decide +kernel
theorem dX7_readWhere_0 : decode cX7_readWhere 0 = .ok (.aload_n 0, 1) := by decide +kernel
theorem dX7_readWhere_1 : decode cX7_readWhere 1 = .ok (.iconst 0, 1) := by decide +kernel
theorem dX7_readWhere_2 : decode cX7_readWhere 2 = .ok (.bipush 9, 2) := by decide +kernel
theorem dX7_readWhere_4 : decode cX7_readWhere 4 = .ok (.invokevirtual 185, 3) := by decide +kernel
theorem dX7_readWhere_7 : decode cX7_readWhere 7 = .ok (.ifCond .ne 5, 3) := by decide +kernel
theorem dX7_readWhere_10 : decode cX7_readWhere 10 = .ok (.iconst 0, 1) := by decide +kernel
theorem dX7_readWhere_11 : decode cX7_readWhere 11 = .ok (.ireturn, 1) := by decide +kernel
theorem dX7_readWhere_12 : decode cX7_readWhere 12 = .ok (.aload_n 1, 1) := by decide +kernel
theorem dX7_readWhere_13 : decode cX7_readWhere 13 = .ok (.aload_n 0, 1) := by decide +kernel
theorem dX7_readWhere_14 : decode cX7_readWhere 14 = .ok (.getfield 43, 3) := by decide +kernel
theorem dX7_readWhere_17 : decode cX7_readWhere 17 = .ok (.putfield 308, 3) := by decide +kernel
theorem dX7_readWhere_20 : decode cX7_readWhere 20 = .ok (.aload_n 0, 1) := by decide +kernel
theorem dX7_readWhere_21 : decode cX7_readWhere 21 = .ok (.iconst 0, 1) := by decide +kernel
theorem dX7_readWhere_22 : decode cX7_readWhere 22 = .ok (.bipush 99, 2) := by decide +kernel
theorem dX7_readWhere_24 : decode cX7_readWhere 24 = .ok (.invokevirtual 185, 3) := by decide +kernel
theorem dX7_readWhere_27 : decode cX7_readWhere 27 = .ok (.ifCond .ne 5, 3) := by decide +kernel
theorem dX7_readWhere_30 : decode cX7_readWhere 30 = .ok (.iconst 0, 1) := by decide +kernel
theorem dX7_readWhere_31 : decode cX7_readWhere 31 = .ok (.ireturn, 1) := by decide +kernel
theorem dX7_readWhere_32 : decode cX7_readWhere 32 = .ok (.aload_n 1, 1) := by decide +kernel
theorem dX7_readWhere_33 : decode cX7_readWhere 33 = .ok (.aload_n 0, 1) := by decide +kernel
theorem dX7_readWhere_34 : decode cX7_readWhere 34 = .ok (.getfield 43, 3) := by decide +kernel
theorem dX7_readWhere_37 : decode cX7_readWhere 37 = .ok (.putfield 309, 3) := by decide +kernel
theorem dX7_readWhere_40 : decode cX7_readWhere 40 = .ok (.aload_n 0, 1) := by decide +kernel
theorem dX7_readWhere_41 : decode cX7_readWhere 41 = .ok (.iconst 1, 1) := by decide +kernel
theorem dX7_readWhere_42 : decode cX7_readWhere 42 = .ok (.bipush 9, 2) := by decide +kernel
theorem dX7_readWhere_44 : decode cX7_readWhere 44 = .ok (.invokevirtual 185, 3) := by decide +kernel
theorem dX7_readWhere_47 : decode cX7_readWhere 47 = .ok (.ifCond .ne 5, 3) := by decide +kernel
theorem dX7_readWhere_50 : decode cX7_readWhere 50 = .ok (.iconst 0, 1) := by decide +kernel
theorem dX7_readWhere_51 : decode cX7_readWhere 51 = .ok (.ireturn, 1) := by decide +kernel
theorem dX7_readWhere_52 : decode cX7_readWhere 52 = .ok (.aload_n 1, 1) := by decide +kernel
theorem dX7_readWhere_53 : decode cX7_readWhere 53 = .ok (.aload_n 0, 1) := by decide +kernel
theorem dX7_readWhere_54 : decode cX7_readWhere 54 = .ok (.getfield 43, 3) := by decide +kernel
theorem dX7_readWhere_57 : decode cX7_readWhere 57 = .ok (.putfield 310, 3) := by decide +kernel
theorem dX7_readWhere_60 : decode cX7_readWhere 60 = .ok (.iconst 1, 1) := by decide +kernel
theorem dX7_readWhere_61 : decode cX7_readWhere 61 = .ok (.ireturn, 1) := by decide +kernel
theorem dX7_readHouseParts_0 : decode cX7_readHouseParts 0 = .ok (.iconst 0, 1) := by decide +kernel
theorem dX7_readHouseParts_1 : decode cX7_readHouseParts 1 = .ok (.istore_n 2, 1) := by decide +kernel
theorem dX7_readHouseParts_2 : decode cX7_readHouseParts 2 = .ok (.iconst 0, 1) := by decide +kernel
theorem dX7_readHouseParts_3 : decode cX7_readHouseParts 3 = .ok (.istore_n 3, 1) := by decide +kernel
theorem dX7_readHouseParts_4 : decode cX7_readHouseParts 4 = .ok (.iconst 0, 1) := by decide +kernel
theorem dX7_readHouseParts_5 : decode cX7_readHouseParts 5 = .ok (.istore 4, 2) := by decide +kernel
theorem dX7_readHouseParts_7 : decode cX7_readHouseParts 7 = .ok (.iload 4, 2) := by decide +kernel
theorem dX7_readHouseParts_9 : decode cX7_readHouseParts 9 = .ok (.aload_n 0, 1) := by decide +kernel
theorem dX7_readHouseParts_10 : decode cX7_readHouseParts 10 = .ok (.getfield 18, 3) := by decide +kernel
theorem dX7_readHouseParts_13 : decode cX7_readHouseParts 13 = .ok (.if_icmp .gt 206, 3) := by decide +kernel
theorem dX7_readHouseParts_16 : decode cX7_readHouseParts 16 = .ok (.aload_n 0, 1) := by decide +kernel
theorem dX7_readHouseParts_17 : decode cX7_readHouseParts 17 = .ok (.getfield 37, 3) := by decide +kernel
theorem dX7_readHouseParts_20 : decode cX7_readHouseParts 20 = .ok (.bipush 22, 2) := by decide +kernel
theorem dX7_readHouseParts_22 : decode cX7_readHouseParts 22 = .ok (.if_icmp .ne 7, 3) := by decide +kernel
theorem dX7_readHouseParts_25 : decode cX7_readHouseParts 25 = .ok (.iload_n 2, 1) := by decide +kernel
theorem dX7_readHouseParts_26 : decode cX7_readHouseParts 26 = .ok (.ifCond .ne 32, 3) := by decide +kernel
theorem dX7_readHouseParts_29 : decode cX7_readHouseParts 29 = .ok (.aload_n 0, 1) := by decide +kernel
theorem dX7_readHouseParts_30 : decode cX7_readHouseParts 30 = .ok (.getfield 37, 3) := by decide +kernel
theorem dX7_readHouseParts_33 : decode cX7_readHouseParts 33 = .ok (.bipush 13, 2) := by decide +kernel
theorem dX7_readHouseParts_35 : decode cX7_readHouseParts 35 = .ok (.if_icmp .ne 7, 3) := by decide +kernel
theorem dX7_readHouseParts_38 : decode cX7_readHouseParts 38 = .ok (.iload_n 3, 1) := by decide +kernel
theorem dX7_readHouseParts_39 : decode cX7_readHouseParts 39 = .ok (.ifCond .ne 19, 3) := by decide +kernel
theorem dX7_readHouseParts_42 : decode cX7_readHouseParts 42 = .ok (.aload_n 0, 1) := by decide +kernel
theorem dX7_readHouseParts_43 : decode cX7_readHouseParts 43 = .ok (.getfield 37, 3) := by decide +kernel
theorem dX7_readHouseParts_46 : decode cX7_readHouseParts 46 = .ok (.bipush 12, 2) := by decide +kernel
theorem dX7_readHouseParts_48 : decode cX7_readHouseParts 48 = .ok (.if_icmp .ne 16, 3) := by decide +kernel
theorem dX7_readHouseParts_51 : decode cX7_readHouseParts 51 = .ok (.aload_n 1, 1) := by decide +kernel
theorem dX7_readHouseParts_52 : decode cX7_readHouseParts 52 = .ok (.getfield 313, 3) := by decide +kernel
theorem dX7_readHouseParts_55 : decode cX7_readHouseParts 55 = .ok (.ifCond .eq 9, 3) := by decide +kernel
theorem dX7_readHouseParts_58 : decode cX7_readHouseParts 58 = .ok (.aload_n 0, 1) := by decide +kernel
theorem dX7_readHouseParts_59 : decode cX7_readHouseParts 59 = .ok (.iconst 3, 1) := by decide +kernel
theorem dX7_readHouseParts_60 : decode cX7_readHouseParts 60 = .ok (.invokevirtual 84, 3) := by decide +kernel
theorem dX7_readHouseParts_63 : decode cX7_readHouseParts 63 = .ok (.ireturn, 1) := by decide +kernel
theorem dX7_readHouseParts_64 : decode cX7_readHouseParts 64 = .ok (.iconst 1, 1) := by decide +kernel
theorem dX7_readHouseParts_65 : decode cX7_readHouseParts 65 = .ok (.istore 5, 2) := by decide +kernel
theorem dX7_readHouseParts_67 : decode cX7_readHouseParts 67 = .ok (.aload_n 0, 1) := by decide +kernel
theorem dX7_readHouseParts_68 : decode cX7_readHouseParts 68 = .ok (.getfield 37, 3) := by decide +kernel
theorem dX7_readHouseParts_71 : decode cX7_readHouseParts 71 = .ok (.tableswitch 133 12 22 #[121, 94, 57, 133, 57, 133, 133, 133, 133, 133, 67], 57) := by decide +kernel
theorem dX7_readHouseParts_128 : decode cX7_readHouseParts 128 = .ok (.aload_n 0, 1) := by decide +kernel
theorem dX7_readHouseParts_129 : decode cX7_readHouseParts 129 = .ok (.aload_n 1, 1) := by decide +kernel
theorem dX7_readHouseParts_130 : decode cX7_readHouseParts 130 = .ok (.invokevirtual 317, 3) := by decide +kernel
theorem dX7_readHouseParts_133 : decode cX7_readHouseParts 133 = .ok (.istore 5, 2) := by decide +kernel
theorem dX7_readHouseParts_135 : decode cX7_readHouseParts 135 = .ok (.goto 71, 3) := by decide +kernel
theorem dX7_readHouseParts_138 : decode cX7_readHouseParts 138 = .ok (.aload_n 0, 1) := by decide +kernel
theorem dX7_readHouseParts_139 : decode cX7_readHouseParts 139 = .ok (.invokevirtual 77, 3) := by decide +kernel
theorem dX7_readHouseParts_142 : decode cX7_readHouseParts 142 = .ok (.aload_n 0, 1) := by decide +kernel
theorem dX7_readHouseParts_143 : decode cX7_readHouseParts 143 = .ok (.iconst 0, 1) := by decide +kernel
theorem dX7_readHouseParts_144 : decode cX7_readHouseParts 144 = .ok (.sipush 999, 3) := by decide +kernel
theorem dX7_readHouseParts_147 : decode cX7_readHouseParts 147 = .ok (.invokevirtual 185, 3) := by decide +kernel
theorem dX7_readHouseParts_150 : decode cX7_readHouseParts 150 = .ok (.istore 5, 2) := by decide +kernel
theorem dX7_readHouseParts_152 : decode cX7_readHouseParts 152 = .ok (.aload_n 1, 1) := by decide +kernel
theorem dX7_readHouseParts_153 : decode cX7_readHouseParts 153 = .ok (.aload_n 0, 1) := by decide +kernel
theorem dX7_readHouseParts_154 : decode cX7_readHouseParts 154 = .ok (.getfield 43, 3) := by decide +kernel
theorem dX7_readHouseParts_157 : decode cX7_readHouseParts 157 = .ok (.putfield 320, 3) := by decide +kernel
theorem dX7_readHouseParts_160 : decode cX7_readHouseParts 160 = .ok (.iconst 1, 1) := by decide +kernel
theorem dX7_readHouseParts_161 : decode cX7_readHouseParts 161 = .ok (.istore_n 2, 1) := by decide +kernel
theorem dX7_readHouseParts_162 : decode cX7_readHouseParts 162 = .ok (.goto 44, 3) := by decide +kernel
theorem dX7_readHouseParts_165 : decode cX7_readHouseParts 165 = .ok (.aload_n 0, 1) := by decide +kernel
theorem dX7_readHouseParts_166 : decode cX7_readHouseParts 166 = .ok (.invokevirtual 77, 3) := by decide +kernel
theorem dX7_readHouseParts_169 : decode cX7_readHouseParts 169 = .ok (.aload_n 0, 1) := by decide +kernel
theorem dX7_readHouseParts_170 : decode cX7_readHouseParts 170 = .ok (.iconst 0, 1) := by decide +kernel
theorem dX7_readHouseParts_171 : decode cX7_readHouseParts 171 = .ok (.sipush 199, 3) := by decide +kernel
theorem dX7_readHouseParts_174 : decode cX7_readHouseParts 174 = .ok (.invokevirtual 185, 3) := by decide +kernel
theorem dX7_readHouseParts_177 : decode cX7_readHouseParts 177 = .ok (.istore 5, 2) := by decide +kernel
theorem dX7_readHouseParts_179 : decode cX7_readHouseParts 179 = .ok (.aload_n 1, 1) := by decide +kernel
theorem dX7_readHouseParts_180 : decode cX7_readHouseParts 180 = .ok (.aload_n 0, 1) := by decide +kernel
theorem dX7_readHouseParts_181 : decode cX7_readHouseParts 181 = .ok (.getfield 43, 3) := by decide +kernel
theorem dX7_readHouseParts_184 : decode cX7_readHouseParts 184 = .ok (.putfield 323, 3) := by decide +kernel
theorem dX7_readHouseParts_187 : decode cX7_readHouseParts 187 = .ok (.iconst 1, 1) := by decide +kernel
theorem dX7_readHouseParts_188 : decode cX7_readHouseParts 188 = .ok (.istore_n 3, 1) := by decide +kernel
theorem dX7_readHouseParts_189 : decode cX7_readHouseParts 189 = .ok (.goto 17, 3) := by decide +kernel
theorem dX7_readHouseParts_192 : decode cX7_readHouseParts 192 = .ok (.aload_n 0, 1) := by decide +kernel
theorem dX7_readHouseParts_193 : decode cX7_readHouseParts 193 = .ok (.invokevirtual 77, 3) := by decide +kernel
theorem dX7_readHouseParts_196 : decode cX7_readHouseParts 196 = .ok (.aload_n 1, 1) := by decide +kernel
theorem dX7_readHouseParts_197 : decode cX7_readHouseParts 197 = .ok (.iconst 1, 1) := by decide +kernel
theorem dX7_readHouseParts_198 : decode cX7_readHouseParts 198 = .ok (.putfield 313, 3) := by decide +kernel
theorem dX7_readHouseParts_201 : decode cX7_readHouseParts 201 = .ok (.goto 5, 3) := by decide +kernel
theorem dX7_readHouseParts_204 : decode cX7_readHouseParts 204 = .ok (.iconst 1, 1) := by decide +kernel
theorem dX7_readHouseParts_205 : decode cX7_readHouseParts 205 = .ok (.ireturn, 1) := by decide +kernel
theorem dX7_readHouseParts_206 : decode cX7_readHouseParts 206 = .ok (.iload 5, 2) := by decide +kernel
theorem dX7_readHouseParts_208 : decode cX7_readHouseParts 208 = .ok (.ifCond .ne 5, 3) := by decide +kernel
theorem dX7_readHouseParts_211 : decode cX7_readHouseParts 211 = .ok (.iconst 0, 1) := by decide +kernel
theorem dX7_readHouseParts_212 : decode cX7_readHouseParts 212 = .ok (.ireturn, 1) := by decide +kernel
theorem dX7_readHouseParts_213 : decode cX7_readHouseParts 213 = .ok (.iinc 4 1, 3) := by decide +kernel
theorem dX7_readHouseParts_216 : decode cX7_readHouseParts 216 = .ok (.goto (-209), 3) := by decide +kernel
theorem dX7_readHouseParts_219 : decode cX7_readHouseParts 219 = .ok (.iconst 1, 1) := by decide +kernel
theorem dX7_readHouseParts_220 : decode cX7_readHouseParts 220 = .ok (.ireturn, 1) := by decide +kernel
theorem dX7_readWeekday_0 : decode cX7_readWeekday 0 = .ok (.aload_n 0, 1) := by decide +kernel
theorem dX7_readWeekday_1 : decode cX7_readWeekday 1 = .ok (.getfield 37, 3) := by decide +kernel
theorem dX7_readWeekday_4 : decode cX7_readWeekday 4 = .ok (.bipush 14, 2) := by decide +kernel
theorem dX7_readWeekday_6 : decode cX7_readWeekday 6 = .ok (.if_icmp .ne 7, 3) := by decide +kernel
theorem dX7_readWeekday_9 : decode cX7_readWeekday 9 = .ok (.iconst 1, 1) := by decide +kernel
theorem dX7_readWeekday_10 : decode cX7_readWeekday 10 = .ok (.goto 4, 3) := by decide +kernel
theorem dX7_readWeekday_13 : decode cX7_readWeekday 13 = .ok (.iconst 0, 1) := by decide +kernel
theorem dX7_readWeekday_14 : decode cX7_readWeekday 14 = .ok (.istore_n 2, 1) := by decide +kernel
theorem dX7_readWeekday_15 : decode cX7_readWeekday 15 = .ok (.aload_n 0, 1) := by decide +kernel
theorem dX7_readWeekday_16 : decode cX7_readWeekday 16 = .ok (.invokevirtual 77, 3) := by decide +kernel
theorem dX7_readWeekday_19 : decode cX7_readWeekday 19 = .ok (.aload_n 0, 1) := by decide +kernel
theorem dX7_readWeekday_20 : decode cX7_readWeekday 20 = .ok (.iload_n 2, 1) := by decide +kernel
theorem dX7_readWeekday_21 : decode cX7_readWeekday 21 = .ok (.ifCond .eq 10, 3) := by decide +kernel
theorem dX7_readWeekday_24 : decode cX7_readWeekday 24 = .ok (.aload_n 1, 1) := by decide +kernel
theorem dX7_readWeekday_25 : decode cX7_readWeekday 25 = .ok (.getfield 326, 3) := by decide +kernel
theorem dX7_readWeekday_28 : decode cX7_readWeekday 28 = .ok (.goto 7, 3) := by decide +kernel
theorem dX7_readWeekday_31 : decode cX7_readWeekday 31 = .ok (.aload_n 1, 1) := by decide +kernel
theorem dX7_readWeekday_32 : decode cX7_readWeekday 32 = .ok (.getfield 329, 3) := by decide +kernel
theorem dX7_readWeekday_35 : decode cX7_readWeekday 35 = .ok (.bipush 6, 2) := by decide +kernel
theorem dX7_readWeekday_37 : decode cX7_readWeekday 37 = .ok (.invokevirtual 239, 3) := by decide +kernel
theorem dX7_readWeekday_40 : decode cX7_readWeekday 40 = .ok (.ifCond .ne 5, 3) := by decide +kernel
theorem dX7_readWeekday_43 : decode cX7_readWeekday 43 = .ok (.iconst 0, 1) := by decide +kernel
theorem dX7_readWeekday_44 : decode cX7_readWeekday 44 = .ok (.ireturn, 1) := by decide +kernel
theorem dX7_readWeekday_45 : decode cX7_readWeekday 45 = .ok (.iload_n 2, 1) := by decide +kernel
theorem dX7_readWeekday_46 : decode cX7_readWeekday 46 = .ok (.ifCond .eq 21, 3) := by decide +kernel
theorem dX7_readWeekday_49 : decode cX7_readWeekday 49 = .ok (.aload_n 1, 1) := by decide +kernel
theorem dX7_readWeekday_50 : decode cX7_readWeekday 50 = .ok (.dup, 1) := by decide +kernel
theorem dX7_readWeekday_51 : decode cX7_readWeekday 51 = .ok (.getfield 326, 3) := by decide +kernel
theorem dX7_readWeekday_54 : decode cX7_readWeekday 54 = .ok (.iconst 1, 1) := by decide +kernel
theorem dX7_readWeekday_55 : decode cX7_readWeekday 55 = .ok (.aload_n 0, 1) := by decide +kernel
theorem dX7_readWeekday_56 : decode cX7_readWeekday 56 = .ok (.getfield 40, 3) := by decide +kernel
theorem dX7_readWeekday_59 : decode cX7_readWeekday 59 = .ok (.ishl, 1) := by decide +kernel
theorem dX7_readWeekday_60 : decode cX7_readWeekday 60 = .ok (.ior, 1) := by decide +kernel
theorem dX7_readWeekday_61 : decode cX7_readWeekday 61 = .ok (.putfield 326, 3) := by decide +kernel
theorem dX7_readWeekday_64 : decode cX7_readWeekday 64 = .ok (.goto 18, 3) := by decide +kernel
theorem dX7_readWeekday_67 : decode cX7_readWeekday 67 = .ok (.aload_n 1, 1) := by decide +kernel
theorem dX7_readWeekday_68 : decode cX7_readWeekday 68 = .ok (.dup, 1) := by decide +kernel
theorem dX7_readWeekday_69 : decode cX7_readWeekday 69 = .ok (.getfield 329, 3) := by decide +kernel
theorem dX7_readWeekday_72 : decode cX7_readWeekday 72 = .ok (.iconst 1, 1) := by decide +kernel
theorem dX7_readWeekday_73 : decode cX7_readWeekday 73 = .ok (.aload_n 0, 1) := by decide +kernel
theorem dX7_readWeekday_74 : decode cX7_readWeekday 74 = .ok (.getfield 40, 3) := by decide +kernel
theorem dX7_readWeekday_77 : decode cX7_readWeekday 77 = .ok (.ishl, 1) := by decide +kernel
theorem dX7_readWeekday_78 : decode cX7_readWeekday 78 = .ok (.ior, 1) := by decide +kernel
theorem dX7_readWeekday_79 : decode cX7_readWeekday 79 = .ok (.putfield 329, 3) := by decide +kernel
theorem dX7_readWeekday_82 : decode cX7_readWeekday 82 = .ok (.aload_n 0, 1) := by decide +kernel
theorem dX7_readWeekday_83 : decode cX7_readWeekday 83 = .ok (.invokevirtual 77, 3) := by decide +kernel
theorem dX7_readWeekday_86 : decode cX7_readWeekday 86 = .ok (.iconst 1, 1) := by decide +kernel
theorem dX7_readWeekday_87 : decode cX7_readWeekday 87 = .ok (.ireturn, 1) := by decide +kernel
theorem dX7_readWet_0 : decode cX7_readWet 0 = .ok (.aload_n 0, 1) := by decide +kernel
theorem dX7_readWet_1 : decode cX7_readWet 1 = .ok (.invokevirtual 77, 3) := by decide +kernel
theorem dX7_readWet_4 : decode cX7_readWet 4 = .ok (.aload_n 0, 1) := by decide +kernel
theorem dX7_readWet_5 : decode cX7_readWet 5 = .ok (.iconst 0, 1) := by decide +kernel
theorem dX7_readWet_6 : decode cX7_readWet 6 = .ok (.sipush 199, 3) := by decide +kernel
theorem dX7_readWet_9 : decode cX7_readWet 9 = .ok (.invokevirtual 185, 3) := by decide +kernel
theorem dX7_readWet_12 : decode cX7_readWet 12 = .ok (.ifCond .ne 5, 3) := by decide +kernel
theorem dX7_readWet_15 : decode cX7_readWet 15 = .ok (.iconst 0, 1) := by decide +kernel
theorem dX7_readWet_16 : decode cX7_readWet 16 = .ok (.ireturn, 1) := by decide +kernel
theorem dX7_readWet_17 : decode cX7_readWet 17 = .ok (.aload_n 0, 1) := by decide +kernel
theorem dX7_readWet_18 : decode cX7_readWet 18 = .ok (.getfield 43, 3) := by decide +kernel
theorem dX7_readWet_21 : decode cX7_readWet 21 = .ok (.istore_n 1, 1) := by decide +kernel
theorem dX7_readWet_22 : decode cX7_readWet 22 = .ok (.aload_n 0, 1) := by decide +kernel
theorem dX7_readWet_23 : decode cX7_readWet 23 = .ok (.getfield 37, 3) := by decide +kernel
theorem dX7_readWet_26 : decode cX7_readWet 26 = .ok (.bipush 15, 2) := by decide +kernel
theorem dX7_readWet_28 : decode cX7_readWet 28 = .ok (.if_icmp .ne 20, 3) := by decide +kernel
theorem dX7_readWet_31 : decode cX7_readWet 31 = .ok (.aload_n 0, 1) := by decide +kernel
theorem dX7_readWet_32 : decode cX7_readWet 32 = .ok (.invokevirtual 77, 3) := by decide +kernel
theorem dX7_readWet_35 : decode cX7_readWet 35 = .ok (.aload_n 0, 1) := by decide +kernel
theorem dX7_readWet_36 : decode cX7_readWet 36 = .ok (.iload_n 1, 1) := by decide +kernel
theorem dX7_readWet_37 : decode cX7_readWet 37 = .ok (.sipush 199, 3) := by decide +kernel
theorem dX7_readWet_40 : decode cX7_readWet 40 = .ok (.invokevirtual 185, 3) := by decide +kernel
theorem dX7_readWet_43 : decode cX7_readWet 43 = .ok (.ifCond .ne 5, 3) := by decide +kernel
theorem dX7_readWet_46 : decode cX7_readWet 46 = .ok (.iconst 0, 1) := by decide +kernel
theorem dX7_readWet_47 : decode cX7_readWet 47 = .ok (.ireturn, 1) := by decide +kernel
theorem dX7_readWet_48 : decode cX7_readWet 48 = .ok (.iload_n 1, 1) := by decide +kernel
theorem dX7_readWet_49 : decode cX7_readWet 49 = .ok (.istore_n 2, 1) := by decide +kernel
theorem dX7_readWet_50 : decode cX7_readWet 50 = .ok (.iload_n 2, 1) := by decide +kernel
theorem dX7_readWet_51 : decode cX7_readWet 51 = .ok (.aload_n 0, 1) := by decide +kernel
theorem dX7_readWet_52 : decode cX7_readWet 52 = .ok (.getfield 43, 3) := by decide +kernel
theorem dX7_readWet_55 : decode cX7_readWet 55 = .ok (.if_icmp .gt 26, 3) := by decide +kernel
theorem dX7_readWet_58 : decode cX7_readWet 58 = .ok (.iload_n 2, 1) := by decide +kernel
theorem dX7_readWet_59 : decode cX7_readWet 59 = .ok (.sipush 200, 3) := by decide +kernel
theorem dX7_readWet_62 : decode cX7_readWet 62 = .ok (.if_icmp .ge 19, 3) := by decide +kernel
theorem dX7_readWet_65 : decode cX7_readWet 65 = .ok (.aload_n 0, 1) := by decide +kernel
theorem dX7_readWet_66 : decode cX7_readWet 66 = .ok (.getfield 46, 3) := by decide +kernel
theorem dX7_readWet_69 : decode cX7_readWet 69 = .ok (.getfield 332, 3) := by decide +kernel
theorem dX7_readWet_72 : decode cX7_readWet 72 = .ok (.iload_n 2, 1) := by decide +kernel
theorem dX7_readWet_73 : decode cX7_readWet 73 = .ok (.iconst 1, 1) := by decide +kernel
theorem dX7_readWet_74 : decode cX7_readWet 74 = .ok (.bastore, 1) := by decide +kernel
theorem dX7_readWet_75 : decode cX7_readWet 75 = .ok (.iinc 2 1, 3) := by decide +kernel
theorem dX7_readWet_78 : decode cX7_readWet 78 = .ok (.goto (-28), 3) := by decide +kernel
theorem dX7_readWet_81 : decode cX7_readWet 81 = .ok (.iconst 1, 1) := by decide +kernel
theorem dX7_readWet_82 : decode cX7_readWet 82 = .ok (.ireturn, 1) := by decide +kernel
theorem dX7_readTank_0 : decode cX7_readTank 0 = .ok (.aload_n 0, 1) := by decide +kernel
theorem dX7_readTank_1 : decode cX7_readTank 1 = .ok (.getfield 46, 3) := by decide +kernel
theorem dX7_readTank_4 : decode cX7_readTank 4 = .ok (.getfield 336, 3) := by decide +kernel
theorem dX7_readTank_7 : decode cX7_readTank 7 = .ok (.ifCond .le 9, 3) := by decide +kernel
theorem dX7_readTank_10 : decode cX7_readTank 10 = .ok (.aload_n 0, 1) := by decide +kernel
theorem dX7_readTank_11 : decode cX7_readTank 11 = .ok (.iconst 3, 1) := by decide +kernel
theorem dX7_readTank_12 : decode cX7_readTank 12 = .ok (.invokevirtual 84, 3) := by decide +kernel
theorem dX7_readTank_15 : decode cX7_readTank 15 = .ok (.ireturn, 1) := by decide +kernel
theorem dX7_readTank_16 : decode cX7_readTank 16 = .ok (.aload_n 0, 1) := by decide +kernel
theorem dX7_readTank_17 : decode cX7_readTank 17 = .ok (.invokevirtual 77, 3) := by decide +kernel
theorem dX7_readTank_20 : decode cX7_readTank 20 = .ok (.aload_n 0, 1) := by decide +kernel
theorem dX7_readTank_21 : decode cX7_readTank 21 = .ok (.iconst 1, 1) := by decide +kernel
theorem dX7_readTank_22 : decode cX7_readTank 22 = .ok (.sipush 999, 3) := by decide +kernel
theorem dX7_readTank_25 : decode cX7_readTank 25 = .ok (.invokevirtual 185, 3) := by decide +kernel
theorem dX7_readTank_28 : decode cX7_readTank 28 = .ok (.ifCond .ne 5, 3) := by decide +kernel
theorem dX7_readTank_31 : decode cX7_readTank 31 = .ok (.iconst 0, 1) := by decide +kernel
theorem dX7_readTank_32 : decode cX7_readTank 32 = .ok (.ireturn, 1) := by decide +kernel
theorem dX7_readTank_33 : decode cX7_readTank 33 = .ok (.aload_n 0, 1) := by decide +kernel
theorem dX7_readTank_34 : decode cX7_readTank 34 = .ok (.getfield 46, 3) := by decide +kernel
theorem dX7_readTank_37 : decode cX7_readTank 37 = .ok (.aload_n 0, 1) := by decide +kernel
theorem dX7_readTank_38 : decode cX7_readTank 38 = .ok (.getfield 43, 3) := by decide +kernel
theorem dX7_readTank_41 : decode cX7_readTank 41 = .ok (.putfield 336, 3) := by decide +kernel
theorem dX7_readTank_44 : decode cX7_readTank 44 = .ok (.aload_n 0, 1) := by decide +kernel
theorem dX7_readTank_45 : decode cX7_readTank 45 = .ok (.iconst 1, 1) := by decide +kernel
theorem dX7_readTank_46 : decode cX7_readTank 46 = .ok (.bipush 99, 2) := by decide +kernel
theorem dX7_readTank_48 : decode cX7_readTank 48 = .ok (.invokevirtual 185, 3) := by decide +kernel
theorem dX7_readTank_51 : decode cX7_readTank 51 = .ok (.ifCond .ne 5, 3) := by decide +kernel
theorem dX7_readTank_54 : decode cX7_readTank 54 = .ok (.iconst 0, 1) := by decide +kernel
theorem dX7_readTank_55 : decode cX7_readTank 55 = .ok (.ireturn, 1) := by decide +kernel
theorem dX7_readTank_56 : decode cX7_readTank 56 = .ok (.aload_n 0, 1) := by decide +kernel
theorem dX7_readTank_57 : decode cX7_readTank 57 = .ok (.getfield 46, 3) := by decide +kernel
theorem dX7_readTank_60 : decode cX7_readTank 60 = .ok (.aload_n 0, 1) := by decide +kernel
theorem dX7_readTank_61 : decode cX7_readTank 61 = .ok (.getfield 43, 3) := by decide +kernel
theorem dX7_readTank_64 : decode cX7_readTank 64 = .ok (.putfield 339, 3) := by decide +kernel
theorem dX7_readTank_67 : decode cX7_readTank 67 = .ok (.iconst 1, 1) := by decide +kernel
theorem dX7_readTank_68 : decode cX7_readTank 68 = .ok (.ireturn, 1) := by decide +kernel
theorem dX7_readRule_0 : decode cX7_readRule 0 = .ok (.aload_n 1, 1) := by decide +kernel
theorem dX7_readRule_1 : decode cX7_readRule 1 = .ok (.getfield 342, 3) := by decide +kernel
theorem dX7_readRule_4 : decode cX7_readRule 4 = .ok (.ifCond .le 9, 3) := by decide +kernel
theorem dX7_readRule_7 : decode cX7_readRule 7 = .ok (.aload_n 0, 1) := by decide +kernel
theorem dX7_readRule_8 : decode cX7_readRule 8 = .ok (.iconst 3, 1) := by decide +kernel
theorem dX7_readRule_9 : decode cX7_readRule 9 = .ok (.invokevirtual 84, 3) := by decide +kernel
theorem dX7_readRule_12 : decode cX7_readRule 12 = .ok (.ireturn, 1) := by decide +kernel
theorem dX7_readRule_13 : decode cX7_readRule 13 = .ok (.aload_n 0, 1) := by decide +kernel
theorem dX7_readRule_14 : decode cX7_readRule 14 = .ok (.invokevirtual 77, 3) := by decide +kernel
theorem dX7_readRule_17 : decode cX7_readRule 17 = .ok (.aload_n 0, 1) := by decide +kernel
theorem dX7_readRule_18 : decode cX7_readRule 18 = .ok (.iconst 0, 1) := by decide +kernel
theorem dX7_readRule_19 : decode cX7_readRule 19 = .ok (.putfield 53, 3) := by decide +kernel
theorem dX7_readRule_22 : decode cX7_readRule 22 = .ok (.aload_n 0, 1) := by decide +kernel
theorem dX7_readRule_23 : decode cX7_readRule 23 = .ok (.iconst 0, 1) := by decide +kernel
theorem dX7_readRule_24 : decode cX7_readRule 24 = .ok (.putfield 56, 3) := by decide +kernel
theorem dX7_readRule_27 : decode cX7_readRule 27 = .ok (.iconst 1, 1) := by decide +kernel
theorem dX7_readRule_28 : decode cX7_readRule 28 = .ok (.istore_n 2, 1) := by decide +kernel
theorem dX7_readRule_29 : decode cX7_readRule 29 = .ok (.iconst 0, 1) := by decide +kernel
theorem dX7_readRule_30 : decode cX7_readRule 30 = .ok (.istore_n 3, 1) := by decide +kernel
theorem dX7_readRule_31 : decode cX7_readRule 31 = .ok (.iload_n 3, 1) := by decide +kernel
theorem dX7_readRule_32 : decode cX7_readRule 32 = .ok (.aload_n 0, 1) := by decide +kernel
theorem dX7_readRule_33 : decode cX7_readRule 33 = .ok (.getfield 18, 3) := by decide +kernel
theorem dX7_readRule_36 : decode cX7_readRule 36 = .ok (.if_icmp .gt 128, 3) := by decide +kernel
theorem dX7_readRule_39 : decode cX7_readRule 39 = .ok (.iload_n 2, 1) := by decide +kernel
theorem dX7_readRule_40 : decode cX7_readRule 40 = .ok (.ifCond .ne 28, 3) := by decide +kernel
theorem dX7_readRule_43 : decode cX7_readRule 43 = .ok (.aload_n 0, 1) := by decide +kernel
theorem dX7_readRule_44 : decode cX7_readRule 44 = .ok (.getfield 56, 3) := by decide +kernel
theorem dX7_readRule_47 : decode cX7_readRule 47 = .ok (.ifCond .ne 21, 3) := by decide +kernel
theorem dX7_readRule_50 : decode cX7_readRule 50 = .ok (.aload_n 0, 1) := by decide +kernel
theorem dX7_readRule_51 : decode cX7_readRule 51 = .ok (.getfield 37, 3) := by decide +kernel
theorem dX7_readRule_54 : decode cX7_readRule 54 = .ok (.invokestatic 347, 3) := by decide +kernel
theorem dX7_readRule_57 : decode cX7_readRule 57 = .ok (.ifCond .ne 11, 3) := by decide +kernel
theorem dX7_readRule_60 : decode cX7_readRule 60 = .ok (.aload_n 0, 1) := by decide +kernel
theorem dX7_readRule_61 : decode cX7_readRule 61 = .ok (.aload_n 1, 1) := by decide +kernel
theorem dX7_readRule_62 : decode cX7_readRule 62 = .ok (.iconst 0, 1) := by decide +kernel
theorem dX7_readRule_63 : decode cX7_readRule 63 = .ok (.invokevirtual 350, 3) := by decide +kernel
theorem dX7_readRule_66 : decode cX7_readRule 66 = .ok (.iconst 1, 1) := by decide +kernel
theorem dX7_readRule_67 : decode cX7_readRule 67 = .ok (.ireturn, 1) := by decide +kernel
theorem dX7_readRule_68 : decode cX7_readRule 68 = .ok (.aload_n 0, 1) := by decide +kernel
theorem dX7_readRule_69 : decode cX7_readRule 69 = .ok (.getfield 37, 3) := by decide +kernel
theorem dX7_readRule_72 : decode cX7_readRule 72 = .ok (.bipush 28, 2) := by decide +kernel
theorem dX7_readRule_74 : decode cX7_readRule 74 = .ok (.if_icmp .eq 12, 3) := by decide +kernel
theorem dX7_readRule_77 : decode cX7_readRule 77 = .ok (.aload_n 0, 1) := by decide +kernel
theorem dX7_readRule_78 : decode cX7_readRule 78 = .ok (.getfield 37, 3) := by decide +kernel
theorem dX7_readRule_81 : decode cX7_readRule 81 = .ok (.bipush 16, 2) := by decide +kernel
theorem dX7_readRule_83 : decode cX7_readRule 83 = .ok (.if_icmp .ne 7, 3) := by decide +kernel
theorem dX7_readRule_86 : decode cX7_readRule 86 = .ok (.iconst 1, 1) := by decide +kernel
theorem dX7_readRule_87 : decode cX7_readRule 87 = .ok (.goto 4, 3) := by decide +kernel
theorem dX7_readRule_90 : decode cX7_readRule 90 = .ok (.iconst 0, 1) := by decide +kernel
theorem dX7_readRule_91 : decode cX7_readRule 91 = .ok (.istore 4, 2) := by decide +kernel
theorem dX7_readRule_93 : decode cX7_readRule 93 = .ok (.aload_n 0, 1) := by decide +kernel
theorem dX7_readRule_94 : decode cX7_readRule 94 = .ok (.getfield 37, 3) := by decide +kernel
theorem dX7_readRule_97 : decode cX7_readRule 97 = .ok (.bipush 29, 2) := by decide +kernel
theorem dX7_readRule_99 : decode cX7_readRule 99 = .ok (.if_icmp .ne 7, 3) := by decide +kernel
theorem dX7_readRule_102 : decode cX7_readRule 102 = .ok (.iconst 1, 1) := by decide +kernel
theorem dX7_readRule_103 : decode cX7_readRule 103 = .ok (.goto 4, 3) := by decide +kernel
theorem dX7_readRule_106 : decode cX7_readRule 106 = .ok (.iconst 0, 1) := by decide +kernel
theorem dX7_readRule_107 : decode cX7_readRule 107 = .ok (.istore 5, 2) := by decide +kernel
theorem dX7_readRule_109 : decode cX7_readRule 109 = .ok (.iload_n 2, 1) := by decide +kernel
theorem dX7_readRule_110 : decode cX7_readRule 110 = .ok (.ifCond .eq 14, 3) := by decide +kernel
theorem dX7_readRule_113 : decode cX7_readRule 113 = .ok (.aload_n 0, 1) := by decide +kernel
theorem dX7_readRule_114 : decode cX7_readRule 114 = .ok (.aload_n 1, 1) := by decide +kernel
theorem dX7_readRule_115 : decode cX7_readRule 115 = .ok (.invokevirtual 354, 3) := by decide +kernel
theorem dX7_readRule_118 : decode cX7_readRule 118 = .ok (.ifCond .eq 14, 3) := by decide +kernel
theorem dX7_readRule_121 : decode cX7_readRule 121 = .ok (.goto 13, 3) := by decide +kernel
theorem dX7_readRule_124 : decode cX7_readRule 124 = .ok (.aload_n 0, 1) := by decide +kernel
theorem dX7_readRule_125 : decode cX7_readRule 125 = .ok (.aload_n 1, 1) := by decide +kernel
theorem dX7_readRule_126 : decode cX7_readRule 126 = .ok (.invokevirtual 357, 3) := by decide +kernel
theorem dX7_readRule_129 : decode cX7_readRule 129 = .ok (.ifCond .ne 5, 3) := by decide +kernel
theorem dX7_readRule_132 : decode cX7_readRule 132 = .ok (.iconst 0, 1) := by decide +kernel
theorem dX7_readRule_133 : decode cX7_readRule 133 = .ok (.ireturn, 1) := by decide +kernel
theorem dX7_readRule_134 : decode cX7_readRule 134 = .ok (.iload_n 2, 1) := by decide +kernel
theorem dX7_readRule_135 : decode cX7_readRule 135 = .ok (.ifCond .eq 8, 3) := by decide +kernel
theorem dX7_readRule_138 : decode cX7_readRule 138 = .ok (.iload 4, 2) := by decide +kernel
theorem dX7_readRule_140 : decode cX7_readRule 140 = .ok (.goto 13, 3) := by decide +kernel
theorem dX7_readRule_143 : decode cX7_readRule 143 = .ok (.iload 5, 2) := by decide +kernel
theorem dX7_readRule_145 : decode cX7_readRule 145 = .ok (.ifCond .ne 7, 3) := by decide +kernel
theorem dX7_readRule_148 : decode cX7_readRule 148 = .ok (.iconst 1, 1) := by decide +kernel
theorem dX7_readRule_149 : decode cX7_readRule 149 = .ok (.goto 4, 3) := by decide +kernel
theorem dX7_readRule_152 : decode cX7_readRule 152 = .ok (.iconst 0, 1) := by decide +kernel
theorem dX7_readRule_153 : decode cX7_readRule 153 = .ok (.istore_n 2, 1) := by decide +kernel
theorem dX7_readRule_154 : decode cX7_readRule 154 = .ok (.aload_n 0, 1) := by decide +kernel
theorem dX7_readRule_155 : decode cX7_readRule 155 = .ok (.invokevirtual 77, 3) := by decide +kernel
theorem dX7_readRule_158 : decode cX7_readRule 158 = .ok (.iinc 3 1, 3) := by decide +kernel
theorem dX7_readRule_161 : decode cX7_readRule 161 = .ok (.goto (-130), 3) := by decide +kernel
theorem dX7_readRule_164 : decode cX7_readRule 164 = .ok (.aload_n 0, 1) := by decide +kernel
theorem dX7_readRule_165 : decode cX7_readRule 165 = .ok (.iconst 1, 1) := by decide +kernel
theorem dX7_readRule_166 : decode cX7_readRule 166 = .ok (.invokevirtual 84, 3) := by decide +kernel
theorem dX7_readRule_169 : decode cX7_readRule 169 = .ok (.ireturn, 1) := by decide +kernel
theorem dX7_readValue_0 : decode cX7_readValue 0 = .ok (.aload_n 0, 1) := by decide +kernel
theorem dX7_readValue_1 : decode cX7_readValue 1 = .ok (.getfield 37, 3) := by decide +kernel
theorem dX7_readValue_4 : decode cX7_readValue 4 = .ok (.bipush 28, 2) := by decide +kernel
theorem dX7_readValue_6 : decode cX7_readValue 6 = .ok (.if_icmp .ne 35, 3) := by decide +kernel
theorem dX7_readValue_9 : decode cX7_readValue 9 = .ok (.aload_n 0, 1) := by decide +kernel
theorem dX7_readValue_10 : decode cX7_readValue 10 = .ok (.getfield 56, 3) := by decide +kernel
theorem dX7_readValue_13 : decode cX7_readValue 13 = .ok (.bipush 8, 2) := by decide +kernel
theorem dX7_readValue_15 : decode cX7_readValue 15 = .ok (.if_icmp .lt 9, 3) := by decide +kernel
theorem dX7_readValue_18 : decode cX7_readValue 18 = .ok (.aload_n 0, 1) := by decide +kernel
theorem dX7_readValue_19 : decode cX7_readValue 19 = .ok (.iconst 2, 1) := by decide +kernel
theorem dX7_readValue_20 : decode cX7_readValue 20 = .ok (.invokevirtual 84, 3) := by decide +kernel
theorem dX7_readValue_23 : decode cX7_readValue 23 = .ok (.ireturn, 1) := by decide +kernel
theorem dX7_readValue_24 : decode cX7_readValue 24 = .ok (.aload_n 0, 1) := by decide +kernel
theorem dX7_readValue_25 : decode cX7_readValue 25 = .ok (.dup, 1) := by decide +kernel
theorem dX7_readValue_26 : decode cX7_readValue 26 = .ok (.getfield 56, 3) := by decide +kernel
theorem dX7_readValue_29 : decode cX7_readValue 29 = .ok (.iconst 1, 1) := by decide +kernel
theorem dX7_readValue_30 : decode cX7_readValue 30 = .ok (.iadd, 1) := by decide +kernel
theorem dX7_readValue_31 : decode cX7_readValue 31 = .ok (.putfield 56, 3) := by decide +kernel
theorem dX7_readValue_34 : decode cX7_readValue 34 = .ok (.aload_n 0, 1) := by decide +kernel
theorem dX7_readValue_35 : decode cX7_readValue 35 = .ok (.bipush 28, 2) := by decide +kernel
theorem dX7_readValue_37 : decode cX7_readValue 37 = .ok (.invokevirtual 360, 3) := by decide +kernel
theorem dX7_readValue_40 : decode cX7_readValue 40 = .ok (.ireturn, 1) := by decide +kernel
theorem dX7_readValue_41 : decode cX7_readValue 41 = .ok (.aload_n 0, 1) := by decide +kernel
theorem dX7_readValue_42 : decode cX7_readValue 42 = .ok (.getfield 37, 3) := by decide +kernel
theorem dX7_readValue_45 : decode cX7_readValue 45 = .ok (.bipush 26, 2) := by decide +kernel
theorem dX7_readValue_47 : decode cX7_readValue 47 = .ok (.if_icmp .ne 33, 3) := by decide +kernel
theorem dX7_readValue_50 : decode cX7_readValue 50 = .ok (.aload_n 0, 1) := by decide +kernel
theorem dX7_readValue_51 : decode cX7_readValue 51 = .ok (.iconst 0, 1) := by decide +kernel
theorem dX7_readValue_52 : decode cX7_readValue 52 = .ok (.sipush 9999, 3) := by decide +kernel
theorem dX7_readValue_55 : decode cX7_readValue 55 = .ok (.invokevirtual 248, 3) := by decide +kernel
theorem dX7_readValue_58 : decode cX7_readValue 58 = .ok (.ifCond .eq 10, 3) := by decide +kernel
theorem dX7_readValue_61 : decode cX7_readValue 61 = .ok (.aload_n 0, 1) := by decide +kernel
theorem dX7_readValue_62 : decode cX7_readValue 62 = .ok (.invokevirtual 363, 3) := by decide +kernel
theorem dX7_readValue_65 : decode cX7_readValue 65 = .ok (.ifCond .ne 5, 3) := by decide +kernel
theorem dX7_readValue_68 : decode cX7_readValue 68 = .ok (.iconst 0, 1) := by decide +kernel
theorem dX7_readValue_69 : decode cX7_readValue 69 = .ok (.ireturn, 1) := by decide +kernel
theorem dX7_readValue_70 : decode cX7_readValue 70 = .ok (.aload_n 1, 1) := by decide +kernel
theorem dX7_readValue_71 : decode cX7_readValue 71 = .ok (.aload_n 0, 1) := by decide +kernel
theorem dX7_readValue_72 : decode cX7_readValue 72 = .ok (.getfield 40, 3) := by decide +kernel
theorem dX7_readValue_75 : decode cX7_readValue 75 = .ok (.invokevirtual 366, 3) := by decide +kernel
theorem dX7_readValue_78 : decode cX7_readValue 78 = .ok (.iconst 1, 1) := by decide +kernel
theorem dX7_readValue_79 : decode cX7_readValue 79 = .ok (.ireturn, 1) := by decide +kernel
theorem dX7_readValue_80 : decode cX7_readValue 80 = .ok (.aload_n 0, 1) := by decide +kernel
theorem dX7_readValue_81 : decode cX7_readValue 81 = .ok (.getfield 37, 3) := by decide +kernel
theorem dX7_readValue_84 : decode cX7_readValue 84 = .ok (.bipush 16, 2) := by decide +kernel
theorem dX7_readValue_86 : decode cX7_readValue 86 = .ok (.if_icmp .ne 40, 3) := by decide +kernel
theorem dX7_readValue_89 : decode cX7_readValue 89 = .ok (.aload_n 0, 1) := by decide +kernel
theorem dX7_readValue_90 : decode cX7_readValue 90 = .ok (.invokevirtual 369, 3) := by decide +kernel
theorem dX7_readValue_93 : decode cX7_readValue 93 = .ok (.invokestatic 347, 3) := by decide +kernel
theorem dX7_readValue_96 : decode cX7_readValue 96 = .ok (.bipush 16, 2) := by decide +kernel
theorem dX7_readValue_98 : decode cX7_readValue 98 = .ok (.invokestatic 347, 3) := by decide +kernel
theorem dX7_readValue_101 : decode cX7_readValue 101 = .ok (.if_icmp .gt 25, 3) := by decide +kernel
theorem dX7_readValue_104 : decode cX7_readValue 104 = .ok (.aload_n 0, 1) := by decide +kernel
theorem dX7_readValue_105 : decode cX7_readValue 105 = .ok (.invokevirtual 363, 3) := by decide +kernel
theorem dX7_readValue_108 : decode cX7_readValue 108 = .ok (.ifCond .eq 16, 3) := by decide +kernel
theorem dX7_readValue_111 : decode cX7_readValue 111 = .ok (.aload_n 0, 1) := by decide +kernel
theorem dX7_readValue_112 : decode cX7_readValue 112 = .ok (.bipush 16, 2) := by decide +kernel
theorem dX7_readValue_114 : decode cX7_readValue 114 = .ok (.invokevirtual 360, 3) := by decide +kernel
theorem dX7_readValue_117 : decode cX7_readValue 117 = .ok (.ifCond .eq 7, 3) := by decide +kernel
theorem dX7_readValue_120 : decode cX7_readValue 120 = .ok (.iconst 1, 1) := by decide +kernel
theorem dX7_readValue_121 : decode cX7_readValue 121 = .ok (.goto 4, 3) := by decide +kernel
theorem dX7_readValue_124 : decode cX7_readValue 124 = .ok (.iconst 0, 1) := by decide +kernel
theorem dX7_readValue_125 : decode cX7_readValue 125 = .ok (.ireturn, 1) := by decide +kernel
theorem dX7_readValue_126 : decode cX7_readValue 126 = .ok (.aload_n 0, 1) := by decide +kernel
theorem dX7_readValue_127 : decode cX7_readValue 127 = .ok (.getfield 37, 3) := by decide +kernel
theorem dX7_readValue_130 : decode cX7_readValue 130 = .ok (.bipush 19, 2) := by decide +kernel
theorem dX7_readValue_132 : decode cX7_readValue 132 = .ok (.if_icmp .lt 12, 3) := by decide +kernel
theorem dX7_readValue_135 : decode cX7_readValue 135 = .ok (.aload_n 0, 1) := by decide +kernel
theorem dX7_readValue_136 : decode cX7_readValue 136 = .ok (.getfield 37, 3) := by decide +kernel
theorem dX7_readValue_139 : decode cX7_readValue 139 = .ok (.bipush 25, 2) := by decide +kernel
theorem dX7_readValue_141 : decode cX7_readValue 141 = .ok (.if_icmp .lt 9, 3) := by decide +kernel
theorem dX7_readValue_144 : decode cX7_readValue 144 = .ok (.aload_n 0, 1) := by decide +kernel
theorem dX7_readValue_145 : decode cX7_readValue 145 = .ok (.iconst 1, 1) := by decide +kernel
theorem dX7_readValue_146 : decode cX7_readValue 146 = .ok (.invokevirtual 84, 3) := by decide +kernel
theorem dX7_readValue_149 : decode cX7_readValue 149 = .ok (.ireturn, 1) := by decide +kernel
theorem dX7_readValue_150 : decode cX7_readValue 150 = .ok (.aload_n 0, 1) := by decide +kernel
theorem dX7_readValue_151 : decode cX7_readValue 151 = .ok (.invokevirtual 363, 3) := by decide +kernel
theorem dX7_readValue_154 : decode cX7_readValue 154 = .ok (.ifCond .ne 5, 3) := by decide +kernel
theorem dX7_readValue_157 : decode cX7_readValue 157 = .ok (.iconst 0, 1) := by decide +kernel
theorem dX7_readValue_158 : decode cX7_readValue 158 = .ok (.ireturn, 1) := by decide +kernel
theorem dX7_readValue_159 : decode cX7_readValue 159 = .ok (.aload_n 1, 1) := by decide +kernel
theorem dX7_readValue_160 : decode cX7_readValue 160 = .ok (.iconst (-1), 1) := by decide +kernel
theorem dX7_readValue_161 : decode cX7_readValue 161 = .ok (.aload_n 0, 1) := by decide +kernel
theorem dX7_readValue_162 : decode cX7_readValue 162 = .ok (.getfield 37, 3) := by decide +kernel
theorem dX7_readValue_165 : decode cX7_readValue 165 = .ok (.isub, 1) := by decide +kernel
theorem dX7_readValue_166 : decode cX7_readValue 166 = .ok (.invokevirtual 366, 3) := by decide +kernel
theorem dX7_readValue_169 : decode cX7_readValue 169 = .ok (.iconst 1, 1) := by decide +kernel
theorem dX7_readValue_170 : decode cX7_readValue 170 = .ok (.ireturn, 1) := by decide +kernel
theorem dX7_readJoint_0 : decode cX7_readJoint 0 = .ok (.aload_n 0, 1) := by decide +kernel
theorem dX7_readJoint_1 : decode cX7_readJoint 1 = .ok (.getfield 37, 3) := by decide +kernel
theorem dX7_readJoint_4 : decode cX7_readJoint 4 = .ok (.bipush 29, 2) := by decide +kernel
theorem dX7_readJoint_6 : decode cX7_readJoint 6 = .ok (.if_icmp .ne 38, 3) := by decide +kernel
theorem dX7_readJoint_9 : decode cX7_readJoint 9 = .ok (.aload_n 0, 1) := by decide +kernel
theorem dX7_readJoint_10 : decode cX7_readJoint 10 = .ok (.getfield 56, 3) := by decide +kernel
theorem dX7_readJoint_13 : decode cX7_readJoint 13 = .ok (.ifCond .le 31, 3) := by decide +kernel
theorem dX7_readJoint_16 : decode cX7_readJoint 16 = .ok (.aload_n 0, 1) := by decide +kernel
theorem dX7_readJoint_17 : decode cX7_readJoint 17 = .ok (.aload_n 1, 1) := by decide +kernel
theorem dX7_readJoint_18 : decode cX7_readJoint 18 = .ok (.iconst 0, 1) := by decide +kernel
theorem dX7_readJoint_19 : decode cX7_readJoint 19 = .ok (.invokevirtual 350, 3) := by decide +kernel
theorem dX7_readJoint_22 : decode cX7_readJoint 22 = .ok (.aload_n 0, 1) := by decide +kernel
theorem dX7_readJoint_23 : decode cX7_readJoint 23 = .ok (.dup, 1) := by decide +kernel
theorem dX7_readJoint_24 : decode cX7_readJoint 24 = .ok (.getfield 53, 3) := by decide +kernel
theorem dX7_readJoint_27 : decode cX7_readJoint 27 = .ok (.iconst 1, 1) := by decide +kernel
theorem dX7_readJoint_28 : decode cX7_readJoint 28 = .ok (.isub, 1) := by decide +kernel
theorem dX7_readJoint_29 : decode cX7_readJoint 29 = .ok (.putfield 53, 3) := by decide +kernel
theorem dX7_readJoint_32 : decode cX7_readJoint 32 = .ok (.aload_n 0, 1) := by decide +kernel
theorem dX7_readJoint_33 : decode cX7_readJoint 33 = .ok (.dup, 1) := by decide +kernel
theorem dX7_readJoint_34 : decode cX7_readJoint 34 = .ok (.getfield 56, 3) := by decide +kernel
theorem dX7_readJoint_37 : decode cX7_readJoint 37 = .ok (.iconst 1, 1) := by decide +kernel
theorem dX7_readJoint_38 : decode cX7_readJoint 38 = .ok (.isub, 1) := by decide +kernel
theorem dX7_readJoint_39 : decode cX7_readJoint 39 = .ok (.putfield 56, 3) := by decide +kernel
theorem dX7_readJoint_42 : decode cX7_readJoint 42 = .ok (.iconst 1, 1) := by decide +kernel
theorem dX7_readJoint_43 : decode cX7_readJoint 43 = .ok (.ireturn, 1) := by decide +kernel
theorem dX7_readJoint_44 : decode cX7_readJoint 44 = .ok (.aload_n 0, 1) := by decide +kernel
theorem dX7_readJoint_45 : decode cX7_readJoint 45 = .ok (.getfield 37, 3) := by decide +kernel
theorem dX7_readJoint_48 : decode cX7_readJoint 48 = .ok (.invokestatic 347, 3) := by decide +kernel
theorem dX7_readJoint_51 : decode cX7_readJoint 51 = .ok (.istore_n 2, 1) := by decide +kernel
theorem dX7_readJoint_52 : decode cX7_readJoint 52 = .ok (.iload_n 2, 1) := by decide +kernel
theorem dX7_readJoint_53 : decode cX7_readJoint 53 = .ok (.ifCond .eq 12, 3) := by decide +kernel
theorem dX7_readJoint_56 : decode cX7_readJoint 56 = .ok (.aload_n 0, 1) := by decide +kernel
theorem dX7_readJoint_57 : decode cX7_readJoint 57 = .ok (.getfield 37, 3) := by decide +kernel
theorem dX7_readJoint_60 : decode cX7_readJoint 60 = .ok (.bipush 16, 2) := by decide +kernel
theorem dX7_readJoint_62 : decode cX7_readJoint 62 = .ok (.if_icmp .ne 9, 3) := by decide +kernel
theorem dX7_readJoint_65 : decode cX7_readJoint 65 = .ok (.aload_n 0, 1) := by decide +kernel
theorem dX7_readJoint_66 : decode cX7_readJoint 66 = .ok (.iconst 1, 1) := by decide +kernel
theorem dX7_readJoint_67 : decode cX7_readJoint 67 = .ok (.invokevirtual 84, 3) := by decide +kernel
theorem dX7_readJoint_70 : decode cX7_readJoint 70 = .ok (.ireturn, 1) := by decide +kernel
theorem dX7_readJoint_71 : decode cX7_readJoint 71 = .ok (.iload_n 2, 1) := by decide +kernel
theorem dX7_readJoint_72 : decode cX7_readJoint 72 = .ok (.bipush 32, 2) := by decide +kernel
theorem dX7_readJoint_74 : decode cX7_readJoint 74 = .ok (.invokestatic 347, 3) := by decide +kernel
theorem dX7_readJoint_77 : decode cX7_readJoint 77 = .ok (.if_icmp .ne 7, 3) := by decide +kernel
theorem dX7_readJoint_80 : decode cX7_readJoint 80 = .ok (.iconst 1, 1) := by decide +kernel
theorem dX7_readJoint_81 : decode cX7_readJoint 81 = .ok (.goto 4, 3) := by decide +kernel
theorem dX7_readJoint_84 : decode cX7_readJoint 84 = .ok (.iconst 0, 1) := by decide +kernel
theorem dX7_readJoint_85 : decode cX7_readJoint 85 = .ok (.istore_n 3, 1) := by decide +kernel
theorem dX7_readJoint_86 : decode cX7_readJoint 86 = .ok (.aload_n 0, 1) := by decide +kernel
theorem dX7_readJoint_87 : decode cX7_readJoint 87 = .ok (.aload_n 1, 1) := by decide +kernel
theorem dX7_readJoint_88 : decode cX7_readJoint 88 = .ok (.iload_n 3, 1) := by decide +kernel
theorem dX7_readJoint_89 : decode cX7_readJoint 89 = .ok (.ifCond .eq 7, 3) := by decide +kernel
theorem dX7_readJoint_92 : decode cX7_readJoint 92 = .ok (.iload_n 2, 1) := by decide +kernel
theorem dX7_readJoint_93 : decode cX7_readJoint 93 = .ok (.goto 6, 3) := by decide +kernel
theorem dX7_readJoint_96 : decode cX7_readJoint 96 = .ok (.iload_n 2, 1) := by decide +kernel
theorem dX7_readJoint_97 : decode cX7_readJoint 97 = .ok (.iconst 1, 1) := by decide +kernel
theorem dX7_readJoint_98 : decode cX7_readJoint 98 = .ok (.isub, 1) := by decide +kernel
theorem dX7_readJoint_99 : decode cX7_readJoint 99 = .ok (.invokevirtual 350, 3) := by decide +kernel
theorem dX7_readJoint_102 : decode cX7_readJoint 102 = .ok (.iload_n 3, 1) := by decide +kernel
theorem dX7_readJoint_103 : decode cX7_readJoint 103 = .ok (.ifCond .eq 20, 3) := by decide +kernel
theorem dX7_readJoint_106 : decode cX7_readJoint 106 = .ok (.aload_n 0, 1) := by decide +kernel
theorem dX7_readJoint_107 : decode cX7_readJoint 107 = .ok (.invokevirtual 369, 3) := by decide +kernel
theorem dX7_readJoint_110 : decode cX7_readJoint 110 = .ok (.invokestatic 347, 3) := by decide +kernel
theorem dX7_readJoint_113 : decode cX7_readJoint 113 = .ok (.iload_n 2, 1) := by decide +kernel
theorem dX7_readJoint_114 : decode cX7_readJoint 114 = .ok (.if_icmp .ne 9, 3) := by decide +kernel
theorem dX7_readJoint_117 : decode cX7_readJoint 117 = .ok (.aload_n 0, 1) := by decide +kernel
theorem dX7_readJoint_118 : decode cX7_readJoint 118 = .ok (.iconst 1, 1) := by decide +kernel
theorem dX7_readJoint_119 : decode cX7_readJoint 119 = .ok (.invokevirtual 84, 3) := by decide +kernel
theorem dX7_readJoint_122 : decode cX7_readJoint 122 = .ok (.ireturn, 1) := by decide +kernel
theorem dX7_readJoint_123 : decode cX7_readJoint 123 = .ok (.aload_n 0, 1) := by decide +kernel
theorem dX7_readJoint_124 : decode cX7_readJoint 124 = .ok (.invokevirtual 363, 3) := by decide +kernel
theorem dX7_readJoint_127 : decode cX7_readJoint 127 = .ok (.ifCond .eq 18, 3) := by decide +kernel
theorem dX7_readJoint_130 : decode cX7_readJoint 130 = .ok (.aload_n 0, 1) := by decide +kernel
theorem dX7_readJoint_131 : decode cX7_readJoint 131 = .ok (.aload_n 0, 1) := by decide +kernel
theorem dX7_readJoint_132 : decode cX7_readJoint 132 = .ok (.getfield 37, 3) := by decide +kernel
theorem dX7_readJoint_135 : decode cX7_readJoint 135 = .ok (.invokevirtual 360, 3) := by decide +kernel
theorem dX7_readJoint_138 : decode cX7_readJoint 138 = .ok (.ifCond .eq 7, 3) := by decide +kernel
theorem dX7_readJoint_141 : decode cX7_readJoint 141 = .ok (.iconst 1, 1) := by decide +kernel
theorem dX7_readJoint_142 : decode cX7_readJoint 142 = .ok (.goto 4, 3) := by decide +kernel
theorem dX7_readJoint_145 : decode cX7_readJoint 145 = .ok (.iconst 0, 1) := by decide +kernel
theorem dX7_readJoint_146 : decode cX7_readJoint 146 = .ok (.ireturn, 1) := by decide +kernel
theorem dX7_rank_0 : decode cX7_rank 0 = .ok (.iload_n 0, 1) := by decide +kernel
theorem dX7_rank_1 : decode cX7_rank 1 = .ok (.tableswitch 124 16 39 #[115, 111, 113, 124, 124, 124, 124, 124, 124, 124, 124, 124, 124, 124, 117, 117, 117, 117, 117, 117, 119, 119, 121, 121], 111) := by decide +kernel
theorem dX7_rank_112 : decode cX7_rank 112 = .ok (.iconst 1, 1) := by decide +kernel
theorem dX7_rank_113 : decode cX7_rank 113 = .ok (.ireturn, 1) := by decide +kernel
theorem dX7_rank_114 : decode cX7_rank 114 = .ok (.iconst 2, 1) := by decide +kernel
theorem dX7_rank_115 : decode cX7_rank 115 = .ok (.ireturn, 1) := by decide +kernel
theorem dX7_rank_116 : decode cX7_rank 116 = .ok (.iconst 3, 1) := by decide +kernel
theorem dX7_rank_117 : decode cX7_rank 117 = .ok (.ireturn, 1) := by decide +kernel
theorem dX7_rank_118 : decode cX7_rank 118 = .ok (.iconst 4, 1) := by decide +kernel
theorem dX7_rank_119 : decode cX7_rank 119 = .ok (.ireturn, 1) := by decide +kernel
theorem dX7_rank_120 : decode cX7_rank 120 = .ok (.iconst 5, 1) := by decide +kernel
theorem dX7_rank_121 : decode cX7_rank 121 = .ok (.ireturn, 1) := by decide +kernel
theorem dX7_rank_122 : decode cX7_rank 122 = .ok (.bipush 6, 2) := by decide +kernel
theorem dX7_rank_124 : decode cX7_rank 124 = .ok (.ireturn, 1) := by decide +kernel
theorem dX7_rank_125 : decode cX7_rank 125 = .ok (.iconst 0, 1) := by decide +kernel
theorem dX7_rank_126 : decode cX7_rank 126 = .ok (.ireturn, 1) := by decide +kernel
theorem dX7_settle_0 : decode cX7_settle 0 = .ok (.aload_n 0, 1) := by decide +kernel
theorem dX7_settle_1 : decode cX7_settle 1 = .ok (.getfield 53, 3) := by decide +kernel
theorem dX7_settle_4 : decode cX7_settle 4 = .ok (.istore_n 3, 1) := by decide +kernel
theorem dX7_settle_5 : decode cX7_settle 5 = .ok (.iload_n 3, 1) := by decide +kernel
theorem dX7_settle_6 : decode cX7_settle 6 = .ok (.ifCond .le 48, 3) := by decide +kernel
theorem dX7_settle_9 : decode cX7_settle 9 = .ok (.aload_n 0, 1) := by decide +kernel
theorem dX7_settle_10 : decode cX7_settle 10 = .ok (.getfield 50, 3) := by decide +kernel
theorem dX7_settle_13 : decode cX7_settle 13 = .ok (.iload_n 3, 1) := by decide +kernel
theorem dX7_settle_14 : decode cX7_settle 14 = .ok (.iconst 1, 1) := by decide +kernel
theorem dX7_settle_15 : decode cX7_settle 15 = .ok (.isub, 1) := by decide +kernel
theorem dX7_settle_16 : decode cX7_settle 16 = .ok (.iaload, 1) := by decide +kernel
theorem dX7_settle_17 : decode cX7_settle 17 = .ok (.invokestatic 347, 3) := by decide +kernel
theorem dX7_settle_20 : decode cX7_settle 20 = .ok (.iload_n 2, 1) := by decide +kernel
theorem dX7_settle_21 : decode cX7_settle 21 = .ok (.if_icmp .le 33, 3) := by decide +kernel
theorem dX7_settle_24 : decode cX7_settle 24 = .ok (.aload_n 1, 1) := by decide +kernel
theorem dX7_settle_25 : decode cX7_settle 25 = .ok (.iconst (-1), 1) := by decide +kernel
theorem dX7_settle_26 : decode cX7_settle 26 = .ok (.aload_n 0, 1) := by decide +kernel
theorem dX7_settle_27 : decode cX7_settle 27 = .ok (.getfield 50, 3) := by decide +kernel
theorem dX7_settle_30 : decode cX7_settle 30 = .ok (.iload_n 3, 1) := by decide +kernel
theorem dX7_settle_31 : decode cX7_settle 31 = .ok (.iconst 1, 1) := by decide +kernel
theorem dX7_settle_32 : decode cX7_settle 32 = .ok (.isub, 1) := by decide +kernel
theorem dX7_settle_33 : decode cX7_settle 33 = .ok (.iaload, 1) := by decide +kernel
theorem dX7_settle_34 : decode cX7_settle 34 = .ok (.isub, 1) := by decide +kernel
theorem dX7_settle_35 : decode cX7_settle 35 = .ok (.invokevirtual 366, 3) := by decide +kernel
theorem dX7_settle_38 : decode cX7_settle 38 = .ok (.aload_n 0, 1) := by decide +kernel
theorem dX7_settle_39 : decode cX7_settle 39 = .ok (.dup, 1) := by decide +kernel
theorem dX7_settle_40 : decode cX7_settle 40 = .ok (.getfield 53, 3) := by decide +kernel
theorem dX7_settle_43 : decode cX7_settle 43 = .ok (.iconst 1, 1) := by decide +kernel
theorem dX7_settle_44 : decode cX7_settle 44 = .ok (.isub, 1) := by decide +kernel
theorem dX7_settle_45 : decode cX7_settle 45 = .ok (.putfield 53, 3) := by decide +kernel
theorem dX7_settle_48 : decode cX7_settle 48 = .ok (.iinc 3 (-1), 3) := by decide +kernel
theorem dX7_settle_51 : decode cX7_settle 51 = .ok (.goto (-46), 3) := by decide +kernel
theorem dX7_settle_54 : decode cX7_settle 54 = .ok (.return_, 1) := by decide +kernel
theorem dX7_latestWaiting_0 : decode cX7_latestWaiting 0 = .ok (.aload_n 0, 1) := by decide +kernel
theorem dX7_latestWaiting_1 : decode cX7_latestWaiting 1 = .ok (.getfield 53, 3) := by decide +kernel
theorem dX7_latestWaiting_4 : decode cX7_latestWaiting 4 = .ok (.ifCond .le 17, 3) := by decide +kernel
theorem dX7_latestWaiting_7 : decode cX7_latestWaiting 7 = .ok (.aload_n 0, 1) := by decide +kernel
theorem dX7_latestWaiting_8 : decode cX7_latestWaiting 8 = .ok (.getfield 50, 3) := by decide +kernel
theorem dX7_latestWaiting_11 : decode cX7_latestWaiting 11 = .ok (.aload_n 0, 1) := by decide +kernel
theorem dX7_latestWaiting_12 : decode cX7_latestWaiting 12 = .ok (.getfield 53, 3) := by decide +kernel
theorem dX7_latestWaiting_15 : decode cX7_latestWaiting 15 = .ok (.iconst 1, 1) := by decide +kernel
theorem dX7_latestWaiting_16 : decode cX7_latestWaiting 16 = .ok (.isub, 1) := by decide +kernel
theorem dX7_latestWaiting_17 : decode cX7_latestWaiting 17 = .ok (.iaload, 1) := by decide +kernel
theorem dX7_latestWaiting_18 : decode cX7_latestWaiting 18 = .ok (.goto 5, 3) := by decide +kernel
theorem dX7_latestWaiting_21 : decode cX7_latestWaiting 21 = .ok (.bipush 28, 2) := by decide +kernel
theorem dX7_latestWaiting_23 : decode cX7_latestWaiting 23 = .ok (.ireturn, 1) := by decide +kernel
theorem dX7_await_0 : decode cX7_await 0 = .ok (.aload_n 0, 1) := by decide +kernel
theorem dX7_await_1 : decode cX7_await 1 = .ok (.getfield 53, 3) := by decide +kernel
theorem dX7_await_4 : decode cX7_await 4 = .ok (.aload_n 0, 1) := by decide +kernel
theorem dX7_await_5 : decode cX7_await 5 = .ok (.getfield 50, 3) := by decide +kernel
theorem dX7_await_8 : decode cX7_await 8 = .ok (.arraylength, 1) := by decide +kernel
theorem dX7_await_9 : decode cX7_await 9 = .ok (.if_icmp .lt 9, 3) := by decide +kernel
theorem dX7_await_12 : decode cX7_await 12 = .ok (.aload_n 0, 1) := by decide +kernel
theorem dX7_await_13 : decode cX7_await 13 = .ok (.iconst 2, 1) := by decide +kernel
theorem dX7_await_14 : decode cX7_await 14 = .ok (.invokevirtual 84, 3) := by decide +kernel
theorem dX7_await_17 : decode cX7_await 17 = .ok (.ireturn, 1) := by decide +kernel
theorem dX7_await_18 : decode cX7_await 18 = .ok (.aload_n 0, 1) := by decide +kernel
theorem dX7_await_19 : decode cX7_await 19 = .ok (.getfield 50, 3) := by decide +kernel
theorem dX7_await_22 : decode cX7_await 22 = .ok (.aload_n 0, 1) := by decide +kernel
theorem dX7_await_23 : decode cX7_await 23 = .ok (.getfield 53, 3) := by decide +kernel
theorem dX7_await_26 : decode cX7_await 26 = .ok (.iload_n 1, 1) := by decide +kernel
theorem dX7_await_27 : decode cX7_await 27 = .ok (.iastore, 1) := by decide +kernel
theorem dX7_await_28 : decode cX7_await 28 = .ok (.aload_n 0, 1) := by decide +kernel
theorem dX7_await_29 : decode cX7_await 29 = .ok (.dup, 1) := by decide +kernel
theorem dX7_await_30 : decode cX7_await 30 = .ok (.getfield 53, 3) := by decide +kernel
theorem dX7_await_33 : decode cX7_await 33 = .ok (.iconst 1, 1) := by decide +kernel
theorem dX7_await_34 : decode cX7_await 34 = .ok (.iadd, 1) := by decide +kernel
theorem dX7_await_35 : decode cX7_await 35 = .ok (.putfield 53, 3) := by decide +kernel
theorem dX7_await_38 : decode cX7_await 38 = .ok (.iconst 1, 1) := by decide +kernel
theorem dX7_await_39 : decode cX7_await 39 = .ok (.ireturn, 1) := by decide +kernel
theorem dX7_hasRoomForKnot_0 : decode cX7_hasRoomForKnot 0 = .ok (.aload_n 0, 1) := by decide +kernel
theorem dX7_hasRoomForKnot_1 : decode cX7_hasRoomForKnot 1 = .ok (.getfield 46, 3) := by decide +kernel
theorem dX7_hasRoomForKnot_4 : decode cX7_hasRoomForKnot 4 = .ok (.invokevirtual 372, 3) := by decide +kernel
theorem dX7_hasRoomForKnot_7 : decode cX7_hasRoomForKnot 7 = .ok (.aload_n 0, 1) := by decide +kernel
theorem dX7_hasRoomForKnot_8 : decode cX7_hasRoomForKnot 8 = .ok (.getfield 53, 3) := by decide +kernel
theorem dX7_hasRoomForKnot_11 : decode cX7_hasRoomForKnot 11 = .ok (.iadd, 1) := by decide +kernel
theorem dX7_hasRoomForKnot_12 : decode cX7_hasRoomForKnot 12 = .ok (.aload_n 0, 1) := by decide +kernel
theorem dX7_hasRoomForKnot_13 : decode cX7_hasRoomForKnot 13 = .ok (.getfield 56, 3) := by decide +kernel
theorem dX7_hasRoomForKnot_16 : decode cX7_hasRoomForKnot 16 = .ok (.isub, 1) := by decide +kernel
theorem dX7_hasRoomForKnot_17 : decode cX7_hasRoomForKnot 17 = .ok (.istore_n 1, 1) := by decide +kernel
theorem dX7_hasRoomForKnot_18 : decode cX7_hasRoomForKnot 18 = .ok (.iload_n 1, 1) := by decide +kernel
theorem dX7_hasRoomForKnot_19 : decode cX7_hasRoomForKnot 19 = .ok (.bipush 64, 2) := by decide +kernel
theorem dX7_hasRoomForKnot_21 : decode cX7_hasRoomForKnot 21 = .ok (.if_icmp .lt 11, 3) := by decide +kernel
theorem dX7_hasRoomForKnot_24 : decode cX7_hasRoomForKnot 24 = .ok (.aload_n 0, 1) := by decide +kernel
theorem dX7_hasRoomForKnot_25 : decode cX7_hasRoomForKnot 25 = .ok (.iconst 2, 1) := by decide +kernel
theorem dX7_hasRoomForKnot_26 : decode cX7_hasRoomForKnot 26 = .ok (.invokevirtual 84, 3) := by decide +kernel
theorem dX7_hasRoomForKnot_29 : decode cX7_hasRoomForKnot 29 = .ok (.ifCond .eq 7, 3) := by decide +kernel
theorem dX7_hasRoomForKnot_32 : decode cX7_hasRoomForKnot 32 = .ok (.iconst 1, 1) := by decide +kernel
theorem dX7_hasRoomForKnot_33 : decode cX7_hasRoomForKnot 33 = .ok (.goto 4, 3) := by decide +kernel
theorem dX7_hasRoomForKnot_36 : decode cX7_hasRoomForKnot 36 = .ok (.iconst 0, 1) := by decide +kernel
theorem dX7_hasRoomForKnot_37 : decode cX7_hasRoomForKnot 37 = .ok (.ireturn, 1) := by decide +kernel
theorem dX7_isNewName_0 : decode cX7_isNewName 0 = .ok (.aload_n 0, 1) := by decide +kernel
theorem dX7_isNewName_1 : decode cX7_isNewName 1 = .ok (.getfield 37, 3) := by decide +kernel
theorem dX7_isNewName_4 : decode cX7_isNewName 4 = .ok (.bipush 25, 2) := by decide +kernel
theorem dX7_isNewName_6 : decode cX7_isNewName 6 = .ok (.if_icmp .eq 9, 3) := by decide +kernel
theorem dX7_isNewName_9 : decode cX7_isNewName 9 = .ok (.aload_n 0, 1) := by decide +kernel
theorem dX7_isNewName_10 : decode cX7_isNewName 10 = .ok (.iconst 1, 1) := by decide +kernel
theorem dX7_isNewName_11 : decode cX7_isNewName 11 = .ok (.invokevirtual 84, 3) := by decide +kernel
theorem dX7_isNewName_14 : decode cX7_isNewName 14 = .ok (.ireturn, 1) := by decide +kernel
theorem dX7_isNewName_15 : decode cX7_isNewName 15 = .ok (.iload_n 1, 1) := by decide +kernel
theorem dX7_isNewName_16 : decode cX7_isNewName 16 = .ok (.iconst (-1), 1) := by decide +kernel
theorem dX7_isNewName_17 : decode cX7_isNewName 17 = .ok (.if_icmp .eq 11, 3) := by decide +kernel
theorem dX7_isNewName_20 : decode cX7_isNewName 20 = .ok (.aload_n 0, 1) := by decide +kernel
theorem dX7_isNewName_21 : decode cX7_isNewName 21 = .ok (.iconst 3, 1) := by decide +kernel
theorem dX7_isNewName_22 : decode cX7_isNewName 22 = .ok (.invokevirtual 84, 3) := by decide +kernel
theorem dX7_isNewName_25 : decode cX7_isNewName 25 = .ok (.ifCond .eq 7, 3) := by decide +kernel
theorem dX7_isNewName_28 : decode cX7_isNewName 28 = .ok (.iconst 1, 1) := by decide +kernel
theorem dX7_isNewName_29 : decode cX7_isNewName 29 = .ok (.goto 4, 3) := by decide +kernel
theorem dX7_isNewName_32 : decode cX7_isNewName 32 = .ok (.iconst 0, 1) := by decide +kernel
theorem dX7_isNewName_33 : decode cX7_isNewName 33 = .ok (.ireturn, 1) := by decide +kernel
theorem dX7_isToldName_0 : decode cX7_isToldName 0 = .ok (.aload_n 0, 1) := by decide +kernel
theorem dX7_isToldName_1 : decode cX7_isToldName 1 = .ok (.getfield 37, 3) := by decide +kernel
theorem dX7_isToldName_4 : decode cX7_isToldName 4 = .ok (.bipush 25, 2) := by decide +kernel
theorem dX7_isToldName_6 : decode cX7_isToldName 6 = .ok (.if_icmp .eq 9, 3) := by decide +kernel
theorem dX7_isToldName_9 : decode cX7_isToldName 9 = .ok (.aload_n 0, 1) := by decide +kernel
theorem dX7_isToldName_10 : decode cX7_isToldName 10 = .ok (.iconst 1, 1) := by decide +kernel
theorem dX7_isToldName_11 : decode cX7_isToldName 11 = .ok (.invokevirtual 84, 3) := by decide +kernel
theorem dX7_isToldName_14 : decode cX7_isToldName 14 = .ok (.ireturn, 1) := by decide +kernel
theorem dX7_isToldName_15 : decode cX7_isToldName 15 = .ok (.iload_n 1, 1) := by decide +kernel
theorem dX7_isToldName_16 : decode cX7_isToldName 16 = .ok (.iconst (-1), 1) := by decide +kernel
theorem dX7_isToldName_17 : decode cX7_isToldName 17 = .ok (.if_icmp .ne 11, 3) := by decide +kernel
theorem dX7_isToldName_20 : decode cX7_isToldName 20 = .ok (.aload_n 0, 1) := by decide +kernel
theorem dX7_isToldName_21 : decode cX7_isToldName 21 = .ok (.iconst 4, 1) := by decide +kernel
theorem dX7_isToldName_22 : decode cX7_isToldName 22 = .ok (.invokevirtual 84, 3) := by decide +kernel
theorem dX7_isToldName_25 : decode cX7_isToldName 25 = .ok (.ifCond .eq 7, 3) := by decide +kernel
theorem dX7_isToldName_28 : decode cX7_isToldName 28 = .ok (.iconst 1, 1) := by decide +kernel
theorem dX7_isToldName_29 : decode cX7_isToldName 29 = .ok (.goto 4, 3) := by decide +kernel
theorem dX7_isToldName_32 : decode cX7_isToldName 32 = .ok (.iconst 0, 1) := by decide +kernel
theorem dX7_isToldName_33 : decode cX7_isToldName 33 = .ok (.ireturn, 1) := by decide +kernel
theorem dX7_isNumber_0 : decode cX7_isNumber 0 = .ok (.aload_n 0, 1) := by decide +kernel
theorem dX7_isNumber_1 : decode cX7_isNumber 1 = .ok (.getfield 37, 3) := by decide +kernel
theorem dX7_isNumber_4 : decode cX7_isNumber 4 = .ok (.bipush 26, 2) := by decide +kernel
theorem dX7_isNumber_6 : decode cX7_isNumber 6 = .ok (.if_icmp .eq 9, 3) := by decide +kernel
theorem dX7_isNumber_9 : decode cX7_isNumber 9 = .ok (.aload_n 0, 1) := by decide +kernel
theorem dX7_isNumber_10 : decode cX7_isNumber 10 = .ok (.iconst 1, 1) := by decide +kernel
theorem dX7_isNumber_11 : decode cX7_isNumber 11 = .ok (.invokevirtual 84, 3) := by decide +kernel
theorem dX7_isNumber_14 : decode cX7_isNumber 14 = .ok (.ireturn, 1) := by decide +kernel
theorem dX7_isNumber_15 : decode cX7_isNumber 15 = .ok (.aload_n 0, 1) := by decide +kernel
theorem dX7_isNumber_16 : decode cX7_isNumber 16 = .ok (.getfield 40, 3) := by decide +kernel
theorem dX7_isNumber_19 : decode cX7_isNumber 19 = .ok (.iload_n 1, 1) := by decide +kernel
theorem dX7_isNumber_20 : decode cX7_isNumber 20 = .ok (.if_icmp .lt 11, 3) := by decide +kernel
theorem dX7_isNumber_23 : decode cX7_isNumber 23 = .ok (.aload_n 0, 1) := by decide +kernel
theorem dX7_isNumber_24 : decode cX7_isNumber 24 = .ok (.getfield 40, 3) := by decide +kernel
theorem dX7_isNumber_27 : decode cX7_isNumber 27 = .ok (.iload_n 2, 1) := by decide +kernel
theorem dX7_isNumber_28 : decode cX7_isNumber 28 = .ok (.if_icmp .le 11, 3) := by decide +kernel
theorem dX7_isNumber_31 : decode cX7_isNumber 31 = .ok (.aload_n 0, 1) := by decide +kernel
theorem dX7_isNumber_32 : decode cX7_isNumber 32 = .ok (.iconst 2, 1) := by decide +kernel
theorem dX7_isNumber_33 : decode cX7_isNumber 33 = .ok (.invokevirtual 84, 3) := by decide +kernel
theorem dX7_isNumber_36 : decode cX7_isNumber 36 = .ok (.ifCond .eq 7, 3) := by decide +kernel
theorem dX7_isNumber_39 : decode cX7_isNumber 39 = .ok (.iconst 1, 1) := by decide +kernel
theorem dX7_isNumber_40 : decode cX7_isNumber 40 = .ok (.goto 4, 3) := by decide +kernel
theorem dX7_isNumber_43 : decode cX7_isNumber 43 = .ok (.iconst 0, 1) := by decide +kernel
theorem dX7_isNumber_44 : decode cX7_isNumber 44 = .ok (.ireturn, 1) := by decide +kernel
theorem dX7_takeNumber_0 : decode cX7_takeNumber 0 = .ok (.aload_n 0, 1) := by decide +kernel
theorem dX7_takeNumber_1 : decode cX7_takeNumber 1 = .ok (.iload_n 1, 1) := by decide +kernel
theorem dX7_takeNumber_2 : decode cX7_takeNumber 2 = .ok (.iload_n 2, 1) := by decide +kernel
theorem dX7_takeNumber_3 : decode cX7_takeNumber 3 = .ok (.invokevirtual 248, 3) := by decide +kernel
theorem dX7_takeNumber_6 : decode cX7_takeNumber 6 = .ok (.ifCond .ne 5, 3) := by decide +kernel
theorem dX7_takeNumber_9 : decode cX7_takeNumber 9 = .ok (.iconst 0, 1) := by decide +kernel
theorem dX7_takeNumber_10 : decode cX7_takeNumber 10 = .ok (.ireturn, 1) := by decide +kernel
theorem dX7_takeNumber_11 : decode cX7_takeNumber 11 = .ok (.aload_n 0, 1) := by decide +kernel
theorem dX7_takeNumber_12 : decode cX7_takeNumber 12 = .ok (.aload_n 0, 1) := by decide +kernel
theorem dX7_takeNumber_13 : decode cX7_takeNumber 13 = .ok (.getfield 40, 3) := by decide +kernel
theorem dX7_takeNumber_16 : decode cX7_takeNumber 16 = .ok (.putfield 43, 3) := by decide +kernel
theorem dX7_takeNumber_19 : decode cX7_takeNumber 19 = .ok (.aload_n 0, 1) := by decide +kernel
theorem dX7_takeNumber_20 : decode cX7_takeNumber 20 = .ok (.invokevirtual 77, 3) := by decide +kernel
theorem dX7_takeNumber_23 : decode cX7_takeNumber 23 = .ok (.iconst 1, 1) := by decide +kernel
theorem dX7_takeNumber_24 : decode cX7_takeNumber 24 = .ok (.ireturn, 1) := by decide +kernel
theorem dX7_isFreshBit_0 : decode cX7_isFreshBit 0 = .ok (.aload_n 0, 1) := by decide +kernel
theorem dX7_isFreshBit_1 : decode cX7_isFreshBit 1 = .ok (.getfield 37, 3) := by decide +kernel
theorem dX7_isFreshBit_4 : decode cX7_isFreshBit 4 = .ok (.bipush 26, 2) := by decide +kernel
theorem dX7_isFreshBit_6 : decode cX7_isFreshBit 6 = .ok (.if_icmp .eq 9, 3) := by decide +kernel
theorem dX7_isFreshBit_9 : decode cX7_isFreshBit 9 = .ok (.aload_n 0, 1) := by decide +kernel
theorem dX7_isFreshBit_10 : decode cX7_isFreshBit 10 = .ok (.iconst 1, 1) := by decide +kernel
theorem dX7_isFreshBit_11 : decode cX7_isFreshBit 11 = .ok (.invokevirtual 84, 3) := by decide +kernel
theorem dX7_isFreshBit_14 : decode cX7_isFreshBit 14 = .ok (.ireturn, 1) := by decide +kernel
theorem dX7_isFreshBit_15 : decode cX7_isFreshBit 15 = .ok (.aload_n 0, 1) := by decide +kernel
theorem dX7_isFreshBit_16 : decode cX7_isFreshBit 16 = .ok (.getfield 40, 3) := by decide +kernel
theorem dX7_isFreshBit_19 : decode cX7_isFreshBit 19 = .ok (.iload_n 2, 1) := by decide +kernel
theorem dX7_isFreshBit_20 : decode cX7_isFreshBit 20 = .ok (.if_icmp .le 9, 3) := by decide +kernel
theorem dX7_isFreshBit_23 : decode cX7_isFreshBit 23 = .ok (.aload_n 0, 1) := by decide +kernel
theorem dX7_isFreshBit_24 : decode cX7_isFreshBit 24 = .ok (.iconst 2, 1) := by decide +kernel
theorem dX7_isFreshBit_25 : decode cX7_isFreshBit 25 = .ok (.invokevirtual 84, 3) := by decide +kernel
theorem dX7_isFreshBit_28 : decode cX7_isFreshBit 28 = .ok (.ireturn, 1) := by decide +kernel
theorem dX7_isFreshBit_29 : decode cX7_isFreshBit 29 = .ok (.iload_n 1, 1) := by decide +kernel
theorem dX7_isFreshBit_30 : decode cX7_isFreshBit 30 = .ok (.aload_n 0, 1) := by decide +kernel
theorem dX7_isFreshBit_31 : decode cX7_isFreshBit 31 = .ok (.getfield 40, 3) := by decide +kernel
theorem dX7_isFreshBit_34 : decode cX7_isFreshBit 34 = .ok (.ishr, 1) := by decide +kernel
theorem dX7_isFreshBit_35 : decode cX7_isFreshBit 35 = .ok (.iconst 1, 1) := by decide +kernel
theorem dX7_isFreshBit_36 : decode cX7_isFreshBit 36 = .ok (.iand, 1) := by decide +kernel
theorem dX7_isFreshBit_37 : decode cX7_isFreshBit 37 = .ok (.ifCond .eq 11, 3) := by decide +kernel
theorem dX7_isFreshBit_40 : decode cX7_isFreshBit 40 = .ok (.aload_n 0, 1) := by decide +kernel
theorem dX7_isFreshBit_41 : decode cX7_isFreshBit 41 = .ok (.iconst 3, 1) := by decide +kernel
theorem dX7_isFreshBit_42 : decode cX7_isFreshBit 42 = .ok (.invokevirtual 84, 3) := by decide +kernel
theorem dX7_isFreshBit_45 : decode cX7_isFreshBit 45 = .ok (.ifCond .eq 7, 3) := by decide +kernel
theorem dX7_isFreshBit_48 : decode cX7_isFreshBit 48 = .ok (.iconst 1, 1) := by decide +kernel
theorem dX7_isFreshBit_49 : decode cX7_isFreshBit 49 = .ok (.goto 4, 3) := by decide +kernel
theorem dX7_isFreshBit_52 : decode cX7_isFreshBit 52 = .ok (.iconst 0, 1) := by decide +kernel
theorem dX7_isFreshBit_53 : decode cX7_isFreshBit 53 = .ok (.ireturn, 1) := by decide +kernel
