theorem dX9_init_0 : decode cX9_init 0 = .ok (.aload_n 0, 1) := by decide +kernel
theorem dX9_init_1 : decode cX9_init 1 = .ok (.invokespecial 3, 3) := by decide +kernel
theorem dX9_init_4 : decode cX9_init 4 = .ok (.aload_n 0, 1) := by decide +kernel
theorem dX9_init_5 : decode cX9_init 5 = .ok (.aconst_null, 1) := by decide +kernel
theorem dX9_init_6 : decode cX9_init 6 = .ok (.putfield 9, 3) := by decide +kernel
theorem dX9_init_9 : decode cX9_init 9 = .ok (.aload_n 0, 1) := by decide +kernel
theorem dX9_init_10 : decode cX9_init 10 = .ok (.aconst_null, 1) := by decide +kernel
theorem dX9_init_11 : decode cX9_init 11 = .ok (.putfield 15, 3) := by decide +kernel
theorem dX9_init_14 : decode cX9_init 14 = .ok (.aload_n 0, 1) := by decide +kernel
theorem dX9_init_15 : decode cX9_init 15 = .ok (.bipush 7, 2) := by decide +kernel
theorem dX9_init_17 : decode cX9_init 17 = .ok (.newarray .int, 2) := by decide +kernel
theorem dX9_init_19 : decode cX9_init 19 = .ok (.putfield 19, 3) := by decide +kernel
theorem dX9_init_22 : decode cX9_init 22 = .ok (.aload_n 0, 1) := by decide +kernel
theorem dX9_init_23 : decode cX9_init 23 = .ok (.iconst 0, 1) := by decide +kernel
theorem dX9_init_24 : decode cX9_init 24 = .ok (.putfield 22, 3) := by decide +kernel
theorem dX9_init_27 : decode cX9_init 27 = .ok (.aload_n 0, 1) := by decide +kernel
theorem dX9_init_28 : decode cX9_init 28 = .ok (.bipush 7, 2) := by decide +kernel
theorem dX9_init_30 : decode cX9_init 30 = .ok (.newarray .int, 2) := by decide +kernel
theorem dX9_init_32 : decode cX9_init 32 = .ok (.putfield 26, 3) := by decide +kernel
theorem dX9_init_35 : decode cX9_init 35 = .ok (.aload_n 0, 1) := by decide +kernel
theorem dX9_init_36 : decode cX9_init 36 = .ok (.bipush 10, 2) := by decide +kernel
theorem dX9_init_38 : decode cX9_init 38 = .ok (.newarray .int, 2) := by decide +kernel
theorem dX9_init_40 : decode cX9_init 40 = .ok (.putfield 29, 3) := by decide +kernel
theorem dX9_init_43 : decode cX9_init 43 = .ok (.aload_n 0, 1) := by decide +kernel
theorem dX9_init_44 : decode cX9_init 44 = .ok (.bipush 10, 2) := by decide +kernel
theorem dX9_init_46 : decode cX9_init 46 = .ok (.newarray .int, 2) := by decide +kernel
theorem dX9_init_48 : decode cX9_init 48 = .ok (.putfield 32, 3) := by decide +kernel
theorem dX9_init_51 : decode cX9_init 51 = .ok (.aload_n 0, 1) := by decide +kernel
theorem dX9_init_52 : decode cX9_init 52 = .ok (.iconst 0, 1) := by decide +kernel
theorem dX9_init_53 : decode cX9_init 53 = .ok (.putfield 35, 3) := by decide +kernel
theorem dX9_init_56 : decode cX9_init 56 = .ok (.aload_n 0, 1) := by decide +kernel
theorem dX9_init_57 : decode cX9_init 57 = .ok (.aconst_null, 1) := by decide +kernel
theorem dX9_init_58 : decode cX9_init 58 = .ok (.putfield 39, 3) := by decide +kernel
theorem dX9_init_61 : decode cX9_init 61 = .ok (.aload_n 0, 1) := by decide +kernel
theorem dX9_init_62 : decode cX9_init 62 = .ok (.iconst (-1), 1) := by decide +kernel
theorem dX9_init_63 : decode cX9_init 63 = .ok (.putfield 42, 3) := by decide +kernel
theorem dX9_init_66 : decode cX9_init 66 = .ok (.aload_n 0, 1) := by decide +kernel
theorem dX9_init_67 : decode cX9_init 67 = .ok (.iconst 0, 1) := by decide +kernel
theorem dX9_init_68 : decode cX9_init 68 = .ok (.putfield 45, 3) := by decide +kernel
theorem dX9_init_71 : decode cX9_init 71 = .ok (.aload_n 0, 1) := by decide +kernel
theorem dX9_init_72 : decode cX9_init 72 = .ok (.bipush 10, 2) := by decide +kernel
theorem dX9_init_74 : decode cX9_init 74 = .ok (.newarray .int, 2) := by decide +kernel
theorem dX9_init_76 : decode cX9_init 76 = .ok (.putfield 48, 3) := by decide +kernel
theorem dX9_init_79 : decode cX9_init 79 = .ok (.aload_n 0, 1) := by decide +kernel
theorem dX9_init_80 : decode cX9_init 80 = .ok (.bipush 10, 2) := by decide +kernel
theorem dX9_init_82 : decode cX9_init 82 = .ok (.newarray .int, 2) := by decide +kernel
theorem dX9_init_84 : decode cX9_init 84 = .ok (.putfield 51, 3) := by decide +kernel
theorem dX9_init_87 : decode cX9_init 87 = .ok (.aload_n 0, 1) := by decide +kernel
theorem dX9_init_88 : decode cX9_init 88 = .ok (.bipush 11, 2) := by decide +kernel
theorem dX9_init_90 : decode cX9_init 90 = .ok (.newarray .int, 2) := by decide +kernel
theorem dX9_init_92 : decode cX9_init 92 = .ok (.putfield 54, 3) := by decide +kernel
theorem dX9_init_95 : decode cX9_init 95 = .ok (.aload_n 0, 1) := by decide +kernel
theorem dX9_init_96 : decode cX9_init 96 = .ok (.iconst 3, 1) := by decide +kernel
theorem dX9_init_97 : decode cX9_init 97 = .ok (.newarray .int, 2) := by decide +kernel
theorem dX9_init_99 : decode cX9_init 99 = .ok (.putfield 57, 3) := by decide +kernel
theorem dX9_init_102 : decode cX9_init 102 = .ok (.aload_n 0, 1) := by decide +kernel
theorem dX9_init_103 : decode cX9_init 103 = .ok (.iconst 3, 1) := by decide +kernel
theorem dX9_init_104 : decode cX9_init 104 = .ok (.newarray .int, 2) := by decide +kernel
theorem dX9_init_106 : decode cX9_init 106 = .ok (.putfield 60, 3) := by decide +kernel
theorem dX9_init_109 : decode cX9_init 109 = .ok (.aload_n 0, 1) := by decide +kernel
theorem dX9_init_110 : decode cX9_init 110 = .ok (.aload_n 1, 1) := by decide +kernel
theorem dX9_init_111 : decode cX9_init 111 = .ok (.putfield 63, 3) := by decide +kernel
theorem dX9_init_114 : decode cX9_init 114 = .ok (.return_, 1) := by decide +kernel
theorem dX9_forgetPlan_0 : decode cX9_forgetPlan 0 = .ok (.aload_n 0, 1) := by decide +kernel
theorem dX9_forgetPlan_1 : decode cX9_forgetPlan 1 = .ok (.iconst 0, 1) := by decide +kernel
theorem dX9_forgetPlan_2 : decode cX9_forgetPlan 2 = .ok (.putfield 35, 3) := by decide +kernel
theorem dX9_forgetPlan_5 : decode cX9_forgetPlan 5 = .ok (.aload_n 0, 1) := by decide +kernel
theorem dX9_forgetPlan_6 : decode cX9_forgetPlan 6 = .ok (.iconst (-1), 1) := by decide +kernel
theorem dX9_forgetPlan_7 : decode cX9_forgetPlan 7 = .ok (.putfield 42, 3) := by decide +kernel
theorem dX9_forgetPlan_10 : decode cX9_forgetPlan 10 = .ok (.return_, 1) := by decide +kernel
theorem dX9_forgetSwap_0 : decode cX9_forgetSwap 0 = .ok (.aload_n 0, 1) := by decide +kernel
theorem dX9_forgetSwap_1 : decode cX9_forgetSwap 1 = .ok (.iconst (-1), 1) := by decide +kernel
theorem dX9_forgetSwap_2 : decode cX9_forgetSwap 2 = .ok (.putfield 42, 3) := by decide +kernel
theorem dX9_forgetSwap_5 : decode cX9_forgetSwap 5 = .ok (.return_, 1) := by decide +kernel
theorem dX9_wayWalk_0 : decode cX9_wayWalk 0 = .ok (.iconst 0, 1) := by decide +kernel
theorem dX9_wayWalk_1 : decode cX9_wayWalk 1 = .ok (.istore 4, 2) := by decide +kernel
theorem dX9_wayWalk_3 : decode cX9_wayWalk 3 = .ok (.iconst (-1), 1) := by decide +kernel
theorem dX9_wayWalk_4 : decode cX9_wayWalk 4 = .ok (.istore 5, 2) := by decide +kernel
theorem dX9_wayWalk_6 : decode cX9_wayWalk 6 = .ok (.iconst 0, 1) := by decide +kernel
theorem dX9_wayWalk_7 : decode cX9_wayWalk 7 = .ok (.istore 6, 2) := by decide +kernel
theorem dX9_wayWalk_9 : decode cX9_wayWalk 9 = .ok (.iload 6, 2) := by decide +kernel
theorem dX9_wayWalk_11 : decode cX9_wayWalk 11 = .ok (.aload_n 0, 1) := by decide +kernel
theorem dX9_wayWalk_12 : decode cX9_wayWalk 12 = .ok (.getfield 63, 3) := by decide +kernel
theorem dX9_wayWalk_15 : decode cX9_wayWalk 15 = .ok (.iload_n 3, 1) := by decide +kernel
theorem dX9_wayWalk_16 : decode cX9_wayWalk 16 = .ok (.iload_n 2, 1) := by decide +kernel
theorem dX9_wayWalk_17 : decode cX9_wayWalk 17 = .ok (.invokevirtual 67, 3) := by decide +kernel
theorem dX9_wayWalk_20 : decode cX9_wayWalk 20 = .ok (.if_icmp .ge 40, 3) := by decide +kernel
theorem dX9_wayWalk_23 : decode cX9_wayWalk 23 = .ok (.aload_n 0, 1) := by decide +kernel
theorem dX9_wayWalk_24 : decode cX9_wayWalk 24 = .ok (.getfield 63, 3) := by decide +kernel
theorem dX9_wayWalk_27 : decode cX9_wayWalk 27 = .ok (.iload_n 3, 1) := by decide +kernel
theorem dX9_wayWalk_28 : decode cX9_wayWalk 28 = .ok (.iload_n 2, 1) := by decide +kernel
theorem dX9_wayWalk_29 : decode cX9_wayWalk 29 = .ok (.iload 6, 2) := by decide +kernel
theorem dX9_wayWalk_31 : decode cX9_wayWalk 31 = .ok (.invokevirtual 73, 3) := by decide +kernel
theorem dX9_wayWalk_34 : decode cX9_wayWalk 34 = .ok (.istore 7, 2) := by decide +kernel
theorem dX9_wayWalk_36 : decode cX9_wayWalk 36 = .ok (.iload 4, 2) := by decide +kernel
theorem dX9_wayWalk_38 : decode cX9_wayWalk 38 = .ok (.aload_n 1, 1) := by decide +kernel
theorem dX9_wayWalk_39 : decode cX9_wayWalk 39 = .ok (.iload_n 2, 1) := by decide +kernel
theorem dX9_wayWalk_40 : decode cX9_wayWalk 40 = .ok (.iload 5, 2) := by decide +kernel
theorem dX9_wayWalk_42 : decode cX9_wayWalk 42 = .ok (.iload 7, 2) := by decide +kernel
theorem dX9_wayWalk_44 : decode cX9_wayWalk 44 = .ok (.invokevirtual 77, 3) := by decide +kernel
theorem dX9_wayWalk_47 : decode cX9_wayWalk 47 = .ok (.iadd, 1) := by decide +kernel
theorem dX9_wayWalk_48 : decode cX9_wayWalk 48 = .ok (.istore 4, 2) := by decide +kernel
theorem dX9_wayWalk_50 : decode cX9_wayWalk 50 = .ok (.iload 7, 2) := by decide +kernel
theorem dX9_wayWalk_52 : decode cX9_wayWalk 52 = .ok (.istore 5, 2) := by decide +kernel
theorem dX9_wayWalk_54 : decode cX9_wayWalk 54 = .ok (.iinc 6 1, 3) := by decide +kernel
theorem dX9_wayWalk_57 : decode cX9_wayWalk 57 = .ok (.goto (-48), 3) := by decide +kernel
theorem dX9_wayWalk_60 : decode cX9_wayWalk 60 = .ok (.iload 4, 2) := by decide +kernel
theorem dX9_wayWalk_62 : decode cX9_wayWalk 62 = .ok (.aload_n 1, 1) := by decide +kernel
theorem dX9_wayWalk_63 : decode cX9_wayWalk 63 = .ok (.iload_n 2, 1) := by decide +kernel
theorem dX9_wayWalk_64 : decode cX9_wayWalk 64 = .ok (.iload 5, 2) := by decide +kernel
theorem dX9_wayWalk_66 : decode cX9_wayWalk 66 = .ok (.invokevirtual 82, 3) := by decide +kernel
theorem dX9_wayWalk_69 : decode cX9_wayWalk 69 = .ok (.iadd, 1) := by decide +kernel
theorem dX9_wayWalk_70 : decode cX9_wayWalk 70 = .ok (.ireturn, 1) := by decide +kernel
theorem dX9_findShortest_0 : decode cX9_findShortest 0 = .ok (.aload_n 0, 1) := by decide +kernel
theorem dX9_findShortest_1 : decode cX9_findShortest 1 = .ok (.aload_n 1, 1) := by decide +kernel
theorem dX9_findShortest_2 : decode cX9_findShortest 2 = .ok (.putfield 9, 3) := by decide +kernel
theorem dX9_findShortest_5 : decode cX9_findShortest 5 = .ok (.aload_n 0, 1) := by decide +kernel
theorem dX9_findShortest_6 : decode cX9_findShortest 6 = .ok (.iload_n 2, 1) := by decide +kernel
theorem dX9_findShortest_7 : decode cX9_findShortest 7 = .ok (.iload_n 3, 1) := by decide +kernel
theorem dX9_findShortest_8 : decode cX9_findShortest 8 = .ok (.invokevirtual 85, 3) := by decide +kernel
theorem dX9_findShortest_11 : decode cX9_findShortest 11 = .ok (.aload_n 0, 1) := by decide +kernel
theorem dX9_findShortest_12 : decode cX9_findShortest 12 = .ok (.getfield 22, 3) := by decide +kernel
theorem dX9_findShortest_15 : decode cX9_findShortest 15 = .ok (.ifCond .ne 5, 3) := by decide +kernel
theorem dX9_findShortest_18 : decode cX9_findShortest 18 = .ok (.iconst 0, 1) := by decide +kernel
theorem dX9_findShortest_19 : decode cX9_findShortest 19 = .ok (.ireturn, 1) := by decide +kernel
theorem dX9_findShortest_20 : decode cX9_findShortest 20 = .ok (.aload_n 0, 1) := by decide +kernel
theorem dX9_findShortest_21 : decode cX9_findShortest 21 = .ok (.getfield 15, 3) := by decide +kernel
theorem dX9_findShortest_24 : decode cX9_findShortest 24 = .ok (.ifnonnull 12, 3) := by decide +kernel
theorem dX9_findShortest_27 : decode cX9_findShortest 27 = .ok (.aload_n 0, 1) := by decide +kernel
theorem dX9_findShortest_28 : decode cX9_findShortest 28 = .ok (.sipush 896, 3) := by decide +kernel
theorem dX9_findShortest_31 : decode cX9_findShortest 31 = .ok (.newarray .int, 2) := by decide +kernel
theorem dX9_findShortest_33 : decode cX9_findShortest 33 = .ok (.putfield 15, 3) := by decide +kernel
theorem dX9_findShortest_36 : decode cX9_findShortest 36 = .ok (.iconst 1, 1) := by decide +kernel
theorem dX9_findShortest_37 : decode cX9_findShortest 37 = .ok (.aload_n 0, 1) := by decide +kernel
theorem dX9_findShortest_38 : decode cX9_findShortest 38 = .ok (.getfield 22, 3) := by decide +kernel
theorem dX9_findShortest_41 : decode cX9_findShortest 41 = .ok (.ishl, 1) := by decide +kernel
theorem dX9_findShortest_42 : decode cX9_findShortest 42 = .ok (.iconst 1, 1) := by decide +kernel
theorem dX9_findShortest_43 : decode cX9_findShortest 43 = .ok (.isub, 1) := by decide +kernel
theorem dX9_findShortest_44 : decode cX9_findShortest 44 = .ok (.istore 4, 2) := by decide +kernel
theorem dX9_findShortest_46 : decode cX9_findShortest 46 = .ok (.iload 4, 2) := by decide +kernel
theorem dX9_findShortest_48 : decode cX9_findShortest 48 = .ok (.ifCond .le 59, 3) := by decide +kernel
theorem dX9_findShortest_51 : decode cX9_findShortest 51 = .ok (.iconst 0, 1) := by decide +kernel
theorem dX9_findShortest_52 : decode cX9_findShortest 52 = .ok (.istore 5, 2) := by decide +kernel
theorem dX9_findShortest_54 : decode cX9_findShortest 54 = .ok (.iload 5, 2) := by decide +kernel
theorem dX9_findShortest_56 : decode cX9_findShortest 56 = .ok (.aload_n 0, 1) := by decide +kernel
theorem dX9_findShortest_57 : decode cX9_findShortest 57 = .ok (.getfield 22, 3) := by decide +kernel
theorem dX9_findShortest_60 : decode cX9_findShortest 60 = .ok (.if_icmp .ge 41, 3) := by decide +kernel
theorem dX9_findShortest_63 : decode cX9_findShortest 63 = .ok (.iload 4, 2) := by decide +kernel
theorem dX9_findShortest_65 : decode cX9_findShortest 65 = .ok (.iload 5, 2) := by decide +kernel
theorem dX9_findShortest_67 : decode cX9_findShortest 67 = .ok (.ishr, 1) := by decide +kernel
theorem dX9_findShortest_68 : decode cX9_findShortest 68 = .ok (.iconst 1, 1) := by decide +kernel
theorem dX9_findShortest_69 : decode cX9_findShortest 69 = .ok (.iand, 1) := by decide +kernel
theorem dX9_findShortest_70 : decode cX9_findShortest 70 = .ok (.ifCond .eq 25, 3) := by decide +kernel
theorem dX9_findShortest_73 : decode cX9_findShortest 73 = .ok (.aload_n 0, 1) := by decide +kernel
theorem dX9_findShortest_74 : decode cX9_findShortest 74 = .ok (.getfield 15, 3) := by decide +kernel
theorem dX9_findShortest_77 : decode cX9_findShortest 77 = .ok (.iload 4, 2) := by decide +kernel
theorem dX9_findShortest_79 : decode cX9_findShortest 79 = .ok (.bipush 7, 2) := by decide +kernel
theorem dX9_findShortest_81 : decode cX9_findShortest 81 = .ok (.imul, 1) := by decide +kernel
theorem dX9_findShortest_82 : decode cX9_findShortest 82 = .ok (.iload 5, 2) := by decide +kernel
theorem dX9_findShortest_84 : decode cX9_findShortest 84 = .ok (.iadd, 1) := by decide +kernel
theorem dX9_findShortest_85 : decode cX9_findShortest 85 = .ok (.aload_n 0, 1) := by decide +kernel
theorem dX9_findShortest_86 : decode cX9_findShortest 86 = .ok (.iload_n 2, 1) := by decide +kernel
theorem dX9_findShortest_87 : decode cX9_findShortest 87 = .ok (.iload 4, 2) := by decide +kernel
theorem dX9_findShortest_89 : decode cX9_findShortest 89 = .ok (.iload 5, 2) := by decide +kernel
theorem dX9_findShortest_91 : decode cX9_findShortest 91 = .ok (.invokevirtual 89, 3) := by decide +kernel
theorem dX9_findShortest_94 : decode cX9_findShortest 94 = .ok (.iastore, 1) := by decide +kernel
theorem dX9_findShortest_95 : decode cX9_findShortest 95 = .ok (.iinc 5 1, 3) := by decide +kernel
theorem dX9_findShortest_98 : decode cX9_findShortest 98 = .ok (.goto (-44), 3) := by decide +kernel
theorem dX9_findShortest_101 : decode cX9_findShortest 101 = .ok (.iinc 4 (-1), 3) := by decide +kernel
theorem dX9_findShortest_104 : decode cX9_findShortest 104 = .ok (.goto (-58), 3) := by decide +kernel
theorem dX9_findShortest_107 : decode cX9_findShortest 107 = .ok (.aload_n 0, 1) := by decide +kernel
theorem dX9_findShortest_108 : decode cX9_findShortest 108 = .ok (.iload_n 2, 1) := by decide +kernel
theorem dX9_findShortest_109 : decode cX9_findShortest 109 = .ok (.iconst 0, 1) := by decide +kernel
theorem dX9_findShortest_110 : decode cX9_findShortest 110 = .ok (.iconst (-1), 1) := by decide +kernel
theorem dX9_findShortest_111 : decode cX9_findShortest 111 = .ok (.invokevirtual 89, 3) := by decide +kernel
theorem dX9_findShortest_114 : decode cX9_findShortest 114 = .ok (.istore 4, 2) := by decide +kernel
theorem dX9_findShortest_116 : decode cX9_findShortest 116 = .ok (.aload_n 0, 1) := by decide +kernel
theorem dX9_findShortest_117 : decode cX9_findShortest 117 = .ok (.iload_n 2, 1) := by decide +kernel
theorem dX9_findShortest_118 : decode cX9_findShortest 118 = .ok (.iload 4, 2) := by decide +kernel
theorem dX9_findShortest_120 : decode cX9_findShortest 120 = .ok (.invokevirtual 92, 3) := by decide +kernel
theorem dX9_findShortest_123 : decode cX9_findShortest 123 = .ok (.iload 4, 2) := by decide +kernel
theorem dX9_findShortest_125 : decode cX9_findShortest 125 = .ok (.ireturn, 1) := by decide +kernel
theorem dX9_shortestHouse_0 : decode cX9_shortestHouse 0 = .ok (.iload_n 1, 1) := by decide +kernel
theorem dX9_shortestHouse_1 : decode cX9_shortestHouse 1 = .ok (.ifCond .lt 20, 3) := by decide +kernel
theorem dX9_shortestHouse_4 : decode cX9_shortestHouse 4 = .ok (.iload_n 1, 1) := by decide +kernel
theorem dX9_shortestHouse_5 : decode cX9_shortestHouse 5 = .ok (.aload_n 0, 1) := by decide +kernel
theorem dX9_shortestHouse_6 : decode cX9_shortestHouse 6 = .ok (.getfield 22, 3) := by decide +kernel
theorem dX9_shortestHouse_9 : decode cX9_shortestHouse 9 = .ok (.if_icmp .ge 12, 3) := by decide +kernel
theorem dX9_shortestHouse_12 : decode cX9_shortestHouse 12 = .ok (.aload_n 0, 1) := by decide +kernel
theorem dX9_shortestHouse_13 : decode cX9_shortestHouse 13 = .ok (.getfield 26, 3) := by decide +kernel
theorem dX9_shortestHouse_16 : decode cX9_shortestHouse 16 = .ok (.iload_n 1, 1) := by decide +kernel
theorem dX9_shortestHouse_17 : decode cX9_shortestHouse 17 = .ok (.iaload, 1) := by decide +kernel
theorem dX9_shortestHouse_18 : decode cX9_shortestHouse 18 = .ok (.goto 4, 3) := by decide +kernel
theorem dX9_shortestHouse_21 : decode cX9_shortestHouse 21 = .ok (.iconst (-1), 1) := by decide +kernel
theorem dX9_shortestHouse_22 : decode cX9_shortestHouse 22 = .ok (.ireturn, 1) := by decide +kernel
theorem dX9_gatherStops_0 : decode cX9_gatherStops 0 = .ok (.iconst 0, 1) := by decide +kernel
theorem dX9_gatherStops_1 : decode cX9_gatherStops 1 = .ok (.istore_n 3, 1) := by decide +kernel
theorem dX9_gatherStops_2 : decode cX9_gatherStops 2 = .ok (.iconst 0, 1) := by decide +kernel
theorem dX9_gatherStops_3 : decode cX9_gatherStops 3 = .ok (.istore 4, 2) := by decide +kernel
theorem dX9_gatherStops_5 : decode cX9_gatherStops 5 = .ok (.iload 4, 2) := by decide +kernel
theorem dX9_gatherStops_7 : decode cX9_gatherStops 7 = .ok (.aload_n 0, 1) := by decide +kernel
theorem dX9_gatherStops_8 : decode cX9_gatherStops 8 = .ok (.getfield 63, 3) := by decide +kernel
theorem dX9_gatherStops_11 : decode cX9_gatherStops 11 = .ok (.iload_n 2, 1) := by decide +kernel
theorem dX9_gatherStops_12 : decode cX9_gatherStops 12 = .ok (.iload_n 1, 1) := by decide +kernel
theorem dX9_gatherStops_13 : decode cX9_gatherStops 13 = .ok (.invokevirtual 67, 3) := by decide +kernel
theorem dX9_gatherStops_16 : decode cX9_gatherStops 16 = .ok (.if_icmp .ge 25, 3) := by decide +kernel
theorem dX9_gatherStops_19 : decode cX9_gatherStops 19 = .ok (.iload_n 3, 1) := by decide +kernel
theorem dX9_gatherStops_20 : decode cX9_gatherStops 20 = .ok (.iconst 1, 1) := by decide +kernel
theorem dX9_gatherStops_21 : decode cX9_gatherStops 21 = .ok (.aload_n 0, 1) := by decide +kernel
theorem dX9_gatherStops_22 : decode cX9_gatherStops 22 = .ok (.getfield 63, 3) := by decide +kernel
theorem dX9_gatherStops_25 : decode cX9_gatherStops 25 = .ok (.iload_n 2, 1) := by decide +kernel
theorem dX9_gatherStops_26 : decode cX9_gatherStops 26 = .ok (.iload_n 1, 1) := by decide +kernel
theorem dX9_gatherStops_27 : decode cX9_gatherStops 27 = .ok (.iload 4, 2) := by decide +kernel
theorem dX9_gatherStops_29 : decode cX9_gatherStops 29 = .ok (.invokevirtual 73, 3) := by decide +kernel
theorem dX9_gatherStops_32 : decode cX9_gatherStops 32 = .ok (.ishl, 1) := by decide +kernel
theorem dX9_gatherStops_33 : decode cX9_gatherStops 33 = .ok (.ior, 1) := by decide +kernel
theorem dX9_gatherStops_34 : decode cX9_gatherStops 34 = .ok (.istore_n 3, 1) := by decide +kernel
theorem dX9_gatherStops_35 : decode cX9_gatherStops 35 = .ok (.iinc 4 1, 3) := by decide +kernel
theorem dX9_gatherStops_38 : decode cX9_gatherStops 38 = .ok (.goto (-33), 3) := by decide +kernel
theorem dX9_gatherStops_41 : decode cX9_gatherStops 41 = .ok (.aload_n 0, 1) := by decide +kernel
theorem dX9_gatherStops_42 : decode cX9_gatherStops 42 = .ok (.iconst 0, 1) := by decide +kernel
theorem dX9_gatherStops_43 : decode cX9_gatherStops 43 = .ok (.putfield 22, 3) := by decide +kernel
theorem dX9_gatherStops_46 : decode cX9_gatherStops 46 = .ok (.iconst 0, 1) := by decide +kernel
theorem dX9_gatherStops_47 : decode cX9_gatherStops 47 = .ok (.istore 4, 2) := by decide +kernel
theorem dX9_gatherStops_49 : decode cX9_gatherStops 49 = .ok (.iload 4, 2) := by decide +kernel
theorem dX9_gatherStops_51 : decode cX9_gatherStops 51 = .ok (.bipush 10, 2) := by decide +kernel
theorem dX9_gatherStops_53 : decode cX9_gatherStops 53 = .ok (.if_icmp .ge 48, 3) := by decide +kernel
theorem dX9_gatherStops_56 : decode cX9_gatherStops 56 = .ok (.iload_n 3, 1) := by decide +kernel
theorem dX9_gatherStops_57 : decode cX9_gatherStops 57 = .ok (.iload 4, 2) := by decide +kernel
theorem dX9_gatherStops_59 : decode cX9_gatherStops 59 = .ok (.ishr, 1) := by decide +kernel
theorem dX9_gatherStops_60 : decode cX9_gatherStops 60 = .ok (.iconst 1, 1) := by decide +kernel
theorem dX9_gatherStops_61 : decode cX9_gatherStops 61 = .ok (.iand, 1) := by decide +kernel
theorem dX9_gatherStops_62 : decode cX9_gatherStops 62 = .ok (.ifCond .eq 33, 3) := by decide +kernel
theorem dX9_gatherStops_65 : decode cX9_gatherStops 65 = .ok (.aload_n 0, 1) := by decide +kernel
theorem dX9_gatherStops_66 : decode cX9_gatherStops 66 = .ok (.getfield 22, 3) := by decide +kernel
theorem dX9_gatherStops_69 : decode cX9_gatherStops 69 = .ok (.bipush 7, 2) := by decide +kernel
theorem dX9_gatherStops_71 : decode cX9_gatherStops 71 = .ok (.if_icmp .ge 24, 3) := by decide +kernel
theorem dX9_gatherStops_74 : decode cX9_gatherStops 74 = .ok (.aload_n 0, 1) := by decide +kernel
theorem dX9_gatherStops_75 : decode cX9_gatherStops 75 = .ok (.getfield 19, 3) := by decide +kernel
theorem dX9_gatherStops_78 : decode cX9_gatherStops 78 = .ok (.aload_n 0, 1) := by decide +kernel
theorem dX9_gatherStops_79 : decode cX9_gatherStops 79 = .ok (.getfield 22, 3) := by decide +kernel
theorem dX9_gatherStops_82 : decode cX9_gatherStops 82 = .ok (.iload 4, 2) := by decide +kernel
theorem dX9_gatherStops_84 : decode cX9_gatherStops 84 = .ok (.iastore, 1) := by decide +kernel
theorem dX9_gatherStops_85 : decode cX9_gatherStops 85 = .ok (.aload_n 0, 1) := by decide +kernel
theorem dX9_gatherStops_86 : decode cX9_gatherStops 86 = .ok (.dup, 1) := by decide +kernel
theorem dX9_gatherStops_87 : decode cX9_gatherStops 87 = .ok (.getfield 22, 3) := by decide +kernel
theorem dX9_gatherStops_90 : decode cX9_gatherStops 90 = .ok (.iconst 1, 1) := by decide +kernel
theorem dX9_gatherStops_91 : decode cX9_gatherStops 91 = .ok (.iadd, 1) := by decide +kernel
theorem dX9_gatherStops_92 : decode cX9_gatherStops 92 = .ok (.putfield 22, 3) := by decide +kernel
theorem dX9_gatherStops_95 : decode cX9_gatherStops 95 = .ok (.iinc 4 1, 3) := by decide +kernel
theorem dX9_gatherStops_98 : decode cX9_gatherStops 98 = .ok (.goto (-49), 3) := by decide +kernel
theorem dX9_gatherStops_101 : decode cX9_gatherStops 101 = .ok (.return_, 1) := by decide +kernel
theorem dX9_leastOnward_0 : decode cX9_leastOnward 0 = .ok (.ldc 97, 2) := by decide +kernel
theorem dX9_leastOnward_2 : decode cX9_leastOnward 2 = .ok (.istore 4, 2) := by decide +kernel
theorem dX9_leastOnward_4 : decode cX9_leastOnward 4 = .ok (.iconst 0, 1) := by decide +kernel
theorem dX9_leastOnward_5 : decode cX9_leastOnward 5 = .ok (.istore 5, 2) := by decide +kernel
theorem dX9_leastOnward_7 : decode cX9_leastOnward 7 = .ok (.iload 5, 2) := by decide +kernel
theorem dX9_leastOnward_9 : decode cX9_leastOnward 9 = .ok (.aload_n 0, 1) := by decide +kernel
theorem dX9_leastOnward_10 : decode cX9_leastOnward 10 = .ok (.getfield 22, 3) := by decide +kernel
theorem dX9_leastOnward_13 : decode cX9_leastOnward 13 = .ok (.if_icmp .ge 34, 3) := by decide +kernel
theorem dX9_leastOnward_16 : decode cX9_leastOnward 16 = .ok (.iload_n 2, 1) := by decide +kernel
theorem dX9_leastOnward_17 : decode cX9_leastOnward 17 = .ok (.iload 5, 2) := by decide +kernel
theorem dX9_leastOnward_19 : decode cX9_leastOnward 19 = .ok (.ishr, 1) := by decide +kernel
theorem dX9_leastOnward_20 : decode cX9_leastOnward 20 = .ok (.iconst 1, 1) := by decide +kernel
theorem dX9_leastOnward_21 : decode cX9_leastOnward 21 = .ok (.iand, 1) := by decide +kernel
theorem dX9_leastOnward_22 : decode cX9_leastOnward 22 = .ok (.ifCond .ne 19, 3) := by decide +kernel
theorem dX9_leastOnward_25 : decode cX9_leastOnward 25 = .ok (.iload 4, 2) := by decide +kernel
theorem dX9_leastOnward_27 : decode cX9_leastOnward 27 = .ok (.aload_n 0, 1) := by decide +kernel
theorem dX9_leastOnward_28 : decode cX9_leastOnward 28 = .ok (.iload_n 1, 1) := by decide +kernel
theorem dX9_leastOnward_29 : decode cX9_leastOnward 29 = .ok (.iload_n 2, 1) := by decide +kernel
theorem dX9_leastOnward_30 : decode cX9_leastOnward 30 = .ok (.iload_n 3, 1) := by decide +kernel
theorem dX9_leastOnward_31 : decode cX9_leastOnward 31 = .ok (.iload 5, 2) := by decide +kernel
theorem dX9_leastOnward_33 : decode cX9_leastOnward 33 = .ok (.invokevirtual 98, 3) := by decide +kernel
theorem dX9_leastOnward_36 : decode cX9_leastOnward 36 = .ok (.invokestatic 102, 3) := by decide +kernel
theorem dX9_leastOnward_39 : decode cX9_leastOnward 39 = .ok (.istore 4, 2) := by decide +kernel
theorem dX9_leastOnward_41 : decode cX9_leastOnward 41 = .ok (.iinc 5 1, 3) := by decide +kernel
theorem dX9_leastOnward_44 : decode cX9_leastOnward 44 = .ok (.goto (-37), 3) := by decide +kernel
theorem dX9_leastOnward_47 : decode cX9_leastOnward 47 = .ok (.iload 4, 2) := by decide +kernel
theorem dX9_leastOnward_49 : decode cX9_leastOnward 49 = .ok (.ldc 97, 2) := by decide +kernel
theorem dX9_leastOnward_51 : decode cX9_leastOnward 51 = .ok (.if_icmp .ne 29, 3) := by decide +kernel
theorem dX9_leastOnward_54 : decode cX9_leastOnward 54 = .ok (.aload_n 0, 1) := by decide +kernel
theorem dX9_leastOnward_55 : decode cX9_leastOnward 55 = .ok (.getfield 9, 3) := by decide +kernel
theorem dX9_leastOnward_58 : decode cX9_leastOnward 58 = .ok (.iload_n 1, 1) := by decide +kernel
theorem dX9_leastOnward_59 : decode cX9_leastOnward 59 = .ok (.iload_n 3, 1) := by decide +kernel
theorem dX9_leastOnward_60 : decode cX9_leastOnward 60 = .ok (.iconst (-1), 1) := by decide +kernel
theorem dX9_leastOnward_61 : decode cX9_leastOnward 61 = .ok (.if_icmp .ne 7, 3) := by decide +kernel
theorem dX9_leastOnward_64 : decode cX9_leastOnward 64 = .ok (.iconst (-1), 1) := by decide +kernel
theorem dX9_leastOnward_65 : decode cX9_leastOnward 65 = .ok (.goto 9, 3) := by decide +kernel
theorem dX9_leastOnward_68 : decode cX9_leastOnward 68 = .ok (.aload_n 0, 1) := by decide +kernel
theorem dX9_leastOnward_69 : decode cX9_leastOnward 69 = .ok (.getfield 19, 3) := by decide +kernel
theorem dX9_leastOnward_72 : decode cX9_leastOnward 72 = .ok (.iload_n 3, 1) := by decide +kernel
theorem dX9_leastOnward_73 : decode cX9_leastOnward 73 = .ok (.iaload, 1) := by decide +kernel
theorem dX9_leastOnward_74 : decode cX9_leastOnward 74 = .ok (.invokevirtual 82, 3) := by decide +kernel
theorem dX9_leastOnward_77 : decode cX9_leastOnward 77 = .ok (.goto 5, 3) := by decide +kernel
theorem dX9_leastOnward_80 : decode cX9_leastOnward 80 = .ok (.iload 4, 2) := by decide +kernel
theorem dX9_leastOnward_82 : decode cX9_leastOnward 82 = .ok (.ireturn, 1) := by decide +kernel
theorem dX9_walkBy_0 : decode cX9_walkBy 0 = .ok (.aload_n 0, 1) := by decide +kernel
theorem dX9_walkBy_1 : decode cX9_walkBy 1 = .ok (.getfield 9, 3) := by decide +kernel
theorem dX9_walkBy_4 : decode cX9_walkBy 4 = .ok (.iload_n 1, 1) := by decide +kernel
theorem dX9_walkBy_5 : decode cX9_walkBy 5 = .ok (.iload_n 3, 1) := by decide +kernel
theorem dX9_walkBy_6 : decode cX9_walkBy 6 = .ok (.iconst (-1), 1) := by decide +kernel
theorem dX9_walkBy_7 : decode cX9_walkBy 7 = .ok (.if_icmp .ne 7, 3) := by decide +kernel
theorem dX9_walkBy_10 : decode cX9_walkBy 10 = .ok (.iconst (-1), 1) := by decide +kernel
theorem dX9_walkBy_11 : decode cX9_walkBy 11 = .ok (.goto 9, 3) := by decide +kernel
theorem dX9_walkBy_14 : decode cX9_walkBy 14 = .ok (.aload_n 0, 1) := by decide +kernel
theorem dX9_walkBy_15 : decode cX9_walkBy 15 = .ok (.getfield 19, 3) := by decide +kernel
theorem dX9_walkBy_18 : decode cX9_walkBy 18 = .ok (.iload_n 3, 1) := by decide +kernel
theorem dX9_walkBy_19 : decode cX9_walkBy 19 = .ok (.iaload, 1) := by decide +kernel
theorem dX9_walkBy_20 : decode cX9_walkBy 20 = .ok (.aload_n 0, 1) := by decide +kernel
theorem dX9_walkBy_21 : decode cX9_walkBy 21 = .ok (.getfield 19, 3) := by decide +kernel
theorem dX9_walkBy_24 : decode cX9_walkBy 24 = .ok (.iload 4, 2) := by decide +kernel
theorem dX9_walkBy_26 : decode cX9_walkBy 26 = .ok (.iaload, 1) := by decide +kernel
theorem dX9_walkBy_27 : decode cX9_walkBy 27 = .ok (.invokevirtual 77, 3) := by decide +kernel
theorem dX9_walkBy_30 : decode cX9_walkBy 30 = .ok (.istore 5, 2) := by decide +kernel
theorem dX9_walkBy_32 : decode cX9_walkBy 32 = .ok (.iload 5, 2) := by decide +kernel
theorem dX9_walkBy_34 : decode cX9_walkBy 34 = .ok (.aload_n 0, 1) := by decide +kernel
theorem dX9_walkBy_35 : decode cX9_walkBy 35 = .ok (.getfield 15, 3) := by decide +kernel
theorem dX9_walkBy_38 : decode cX9_walkBy 38 = .ok (.iload_n 2, 1) := by decide +kernel
theorem dX9_walkBy_39 : decode cX9_walkBy 39 = .ok (.iconst 1, 1) := by decide +kernel
theorem dX9_walkBy_40 : decode cX9_walkBy 40 = .ok (.iload 4, 2) := by decide +kernel
theorem dX9_walkBy_42 : decode cX9_walkBy 42 = .ok (.ishl, 1) := by decide +kernel
theorem dX9_walkBy_43 : decode cX9_walkBy 43 = .ok (.ior, 1) := by decide +kernel
theorem dX9_walkBy_44 : decode cX9_walkBy 44 = .ok (.bipush 7, 2) := by decide +kernel
theorem dX9_walkBy_46 : decode cX9_walkBy 46 = .ok (.imul, 1) := by decide +kernel
theorem dX9_walkBy_47 : decode cX9_walkBy 47 = .ok (.iload 4, 2) := by decide +kernel
theorem dX9_walkBy_49 : decode cX9_walkBy 49 = .ok (.iadd, 1) := by decide +kernel
theorem dX9_walkBy_50 : decode cX9_walkBy 50 = .ok (.iaload, 1) := by decide +kernel
theorem dX9_walkBy_51 : decode cX9_walkBy 51 = .ok (.iadd, 1) := by decide +kernel
theorem dX9_walkBy_52 : decode cX9_walkBy 52 = .ok (.ireturn, 1) := by decide +kernel
theorem dX9_orderStops_0 : decode cX9_orderStops 0 = .ok (.iload_n 2, 1) := by decide +kernel
theorem dX9_orderStops_1 : decode cX9_orderStops 1 = .ok (.istore_n 3, 1) := by decide +kernel
theorem dX9_orderStops_2 : decode cX9_orderStops 2 = .ok (.iconst 0, 1) := by decide +kernel
theorem dX9_orderStops_3 : decode cX9_orderStops 3 = .ok (.istore 4, 2) := by decide +kernel
theorem dX9_orderStops_5 : decode cX9_orderStops 5 = .ok (.iconst (-1), 1) := by decide +kernel
theorem dX9_orderStops_6 : decode cX9_orderStops 6 = .ok (.istore 5, 2) := by decide +kernel
theorem dX9_orderStops_8 : decode cX9_orderStops 8 = .ok (.iconst 0, 1) := by decide +kernel
theorem dX9_orderStops_9 : decode cX9_orderStops 9 = .ok (.istore 6, 2) := by decide +kernel
theorem dX9_orderStops_11 : decode cX9_orderStops 11 = .ok (.iload 6, 2) := by decide +kernel
theorem dX9_orderStops_13 : decode cX9_orderStops 13 = .ok (.aload_n 0, 1) := by decide +kernel
theorem dX9_orderStops_14 : decode cX9_orderStops 14 = .ok (.getfield 22, 3) := by decide +kernel
theorem dX9_orderStops_17 : decode cX9_orderStops 17 = .ok (.if_icmp .ge 113, 3) := by decide +kernel
theorem dX9_orderStops_20 : decode cX9_orderStops 20 = .ok (.iconst (-1), 1) := by decide +kernel
theorem dX9_orderStops_21 : decode cX9_orderStops 21 = .ok (.istore 7, 2) := by decide +kernel
theorem dX9_orderStops_23 : decode cX9_orderStops 23 = .ok (.iconst 0, 1) := by decide +kernel
theorem dX9_orderStops_24 : decode cX9_orderStops 24 = .ok (.istore 8, 2) := by decide +kernel
theorem dX9_orderStops_26 : decode cX9_orderStops 26 = .ok (.iload 8, 2) := by decide +kernel
theorem dX9_orderStops_28 : decode cX9_orderStops 28 = .ok (.aload_n 0, 1) := by decide +kernel
theorem dX9_orderStops_29 : decode cX9_orderStops 29 = .ok (.getfield 22, 3) := by decide +kernel
theorem dX9_orderStops_32 : decode cX9_orderStops 32 = .ok (.if_icmp .ge 44, 3) := by decide +kernel
theorem dX9_orderStops_35 : decode cX9_orderStops 35 = .ok (.iload 7, 2) := by decide +kernel
theorem dX9_orderStops_37 : decode cX9_orderStops 37 = .ok (.iconst (-1), 1) := by decide +kernel
theorem dX9_orderStops_38 : decode cX9_orderStops 38 = .ok (.if_icmp .ne 38, 3) := by decide +kernel
theorem dX9_orderStops_41 : decode cX9_orderStops 41 = .ok (.iload 4, 2) := by decide +kernel
theorem dX9_orderStops_43 : decode cX9_orderStops 43 = .ok (.iload 8, 2) := by decide +kernel
theorem dX9_orderStops_45 : decode cX9_orderStops 45 = .ok (.ishr, 1) := by decide +kernel
theorem dX9_orderStops_46 : decode cX9_orderStops 46 = .ok (.iconst 1, 1) := by decide +kernel
theorem dX9_orderStops_47 : decode cX9_orderStops 47 = .ok (.iand, 1) := by decide +kernel
theorem dX9_orderStops_48 : decode cX9_orderStops 48 = .ok (.ifCond .ne 22, 3) := by decide +kernel
theorem dX9_orderStops_51 : decode cX9_orderStops 51 = .ok (.aload_n 0, 1) := by decide +kernel
theorem dX9_orderStops_52 : decode cX9_orderStops 52 = .ok (.iload_n 1, 1) := by decide +kernel
theorem dX9_orderStops_53 : decode cX9_orderStops 53 = .ok (.iload 4, 2) := by decide +kernel
theorem dX9_orderStops_55 : decode cX9_orderStops 55 = .ok (.iload 5, 2) := by decide +kernel
theorem dX9_orderStops_57 : decode cX9_orderStops 57 = .ok (.iload 8, 2) := by decide +kernel
theorem dX9_orderStops_59 : decode cX9_orderStops 59 = .ok (.invokevirtual 98, 3) := by decide +kernel
theorem dX9_orderStops_62 : decode cX9_orderStops 62 = .ok (.iload_n 3, 1) := by decide +kernel
theorem dX9_orderStops_63 : decode cX9_orderStops 63 = .ok (.if_icmp .ne 7, 3) := by decide +kernel
theorem dX9_orderStops_66 : decode cX9_orderStops 66 = .ok (.iload 8, 2) := by decide +kernel
theorem dX9_orderStops_68 : decode cX9_orderStops 68 = .ok (.istore 7, 2) := by decide +kernel
theorem dX9_orderStops_70 : decode cX9_orderStops 70 = .ok (.iinc 8 1, 3) := by decide +kernel
theorem dX9_orderStops_73 : decode cX9_orderStops 73 = .ok (.goto (-47), 3) := by decide +kernel
theorem dX9_orderStops_76 : decode cX9_orderStops 76 = .ok (.iload 7, 2) := by decide +kernel
theorem dX9_orderStops_78 : decode cX9_orderStops 78 = .ok (.iconst (-1), 1) := by decide +kernel
theorem dX9_orderStops_79 : decode cX9_orderStops 79 = .ok (.if_icmp .ne 4, 3) := by decide +kernel
theorem dX9_orderStops_82 : decode cX9_orderStops 82 = .ok (.return_, 1) := by decide +kernel
theorem dX9_orderStops_83 : decode cX9_orderStops 83 = .ok (.iload 4, 2) := by decide +kernel
theorem dX9_orderStops_85 : decode cX9_orderStops 85 = .ok (.iconst 1, 1) := by decide +kernel
theorem dX9_orderStops_86 : decode cX9_orderStops 86 = .ok (.iload 7, 2) := by decide +kernel
theorem dX9_orderStops_88 : decode cX9_orderStops 88 = .ok (.ishl, 1) := by decide +kernel
theorem dX9_orderStops_89 : decode cX9_orderStops 89 = .ok (.ior, 1) := by decide +kernel
theorem dX9_orderStops_90 : decode cX9_orderStops 90 = .ok (.istore 4, 2) := by decide +kernel
theorem dX9_orderStops_92 : decode cX9_orderStops 92 = .ok (.iload 7, 2) := by decide +kernel
theorem dX9_orderStops_94 : decode cX9_orderStops 94 = .ok (.istore 5, 2) := by decide +kernel
theorem dX9_orderStops_96 : decode cX9_orderStops 96 = .ok (.aload_n 0, 1) := by decide +kernel
theorem dX9_orderStops_97 : decode cX9_orderStops 97 = .ok (.getfield 26, 3) := by decide +kernel
theorem dX9_orderStops_100 : decode cX9_orderStops 100 = .ok (.iload 6, 2) := by decide +kernel
theorem dX9_orderStops_102 : decode cX9_orderStops 102 = .ok (.aload_n 0, 1) := by decide +kernel
theorem dX9_orderStops_103 : decode cX9_orderStops 103 = .ok (.getfield 19, 3) := by decide +kernel
theorem dX9_orderStops_106 : decode cX9_orderStops 106 = .ok (.iload 7, 2) := by decide +kernel
theorem dX9_orderStops_108 : decode cX9_orderStops 108 = .ok (.iaload, 1) := by decide +kernel
theorem dX9_orderStops_109 : decode cX9_orderStops 109 = .ok (.iastore, 1) := by decide +kernel
theorem dX9_orderStops_110 : decode cX9_orderStops 110 = .ok (.aload_n 0, 1) := by decide +kernel
theorem dX9_orderStops_111 : decode cX9_orderStops 111 = .ok (.getfield 15, 3) := by decide +kernel
theorem dX9_orderStops_114 : decode cX9_orderStops 114 = .ok (.iload 4, 2) := by decide +kernel
theorem dX9_orderStops_116 : decode cX9_orderStops 116 = .ok (.bipush 7, 2) := by decide +kernel
theorem dX9_orderStops_118 : decode cX9_orderStops 118 = .ok (.imul, 1) := by decide +kernel
theorem dX9_orderStops_119 : decode cX9_orderStops 119 = .ok (.iload 7, 2) := by decide +kernel
theorem dX9_orderStops_121 : decode cX9_orderStops 121 = .ok (.iadd, 1) := by decide +kernel
theorem dX9_orderStops_122 : decode cX9_orderStops 122 = .ok (.iaload, 1) := by decide +kernel
theorem dX9_orderStops_123 : decode cX9_orderStops 123 = .ok (.istore_n 3, 1) := by decide +kernel
theorem dX9_orderStops_124 : decode cX9_orderStops 124 = .ok (.iinc 6 1, 3) := by decide +kernel
theorem dX9_orderStops_127 : decode cX9_orderStops 127 = .ok (.goto (-116), 3) := by decide +kernel
theorem dX9_orderStops_130 : decode cX9_orderStops 130 = .ok (.return_, 1) := by decide +kernel
theorem dX9_tourOf_0 : decode cX9_tourOf 0 = .ok (.aload_n 0, 1) := by decide +kernel
theorem dX9_tourOf_1 : decode cX9_tourOf 1 = .ok (.aload_n 1, 1) := by decide +kernel
theorem dX9_tourOf_2 : decode cX9_tourOf 2 = .ok (.putfield 9, 3) := by decide +kernel
theorem dX9_tourOf_5 : decode cX9_tourOf 5 = .ok (.aload_n 0, 1) := by decide +kernel
theorem dX9_tourOf_6 : decode cX9_tourOf 6 = .ok (.invokevirtual 107, 3) := by decide +kernel
theorem dX9_tourOf_9 : decode cX9_tourOf 9 = .ok (.iconst 0, 1) := by decide +kernel
theorem dX9_tourOf_10 : decode cX9_tourOf 10 = .ok (.istore_n 3, 1) := by decide +kernel
theorem dX9_tourOf_11 : decode cX9_tourOf 11 = .ok (.iconst (-1), 1) := by decide +kernel
theorem dX9_tourOf_12 : decode cX9_tourOf 12 = .ok (.istore 4, 2) := by decide +kernel
theorem dX9_tourOf_14 : decode cX9_tourOf 14 = .ok (.iconst 0, 1) := by decide +kernel
theorem dX9_tourOf_15 : decode cX9_tourOf 15 = .ok (.istore 5, 2) := by decide +kernel
theorem dX9_tourOf_17 : decode cX9_tourOf 17 = .ok (.iload 5, 2) := by decide +kernel
theorem dX9_tourOf_19 : decode cX9_tourOf 19 = .ok (.aload_n 0, 1) := by decide +kernel
theorem dX9_tourOf_20 : decode cX9_tourOf 20 = .ok (.getfield 9, 3) := by decide +kernel
theorem dX9_tourOf_23 : decode cX9_tourOf 23 = .ok (.getfield 110, 3) := by decide +kernel
theorem dX9_tourOf_26 : decode cX9_tourOf 26 = .ok (.if_icmp .ge 57, 3) := by decide +kernel
theorem dX9_tourOf_29 : decode cX9_tourOf 29 = .ok (.aload_n 0, 1) := by decide +kernel
theorem dX9_tourOf_30 : decode cX9_tourOf 30 = .ok (.getfield 63, 3) := by decide +kernel
theorem dX9_tourOf_33 : decode cX9_tourOf 33 = .ok (.getfield 113, 3) := by decide +kernel
theorem dX9_tourOf_36 : decode cX9_tourOf 36 = .ok (.aload_n 0, 1) := by decide +kernel
theorem dX9_tourOf_37 : decode cX9_tourOf 37 = .ok (.getfield 29, 3) := by decide +kernel
theorem dX9_tourOf_40 : decode cX9_tourOf 40 = .ok (.iload 5, 2) := by decide +kernel
theorem dX9_tourOf_42 : decode cX9_tourOf 42 = .ok (.iaload, 1) := by decide +kernel
theorem dX9_tourOf_43 : decode cX9_tourOf 43 = .ok (.iaload, 1) := by decide +kernel
theorem dX9_tourOf_44 : decode cX9_tourOf 44 = .ok (.iload_n 2, 1) := by decide +kernel
theorem dX9_tourOf_45 : decode cX9_tourOf 45 = .ok (.if_icmp .ne 32, 3) := by decide +kernel
theorem dX9_tourOf_48 : decode cX9_tourOf 48 = .ok (.iload_n 3, 1) := by decide +kernel
theorem dX9_tourOf_49 : decode cX9_tourOf 49 = .ok (.aload_n 0, 1) := by decide +kernel
theorem dX9_tourOf_50 : decode cX9_tourOf 50 = .ok (.getfield 9, 3) := by decide +kernel
theorem dX9_tourOf_53 : decode cX9_tourOf 53 = .ok (.iload_n 2, 1) := by decide +kernel
theorem dX9_tourOf_54 : decode cX9_tourOf 54 = .ok (.iload 4, 2) := by decide +kernel
theorem dX9_tourOf_56 : decode cX9_tourOf 56 = .ok (.aload_n 0, 1) := by decide +kernel
theorem dX9_tourOf_57 : decode cX9_tourOf 57 = .ok (.getfield 29, 3) := by decide +kernel
theorem dX9_tourOf_60 : decode cX9_tourOf 60 = .ok (.iload 5, 2) := by decide +kernel
theorem dX9_tourOf_62 : decode cX9_tourOf 62 = .ok (.iaload, 1) := by decide +kernel
theorem dX9_tourOf_63 : decode cX9_tourOf 63 = .ok (.invokevirtual 77, 3) := by decide +kernel
theorem dX9_tourOf_66 : decode cX9_tourOf 66 = .ok (.iadd, 1) := by decide +kernel
theorem dX9_tourOf_67 : decode cX9_tourOf 67 = .ok (.istore_n 3, 1) := by decide +kernel
theorem dX9_tourOf_68 : decode cX9_tourOf 68 = .ok (.aload_n 0, 1) := by decide +kernel
theorem dX9_tourOf_69 : decode cX9_tourOf 69 = .ok (.getfield 29, 3) := by decide +kernel
theorem dX9_tourOf_72 : decode cX9_tourOf 72 = .ok (.iload 5, 2) := by decide +kernel
theorem dX9_tourOf_74 : decode cX9_tourOf 74 = .ok (.iaload, 1) := by decide +kernel
theorem dX9_tourOf_75 : decode cX9_tourOf 75 = .ok (.istore 4, 2) := by decide +kernel
theorem dX9_tourOf_77 : decode cX9_tourOf 77 = .ok (.iinc 5 1, 3) := by decide +kernel
theorem dX9_tourOf_80 : decode cX9_tourOf 80 = .ok (.goto (-63), 3) := by decide +kernel
theorem dX9_tourOf_83 : decode cX9_tourOf 83 = .ok (.iload_n 3, 1) := by decide +kernel
theorem dX9_tourOf_84 : decode cX9_tourOf 84 = .ok (.aload_n 0, 1) := by decide +kernel
theorem dX9_tourOf_85 : decode cX9_tourOf 85 = .ok (.getfield 9, 3) := by decide +kernel
theorem dX9_tourOf_88 : decode cX9_tourOf 88 = .ok (.iload_n 2, 1) := by decide +kernel
theorem dX9_tourOf_89 : decode cX9_tourOf 89 = .ok (.iload 4, 2) := by decide +kernel
theorem dX9_tourOf_91 : decode cX9_tourOf 91 = .ok (.invokevirtual 82, 3) := by decide +kernel
theorem dX9_tourOf_94 : decode cX9_tourOf 94 = .ok (.iadd, 1) := by decide +kernel
theorem dX9_tourOf_95 : decode cX9_tourOf 95 = .ok (.ireturn, 1) := by decide +kernel
theorem dX9_sortHouses_0 : decode cX9_sortHouses 0 = .ok (.iconst 0, 1) := by decide +kernel
theorem dX9_sortHouses_1 : decode cX9_sortHouses 1 = .ok (.istore_n 1, 1) := by decide +kernel
theorem dX9_sortHouses_2 : decode cX9_sortHouses 2 = .ok (.iload_n 1, 1) := by decide +kernel
theorem dX9_sortHouses_3 : decode cX9_sortHouses 3 = .ok (.aload_n 0, 1) := by decide +kernel
theorem dX9_sortHouses_4 : decode cX9_sortHouses 4 = .ok (.getfield 9, 3) := by decide +kernel
theorem dX9_sortHouses_7 : decode cX9_sortHouses 7 = .ok (.getfield 110, 3) := by decide +kernel
theorem dX9_sortHouses_10 : decode cX9_sortHouses 10 = .ok (.if_icmp .ge 64, 3) := by decide +kernel
theorem dX9_sortHouses_13 : decode cX9_sortHouses 13 = .ok (.iload_n 1, 1) := by decide +kernel
theorem dX9_sortHouses_14 : decode cX9_sortHouses 14 = .ok (.istore_n 2, 1) := by decide +kernel
theorem dX9_sortHouses_15 : decode cX9_sortHouses 15 = .ok (.iload_n 1, 1) := by decide +kernel
theorem dX9_sortHouses_16 : decode cX9_sortHouses 16 = .ok (.istore_n 3, 1) := by decide +kernel
theorem dX9_sortHouses_17 : decode cX9_sortHouses 17 = .ok (.iload_n 3, 1) := by decide +kernel
theorem dX9_sortHouses_18 : decode cX9_sortHouses 18 = .ok (.ifCond .le 43, 3) := by decide +kernel
theorem dX9_sortHouses_21 : decode cX9_sortHouses 21 = .ok (.aload_n 0, 1) := by decide +kernel
theorem dX9_sortHouses_22 : decode cX9_sortHouses 22 = .ok (.aload_n 0, 1) := by decide +kernel
theorem dX9_sortHouses_23 : decode cX9_sortHouses 23 = .ok (.getfield 29, 3) := by decide +kernel
theorem dX9_sortHouses_26 : decode cX9_sortHouses 26 = .ok (.iload_n 3, 1) := by decide +kernel
theorem dX9_sortHouses_27 : decode cX9_sortHouses 27 = .ok (.iconst 1, 1) := by decide +kernel
theorem dX9_sortHouses_28 : decode cX9_sortHouses 28 = .ok (.isub, 1) := by decide +kernel
theorem dX9_sortHouses_29 : decode cX9_sortHouses 29 = .ok (.iaload, 1) := by decide +kernel
theorem dX9_sortHouses_30 : decode cX9_sortHouses 30 = .ok (.iload_n 1, 1) := by decide +kernel
theorem dX9_sortHouses_31 : decode cX9_sortHouses 31 = .ok (.invokevirtual 116, 3) := by decide +kernel
theorem dX9_sortHouses_34 : decode cX9_sortHouses 34 = .ok (.ifCond .eq 27, 3) := by decide +kernel
theorem dX9_sortHouses_37 : decode cX9_sortHouses 37 = .ok (.aload_n 0, 1) := by decide +kernel
theorem dX9_sortHouses_38 : decode cX9_sortHouses 38 = .ok (.getfield 29, 3) := by decide +kernel
theorem dX9_sortHouses_41 : decode cX9_sortHouses 41 = .ok (.iload_n 3, 1) := by decide +kernel
theorem dX9_sortHouses_42 : decode cX9_sortHouses 42 = .ok (.aload_n 0, 1) := by decide +kernel
theorem dX9_sortHouses_43 : decode cX9_sortHouses 43 = .ok (.getfield 29, 3) := by decide +kernel
theorem dX9_sortHouses_46 : decode cX9_sortHouses 46 = .ok (.iload_n 3, 1) := by decide +kernel
theorem dX9_sortHouses_47 : decode cX9_sortHouses 47 = .ok (.iconst 1, 1) := by decide +kernel
theorem dX9_sortHouses_48 : decode cX9_sortHouses 48 = .ok (.isub, 1) := by decide +kernel
theorem dX9_sortHouses_49 : decode cX9_sortHouses 49 = .ok (.iaload, 1) := by decide +kernel
theorem dX9_sortHouses_50 : decode cX9_sortHouses 50 = .ok (.iastore, 1) := by decide +kernel
theorem dX9_sortHouses_51 : decode cX9_sortHouses 51 = .ok (.iload_n 3, 1) := by decide +kernel
theorem dX9_sortHouses_52 : decode cX9_sortHouses 52 = .ok (.iconst 1, 1) := by decide +kernel
theorem dX9_sortHouses_53 : decode cX9_sortHouses 53 = .ok (.isub, 1) := by decide +kernel
theorem dX9_sortHouses_54 : decode cX9_sortHouses 54 = .ok (.istore_n 2, 1) := by decide +kernel
theorem dX9_sortHouses_55 : decode cX9_sortHouses 55 = .ok (.iinc 3 (-1), 3) := by decide +kernel
theorem dX9_sortHouses_58 : decode cX9_sortHouses 58 = .ok (.goto (-41), 3) := by decide +kernel
theorem dX9_sortHouses_61 : decode cX9_sortHouses 61 = .ok (.aload_n 0, 1) := by decide +kernel
theorem dX9_sortHouses_62 : decode cX9_sortHouses 62 = .ok (.getfield 29, 3) := by decide +kernel
theorem dX9_sortHouses_65 : decode cX9_sortHouses 65 = .ok (.iload_n 2, 1) := by decide +kernel
theorem dX9_sortHouses_66 : decode cX9_sortHouses 66 = .ok (.iload_n 1, 1) := by decide +kernel
theorem dX9_sortHouses_67 : decode cX9_sortHouses 67 = .ok (.iastore, 1) := by decide +kernel
theorem dX9_sortHouses_68 : decode cX9_sortHouses 68 = .ok (.iinc 1 1, 3) := by decide +kernel
theorem dX9_sortHouses_71 : decode cX9_sortHouses 71 = .ok (.goto (-69), 3) := by decide +kernel
theorem dX9_sortHouses_74 : decode cX9_sortHouses 74 = .ok (.iconst 0, 1) := by decide +kernel
theorem dX9_sortHouses_75 : decode cX9_sortHouses 75 = .ok (.istore_n 1, 1) := by decide +kernel
theorem dX9_sortHouses_76 : decode cX9_sortHouses 76 = .ok (.iload_n 1, 1) := by decide +kernel
theorem dX9_sortHouses_77 : decode cX9_sortHouses 77 = .ok (.aload_n 0, 1) := by decide +kernel
theorem dX9_sortHouses_78 : decode cX9_sortHouses 78 = .ok (.getfield 9, 3) := by decide +kernel
theorem dX9_sortHouses_81 : decode cX9_sortHouses 81 = .ok (.getfield 110, 3) := by decide +kernel
theorem dX9_sortHouses_84 : decode cX9_sortHouses 84 = .ok (.if_icmp .ge 21, 3) := by decide +kernel
theorem dX9_sortHouses_87 : decode cX9_sortHouses 87 = .ok (.aload_n 0, 1) := by decide +kernel
theorem dX9_sortHouses_88 : decode cX9_sortHouses 88 = .ok (.getfield 32, 3) := by decide +kernel
theorem dX9_sortHouses_91 : decode cX9_sortHouses 91 = .ok (.aload_n 0, 1) := by decide +kernel
theorem dX9_sortHouses_92 : decode cX9_sortHouses 92 = .ok (.getfield 29, 3) := by decide +kernel
theorem dX9_sortHouses_95 : decode cX9_sortHouses 95 = .ok (.iload_n 1, 1) := by decide +kernel
theorem dX9_sortHouses_96 : decode cX9_sortHouses 96 = .ok (.iaload, 1) := by decide +kernel
theorem dX9_sortHouses_97 : decode cX9_sortHouses 97 = .ok (.iload_n 1, 1) := by decide +kernel
theorem dX9_sortHouses_98 : decode cX9_sortHouses 98 = .ok (.iastore, 1) := by decide +kernel
theorem dX9_sortHouses_99 : decode cX9_sortHouses 99 = .ok (.iinc 1 1, 3) := by decide +kernel
theorem dX9_sortHouses_102 : decode cX9_sortHouses 102 = .ok (.goto (-26), 3) := by decide +kernel
theorem dX9_sortHouses_105 : decode cX9_sortHouses 105 = .ok (.return_, 1) := by decide +kernel
theorem dX9_isBehind_0 : decode cX9_isBehind 0 = .ok (.aload_n 0, 1) := by decide +kernel
theorem dX9_isBehind_1 : decode cX9_isBehind 1 = .ok (.getfield 9, 3) := by decide +kernel
theorem dX9_isBehind_4 : decode cX9_isBehind 4 = .ok (.getfield 120, 3) := by decide +kernel
theorem dX9_isBehind_7 : decode cX9_isBehind 7 = .ok (.iload_n 1, 1) := by decide +kernel
theorem dX9_isBehind_8 : decode cX9_isBehind 8 = .ok (.aaload, 1) := by decide +kernel
theorem dX9_isBehind_9 : decode cX9_isBehind 9 = .ok (.astore_n 3, 1) := by decide +kernel
theorem dX9_isBehind_10 : decode cX9_isBehind 10 = .ok (.aload_n 0, 1) := by decide +kernel
theorem dX9_isBehind_11 : decode cX9_isBehind 11 = .ok (.getfield 9, 3) := by decide +kernel
theorem dX9_isBehind_14 : decode cX9_isBehind 14 = .ok (.getfield 120, 3) := by decide +kernel
theorem dX9_isBehind_17 : decode cX9_isBehind 17 = .ok (.iload_n 2, 1) := by decide +kernel
theorem dX9_isBehind_18 : decode cX9_isBehind 18 = .ok (.aaload, 1) := by decide +kernel
theorem dX9_isBehind_19 : decode cX9_isBehind 19 = .ok (.astore 4, 2) := by decide +kernel
theorem dX9_isBehind_21 : decode cX9_isBehind 21 = .ok (.aload_n 3, 1) := by decide +kernel
theorem dX9_isBehind_22 : decode cX9_isBehind 22 = .ok (.getfield 124, 3) := by decide +kernel
theorem dX9_isBehind_25 : decode cX9_isBehind 25 = .ok (.aload 4, 2) := by decide +kernel
theorem dX9_isBehind_27 : decode cX9_isBehind 27 = .ok (.getfield 124, 3) := by decide +kernel
theorem dX9_isBehind_30 : decode cX9_isBehind 30 = .ok (.if_icmp .eq 23, 3) := by decide +kernel
theorem dX9_isBehind_33 : decode cX9_isBehind 33 = .ok (.aload_n 3, 1) := by decide +kernel
theorem dX9_isBehind_34 : decode cX9_isBehind 34 = .ok (.getfield 124, 3) := by decide +kernel
theorem dX9_isBehind_37 : decode cX9_isBehind 37 = .ok (.aload 4, 2) := by decide +kernel
theorem dX9_isBehind_39 : decode cX9_isBehind 39 = .ok (.getfield 124, 3) := by decide +kernel
theorem dX9_isBehind_42 : decode cX9_isBehind 42 = .ok (.if_icmp .le 7, 3) := by decide +kernel
theorem dX9_isBehind_45 : decode cX9_isBehind 45 = .ok (.iconst 1, 1) := by decide +kernel
theorem dX9_isBehind_46 : decode cX9_isBehind 46 = .ok (.goto 24, 3) := by decide +kernel
theorem dX9_isBehind_49 : decode cX9_isBehind 49 = .ok (.iconst 0, 1) := by decide +kernel
theorem dX9_isBehind_50 : decode cX9_isBehind 50 = .ok (.goto 20, 3) := by decide +kernel
theorem dX9_isBehind_53 : decode cX9_isBehind 53 = .ok (.aload_n 3, 1) := by decide +kernel
theorem dX9_isBehind_54 : decode cX9_isBehind 54 = .ok (.getfield 129, 3) := by decide +kernel
theorem dX9_isBehind_57 : decode cX9_isBehind 57 = .ok (.aload 4, 2) := by decide +kernel
theorem dX9_isBehind_59 : decode cX9_isBehind 59 = .ok (.getfield 129, 3) := by decide +kernel
theorem dX9_isBehind_62 : decode cX9_isBehind 62 = .ok (.if_icmp .le 7, 3) := by decide +kernel
theorem dX9_isBehind_65 : decode cX9_isBehind 65 = .ok (.iconst 1, 1) := by decide +kernel
theorem dX9_isBehind_66 : decode cX9_isBehind 66 = .ok (.goto 4, 3) := by decide +kernel
theorem dX9_isBehind_69 : decode cX9_isBehind 69 = .ok (.iconst 0, 1) := by decide +kernel
theorem dX9_isBehind_70 : decode cX9_isBehind 70 = .ok (.ireturn, 1) := by decide +kernel
theorem dX9_findSwap_0 : decode cX9_findSwap 0 = .ok (.aload_n 0, 1) := by decide +kernel
theorem dX9_findSwap_1 : decode cX9_findSwap 1 = .ok (.aload_n 1, 1) := by decide +kernel
theorem dX9_findSwap_2 : decode cX9_findSwap 2 = .ok (.putfield 9, 3) := by decide +kernel
theorem dX9_findSwap_5 : decode cX9_findSwap 5 = .ok (.aload_n 0, 1) := by decide +kernel
theorem dX9_findSwap_6 : decode cX9_findSwap 6 = .ok (.getfield 42, 3) := by decide +kernel
theorem dX9_findSwap_9 : decode cX9_findSwap 9 = .ok (.iload_n 2, 1) := by decide +kernel
theorem dX9_findSwap_10 : decode cX9_findSwap 10 = .ok (.if_icmp .ne 8, 3) := by decide +kernel
theorem dX9_findSwap_13 : decode cX9_findSwap 13 = .ok (.aload_n 0, 1) := by decide +kernel
theorem dX9_findSwap_14 : decode cX9_findSwap 14 = .ok (.getfield 45, 3) := by decide +kernel
theorem dX9_findSwap_17 : decode cX9_findSwap 17 = .ok (.ireturn, 1) := by decide +kernel
theorem dX9_findSwap_18 : decode cX9_findSwap 18 = .ok (.aload_n 0, 1) := by decide +kernel
theorem dX9_findSwap_19 : decode cX9_findSwap 19 = .ok (.iload_n 2, 1) := by decide +kernel
theorem dX9_findSwap_20 : decode cX9_findSwap 20 = .ok (.putfield 42, 3) := by decide +kernel
theorem dX9_findSwap_23 : decode cX9_findSwap 23 = .ok (.aload_n 0, 1) := by decide +kernel
theorem dX9_findSwap_24 : decode cX9_findSwap 24 = .ok (.invokevirtual 132, 3) := by decide +kernel
theorem dX9_findSwap_27 : decode cX9_findSwap 27 = .ok (.iconst 0, 1) := by decide +kernel
theorem dX9_findSwap_28 : decode cX9_findSwap 28 = .ok (.istore_n 3, 1) := by decide +kernel
theorem dX9_findSwap_29 : decode cX9_findSwap 29 = .ok (.iconst 0, 1) := by decide +kernel
theorem dX9_findSwap_30 : decode cX9_findSwap 30 = .ok (.istore 4, 2) := by decide +kernel
theorem dX9_findSwap_32 : decode cX9_findSwap 32 = .ok (.iload 4, 2) := by decide +kernel
theorem dX9_findSwap_34 : decode cX9_findSwap 34 = .ok (.aload_n 0, 1) := by decide +kernel
theorem dX9_findSwap_35 : decode cX9_findSwap 35 = .ok (.getfield 9, 3) := by decide +kernel
theorem dX9_findSwap_38 : decode cX9_findSwap 38 = .ok (.getfield 135, 3) := by decide +kernel
theorem dX9_findSwap_41 : decode cX9_findSwap 41 = .ok (.if_icmp .ge 52, 3) := by decide +kernel
theorem dX9_findSwap_44 : decode cX9_findSwap 44 = .ok (.aload_n 0, 1) := by decide +kernel
theorem dX9_findSwap_45 : decode cX9_findSwap 45 = .ok (.getfield 57, 3) := by decide +kernel
theorem dX9_findSwap_48 : decode cX9_findSwap 48 = .ok (.iload 4, 2) := by decide +kernel
theorem dX9_findSwap_50 : decode cX9_findSwap 50 = .ok (.aload_n 0, 1) := by decide +kernel
theorem dX9_findSwap_51 : decode cX9_findSwap 51 = .ok (.getfield 63, 3) := by decide +kernel
theorem dX9_findSwap_54 : decode cX9_findSwap 54 = .ok (.aload_n 0, 1) := by decide +kernel
theorem dX9_findSwap_55 : decode cX9_findSwap 55 = .ok (.getfield 9, 3) := by decide +kernel
theorem dX9_findSwap_58 : decode cX9_findSwap 58 = .ok (.iload 4, 2) := by decide +kernel
theorem dX9_findSwap_60 : decode cX9_findSwap 60 = .ok (.invokevirtual 138, 3) := by decide +kernel
theorem dX9_findSwap_63 : decode cX9_findSwap 63 = .ok (.iload_n 2, 1) := by decide +kernel
theorem dX9_findSwap_64 : decode cX9_findSwap 64 = .ok (.isub, 1) := by decide +kernel
theorem dX9_findSwap_65 : decode cX9_findSwap 65 = .ok (.iastore, 1) := by decide +kernel
theorem dX9_findSwap_66 : decode cX9_findSwap 66 = .ok (.aload_n 0, 1) := by decide +kernel
theorem dX9_findSwap_67 : decode cX9_findSwap 67 = .ok (.getfield 60, 3) := by decide +kernel
theorem dX9_findSwap_70 : decode cX9_findSwap 70 = .ok (.iload 4, 2) := by decide +kernel
theorem dX9_findSwap_72 : decode cX9_findSwap 72 = .ok (.iconst 0, 1) := by decide +kernel
theorem dX9_findSwap_73 : decode cX9_findSwap 73 = .ok (.iastore, 1) := by decide +kernel
theorem dX9_findSwap_74 : decode cX9_findSwap 74 = .ok (.iload_n 3, 1) := by decide +kernel
theorem dX9_findSwap_75 : decode cX9_findSwap 75 = .ok (.aload_n 0, 1) := by decide +kernel
theorem dX9_findSwap_76 : decode cX9_findSwap 76 = .ok (.aload_n 0, 1) := by decide +kernel
theorem dX9_findSwap_77 : decode cX9_findSwap 77 = .ok (.getfield 9, 3) := by decide +kernel
theorem dX9_findSwap_80 : decode cX9_findSwap 80 = .ok (.iload 4, 2) := by decide +kernel
theorem dX9_findSwap_82 : decode cX9_findSwap 82 = .ok (.invokevirtual 142, 3) := by decide +kernel
theorem dX9_findSwap_85 : decode cX9_findSwap 85 = .ok (.iadd, 1) := by decide +kernel
theorem dX9_findSwap_86 : decode cX9_findSwap 86 = .ok (.istore_n 3, 1) := by decide +kernel
theorem dX9_findSwap_87 : decode cX9_findSwap 87 = .ok (.iinc 4 1, 3) := by decide +kernel
theorem dX9_findSwap_90 : decode cX9_findSwap 90 = .ok (.goto (-58), 3) := by decide +kernel
theorem dX9_findSwap_93 : decode cX9_findSwap 93 = .ok (.aload_n 0, 1) := by decide +kernel
theorem dX9_findSwap_94 : decode cX9_findSwap 94 = .ok (.getfield 54, 3) := by decide +kernel
theorem dX9_findSwap_97 : decode cX9_findSwap 97 = .ok (.aload_n 0, 1) := by decide +kernel
theorem dX9_findSwap_98 : decode cX9_findSwap 98 = .ok (.getfield 9, 3) := by decide +kernel
theorem dX9_findSwap_101 : decode cX9_findSwap 101 = .ok (.getfield 110, 3) := by decide +kernel
theorem dX9_findSwap_104 : decode cX9_findSwap 104 = .ok (.iconst 0, 1) := by decide +kernel
theorem dX9_findSwap_105 : decode cX9_findSwap 105 = .ok (.iastore, 1) := by decide +kernel
theorem dX9_findSwap_106 : decode cX9_findSwap 106 = .ok (.aload_n 0, 1) := by decide +kernel
theorem dX9_findSwap_107 : decode cX9_findSwap 107 = .ok (.getfield 9, 3) := by decide +kernel
theorem dX9_findSwap_110 : decode cX9_findSwap 110 = .ok (.getfield 110, 3) := by decide +kernel
theorem dX9_findSwap_113 : decode cX9_findSwap 113 = .ok (.iconst 1, 1) := by decide +kernel
theorem dX9_findSwap_114 : decode cX9_findSwap 114 = .ok (.isub, 1) := by decide +kernel
theorem dX9_findSwap_115 : decode cX9_findSwap 115 = .ok (.istore 4, 2) := by decide +kernel
theorem dX9_findSwap_117 : decode cX9_findSwap 117 = .ok (.iload 4, 2) := by decide +kernel
theorem dX9_findSwap_119 : decode cX9_findSwap 119 = .ok (.ifCond .lt 39, 3) := by decide +kernel
theorem dX9_findSwap_122 : decode cX9_findSwap 122 = .ok (.aload_n 0, 1) := by decide +kernel
theorem dX9_findSwap_123 : decode cX9_findSwap 123 = .ok (.getfield 54, 3) := by decide +kernel
theorem dX9_findSwap_126 : decode cX9_findSwap 126 = .ok (.iload 4, 2) := by decide +kernel
theorem dX9_findSwap_128 : decode cX9_findSwap 128 = .ok (.aload_n 0, 1) := by decide +kernel
theorem dX9_findSwap_129 : decode cX9_findSwap 129 = .ok (.getfield 54, 3) := by decide +kernel
theorem dX9_findSwap_132 : decode cX9_findSwap 132 = .ok (.iload 4, 2) := by decide +kernel
theorem dX9_findSwap_134 : decode cX9_findSwap 134 = .ok (.iconst 1, 1) := by decide +kernel
theorem dX9_findSwap_135 : decode cX9_findSwap 135 = .ok (.iadd, 1) := by decide +kernel
theorem dX9_findSwap_136 : decode cX9_findSwap 136 = .ok (.iaload, 1) := by decide +kernel
theorem dX9_findSwap_137 : decode cX9_findSwap 137 = .ok (.aload_n 0, 1) := by decide +kernel
theorem dX9_findSwap_138 : decode cX9_findSwap 138 = .ok (.getfield 9, 3) := by decide +kernel
theorem dX9_findSwap_141 : decode cX9_findSwap 141 = .ok (.getfield 120, 3) := by decide +kernel
theorem dX9_findSwap_144 : decode cX9_findSwap 144 = .ok (.iload 4, 2) := by decide +kernel
theorem dX9_findSwap_146 : decode cX9_findSwap 146 = .ok (.aaload, 1) := by decide +kernel
theorem dX9_findSwap_147 : decode cX9_findSwap 147 = .ok (.invokevirtual 145, 3) := by decide +kernel
theorem dX9_findSwap_150 : decode cX9_findSwap 150 = .ok (.iadd, 1) := by decide +kernel
theorem dX9_findSwap_151 : decode cX9_findSwap 151 = .ok (.iastore, 1) := by decide +kernel
theorem dX9_findSwap_152 : decode cX9_findSwap 152 = .ok (.iinc 4 (-1), 3) := by decide +kernel
theorem dX9_findSwap_155 : decode cX9_findSwap 155 = .ok (.goto (-38), 3) := by decide +kernel
theorem dX9_findSwap_158 : decode cX9_findSwap 158 = .ok (.aload_n 0, 1) := by decide +kernel
theorem dX9_findSwap_159 : decode cX9_findSwap 159 = .ok (.iload_n 3, 1) := by decide +kernel
theorem dX9_findSwap_160 : decode cX9_findSwap 160 = .ok (.iconst 1, 1) := by decide +kernel
theorem dX9_findSwap_161 : decode cX9_findSwap 161 = .ok (.iadd, 1) := by decide +kernel
theorem dX9_findSwap_162 : decode cX9_findSwap 162 = .ok (.putfield 45, 3) := by decide +kernel
theorem dX9_findSwap_165 : decode cX9_findSwap 165 = .ok (.aload_n 0, 1) := by decide +kernel
theorem dX9_findSwap_166 : decode cX9_findSwap 166 = .ok (.iconst 0, 1) := by decide +kernel
theorem dX9_findSwap_167 : decode cX9_findSwap 167 = .ok (.iconst 0, 1) := by decide +kernel
theorem dX9_findSwap_168 : decode cX9_findSwap 168 = .ok (.invokevirtual 149, 3) := by decide +kernel
theorem dX9_findSwap_171 : decode cX9_findSwap 171 = .ok (.aload_n 0, 1) := by decide +kernel
theorem dX9_findSwap_172 : decode cX9_findSwap 172 = .ok (.getfield 45, 3) := by decide +kernel
theorem dX9_findSwap_175 : decode cX9_findSwap 175 = .ok (.ireturn, 1) := by decide +kernel
theorem dX9_swapMan_0 : decode cX9_swapMan 0 = .ok (.iload_n 1, 1) := by decide +kernel
theorem dX9_swapMan_1 : decode cX9_swapMan 1 = .ok (.ifCond .lt 18, 3) := by decide +kernel
theorem dX9_swapMan_4 : decode cX9_swapMan 4 = .ok (.iload_n 1, 1) := by decide +kernel
theorem dX9_swapMan_5 : decode cX9_swapMan 5 = .ok (.bipush 10, 2) := by decide +kernel
theorem dX9_swapMan_7 : decode cX9_swapMan 7 = .ok (.if_icmp .ge 12, 3) := by decide +kernel
theorem dX9_swapMan_10 : decode cX9_swapMan 10 = .ok (.aload_n 0, 1) := by decide +kernel
theorem dX9_swapMan_11 : decode cX9_swapMan 11 = .ok (.getfield 48, 3) := by decide +kernel
theorem dX9_swapMan_14 : decode cX9_swapMan 14 = .ok (.iload_n 1, 1) := by decide +kernel
theorem dX9_swapMan_15 : decode cX9_swapMan 15 = .ok (.iaload, 1) := by decide +kernel
theorem dX9_swapMan_16 : decode cX9_swapMan 16 = .ok (.goto 4, 3) := by decide +kernel
theorem dX9_swapMan_19 : decode cX9_swapMan 19 = .ok (.iconst (-1), 1) := by decide +kernel
theorem dX9_swapMan_20 : decode cX9_swapMan 20 = .ok (.ireturn, 1) := by decide +kernel
theorem dX9_prepareTours_0 : decode cX9_prepareTours 0 = .ok (.aload_n 0, 1) := by decide +kernel
theorem dX9_prepareTours_1 : decode cX9_prepareTours 1 = .ok (.getfield 35, 3) := by decide +kernel
theorem dX9_prepareTours_4 : decode cX9_prepareTours 4 = .ok (.ifCond .eq 4, 3) := by decide +kernel
theorem dX9_prepareTours_7 : decode cX9_prepareTours 7 = .ok (.return_, 1) := by decide +kernel
theorem dX9_prepareTours_8 : decode cX9_prepareTours 8 = .ok (.aload_n 0, 1) := by decide +kernel
theorem dX9_prepareTours_9 : decode cX9_prepareTours 9 = .ok (.iconst 1, 1) := by decide +kernel
theorem dX9_prepareTours_10 : decode cX9_prepareTours 10 = .ok (.putfield 35, 3) := by decide +kernel
theorem dX9_prepareTours_13 : decode cX9_prepareTours 13 = .ok (.aload_n 0, 1) := by decide +kernel
theorem dX9_prepareTours_14 : decode cX9_prepareTours 14 = .ok (.invokevirtual 107, 3) := by decide +kernel
theorem dX9_prepareTours_17 : decode cX9_prepareTours 17 = .ok (.aload_n 0, 1) := by decide +kernel
theorem dX9_prepareTours_18 : decode cX9_prepareTours 18 = .ok (.getfield 39, 3) := by decide +kernel
theorem dX9_prepareTours_21 : decode cX9_prepareTours 21 = .ok (.ifnonnull 12, 3) := by decide +kernel
theorem dX9_prepareTours_24 : decode cX9_prepareTours 24 = .ok (.aload_n 0, 1) := by decide +kernel
theorem dX9_prepareTours_25 : decode cX9_prepareTours 25 = .ok (.sipush 3072, 3) := by decide +kernel
theorem dX9_prepareTours_28 : decode cX9_prepareTours 28 = .ok (.newarray .int, 2) := by decide +kernel
theorem dX9_prepareTours_30 : decode cX9_prepareTours 30 = .ok (.putfield 39, 3) := by decide +kernel
theorem dX9_prepareTours_33 : decode cX9_prepareTours 33 = .ok (.iconst 0, 1) := by decide +kernel
theorem dX9_prepareTours_34 : decode cX9_prepareTours 34 = .ok (.istore_n 1, 1) := by decide +kernel
theorem dX9_prepareTours_35 : decode cX9_prepareTours 35 = .ok (.iload_n 1, 1) := by decide +kernel
theorem dX9_prepareTours_36 : decode cX9_prepareTours 36 = .ok (.aload_n 0, 1) := by decide +kernel
theorem dX9_prepareTours_37 : decode cX9_prepareTours 37 = .ok (.getfield 9, 3) := by decide +kernel
theorem dX9_prepareTours_40 : decode cX9_prepareTours 40 = .ok (.getfield 135, 3) := by decide +kernel
theorem dX9_prepareTours_43 : decode cX9_prepareTours 43 = .ok (.if_icmp .ge 44, 3) := by decide +kernel
theorem dX9_prepareTours_46 : decode cX9_prepareTours 46 = .ok (.aload_n 0, 1) := by decide +kernel
theorem dX9_prepareTours_47 : decode cX9_prepareTours 47 = .ok (.getfield 39, 3) := by decide +kernel
theorem dX9_prepareTours_50 : decode cX9_prepareTours 50 = .ok (.iload_n 1, 1) := by decide +kernel
theorem dX9_prepareTours_51 : decode cX9_prepareTours 51 = .ok (.bipush 10, 2) := by decide +kernel
theorem dX9_prepareTours_53 : decode cX9_prepareTours 53 = .ok (.ishl, 1) := by decide +kernel
theorem dX9_prepareTours_54 : decode cX9_prepareTours 54 = .ok (.iconst 0, 1) := by decide +kernel
theorem dX9_prepareTours_55 : decode cX9_prepareTours 55 = .ok (.iastore, 1) := by decide +kernel
theorem dX9_prepareTours_56 : decode cX9_prepareTours 56 = .ok (.iconst 0, 1) := by decide +kernel
theorem dX9_prepareTours_57 : decode cX9_prepareTours 57 = .ok (.istore_n 2, 1) := by decide +kernel
theorem dX9_prepareTours_58 : decode cX9_prepareTours 58 = .ok (.iload_n 2, 1) := by decide +kernel
theorem dX9_prepareTours_59 : decode cX9_prepareTours 59 = .ok (.aload_n 0, 1) := by decide +kernel
theorem dX9_prepareTours_60 : decode cX9_prepareTours 60 = .ok (.getfield 9, 3) := by decide +kernel
theorem dX9_prepareTours_63 : decode cX9_prepareTours 63 = .ok (.getfield 110, 3) := by decide +kernel
theorem dX9_prepareTours_66 : decode cX9_prepareTours 66 = .ok (.if_icmp .ge 15, 3) := by decide +kernel
theorem dX9_prepareTours_69 : decode cX9_prepareTours 69 = .ok (.aload_n 0, 1) := by decide +kernel
theorem dX9_prepareTours_70 : decode cX9_prepareTours 70 = .ok (.iload_n 1, 1) := by decide +kernel
theorem dX9_prepareTours_71 : decode cX9_prepareTours 71 = .ok (.iload_n 2, 1) := by decide +kernel
theorem dX9_prepareTours_72 : decode cX9_prepareTours 72 = .ok (.invokevirtual 152, 3) := by decide +kernel
theorem dX9_prepareTours_75 : decode cX9_prepareTours 75 = .ok (.iinc 2 1, 3) := by decide +kernel
theorem dX9_prepareTours_78 : decode cX9_prepareTours 78 = .ok (.goto (-20), 3) := by decide +kernel
theorem dX9_prepareTours_81 : decode cX9_prepareTours 81 = .ok (.iinc 1 1, 3) := by decide +kernel
theorem dX9_prepareTours_84 : decode cX9_prepareTours 84 = .ok (.goto (-49), 3) := by decide +kernel
theorem dX9_prepareTours_87 : decode cX9_prepareTours 87 = .ok (.return_, 1) := by decide +kernel
theorem dX9_prepareToursEndingAt_0 : decode cX9_prepareToursEndingAt 0 = .ok (.iload_n 1, 1) := by decide +kernel
theorem dX9_prepareToursEndingAt_1 : decode cX9_prepareToursEndingAt 1 = .ok (.bipush 10, 2) := by decide +kernel
theorem dX9_prepareToursEndingAt_3 : decode cX9_prepareToursEndingAt 3 = .ok (.ishl, 1) := by decide +kernel
theorem dX9_prepareToursEndingAt_4 : decode cX9_prepareToursEndingAt 4 = .ok (.istore_n 3, 1) := by decide +kernel
theorem dX9_prepareToursEndingAt_5 : decode cX9_prepareToursEndingAt 5 = .ok (.aload_n 0, 1) := by decide +kernel
theorem dX9_prepareToursEndingAt_6 : decode cX9_prepareToursEndingAt 6 = .ok (.getfield 29, 3) := by decide +kernel
theorem dX9_prepareToursEndingAt_9 : decode cX9_prepareToursEndingAt 9 = .ok (.iload_n 2, 1) := by decide +kernel
theorem dX9_prepareToursEndingAt_10 : decode cX9_prepareToursEndingAt 10 = .ok (.iaload, 1) := by decide +kernel
theorem dX9_prepareToursEndingAt_11 : decode cX9_prepareToursEndingAt 11 = .ok (.istore 4, 2) := by decide +kernel
theorem dX9_prepareToursEndingAt_13 : decode cX9_prepareToursEndingAt 13 = .ok (.iconst (-1), 1) := by decide +kernel
theorem dX9_prepareToursEndingAt_14 : decode cX9_prepareToursEndingAt 14 = .ok (.istore 5, 2) := by decide +kernel
theorem dX9_prepareToursEndingAt_16 : decode cX9_prepareToursEndingAt 16 = .ok (.iconst 0, 1) := by decide +kernel
theorem dX9_prepareToursEndingAt_17 : decode cX9_prepareToursEndingAt 17 = .ok (.istore 6, 2) := by decide +kernel
theorem dX9_prepareToursEndingAt_19 : decode cX9_prepareToursEndingAt 19 = .ok (.iload 6, 2) := by decide +kernel
theorem dX9_prepareToursEndingAt_21 : decode cX9_prepareToursEndingAt 21 = .ok (.iconst 1, 1) := by decide +kernel
theorem dX9_prepareToursEndingAt_22 : decode cX9_prepareToursEndingAt 22 = .ok (.iload_n 2, 1) := by decide +kernel
theorem dX9_prepareToursEndingAt_23 : decode cX9_prepareToursEndingAt 23 = .ok (.ishl, 1) := by decide +kernel
theorem dX9_prepareToursEndingAt_24 : decode cX9_prepareToursEndingAt 24 = .ok (.if_icmp .ge 99, 3) := by decide +kernel
theorem dX9_prepareToursEndingAt_27 : decode cX9_prepareToursEndingAt 27 = .ok (.iload 6, 2) := by decide +kernel
theorem dX9_prepareToursEndingAt_29 : decode cX9_prepareToursEndingAt 29 = .ok (.iconst 1, 1) := by decide +kernel
theorem dX9_prepareToursEndingAt_30 : decode cX9_prepareToursEndingAt 30 = .ok (.iload 5, 2) := by decide +kernel
theorem dX9_prepareToursEndingAt_32 : decode cX9_prepareToursEndingAt 32 = .ok (.iconst 1, 1) := by decide +kernel
theorem dX9_prepareToursEndingAt_33 : decode cX9_prepareToursEndingAt 33 = .ok (.iadd, 1) := by decide +kernel
theorem dX9_prepareToursEndingAt_34 : decode cX9_prepareToursEndingAt 34 = .ok (.ishl, 1) := by decide +kernel
theorem dX9_prepareToursEndingAt_35 : decode cX9_prepareToursEndingAt 35 = .ok (.if_icmp .ne 6, 3) := by decide +kernel
theorem dX9_prepareToursEndingAt_38 : decode cX9_prepareToursEndingAt 38 = .ok (.iinc 5 1, 3) := by decide +kernel
theorem dX9_prepareToursEndingAt_41 : decode cX9_prepareToursEndingAt 41 = .ok (.iload 5, 2) := by decide +kernel
theorem dX9_prepareToursEndingAt_43 : decode cX9_prepareToursEndingAt 43 = .ok (.iconst (-1), 1) := by decide +kernel
theorem dX9_prepareToursEndingAt_44 : decode cX9_prepareToursEndingAt 44 = .ok (.if_icmp .ne 7, 3) := by decide +kernel
theorem dX9_prepareToursEndingAt_47 : decode cX9_prepareToursEndingAt 47 = .ok (.iconst (-1), 1) := by decide +kernel
theorem dX9_prepareToursEndingAt_48 : decode cX9_prepareToursEndingAt 48 = .ok (.goto 10, 3) := by decide +kernel
theorem dX9_prepareToursEndingAt_51 : decode cX9_prepareToursEndingAt 51 = .ok (.aload_n 0, 1) := by decide +kernel
theorem dX9_prepareToursEndingAt_52 : decode cX9_prepareToursEndingAt 52 = .ok (.getfield 29, 3) := by decide +kernel
theorem dX9_prepareToursEndingAt_55 : decode cX9_prepareToursEndingAt 55 = .ok (.iload 5, 2) := by decide +kernel
theorem dX9_prepareToursEndingAt_57 : decode cX9_prepareToursEndingAt 57 = .ok (.iaload, 1) := by decide +kernel
theorem dX9_prepareToursEndingAt_58 : decode cX9_prepareToursEndingAt 58 = .ok (.istore 7, 2) := by decide +kernel
theorem dX9_prepareToursEndingAt_60 : decode cX9_prepareToursEndingAt 60 = .ok (.aload_n 0, 1) := by decide +kernel
theorem dX9_prepareToursEndingAt_61 : decode cX9_prepareToursEndingAt 61 = .ok (.getfield 39, 3) := by decide +kernel
theorem dX9_prepareToursEndingAt_64 : decode cX9_prepareToursEndingAt 64 = .ok (.iload_n 3, 1) := by decide +kernel
theorem dX9_prepareToursEndingAt_65 : decode cX9_prepareToursEndingAt 65 = .ok (.iload 6, 2) := by decide +kernel
theorem dX9_prepareToursEndingAt_67 : decode cX9_prepareToursEndingAt 67 = .ok (.iconst 1, 1) := by decide +kernel
theorem dX9_prepareToursEndingAt_68 : decode cX9_prepareToursEndingAt 68 = .ok (.iload_n 2, 1) := by decide +kernel
theorem dX9_prepareToursEndingAt_69 : decode cX9_prepareToursEndingAt 69 = .ok (.ishl, 1) := by decide +kernel
theorem dX9_prepareToursEndingAt_70 : decode cX9_prepareToursEndingAt 70 = .ok (.ior, 1) := by decide +kernel
theorem dX9_prepareToursEndingAt_71 : decode cX9_prepareToursEndingAt 71 = .ok (.iadd, 1) := by decide +kernel
theorem dX9_prepareToursEndingAt_72 : decode cX9_prepareToursEndingAt 72 = .ok (.aload_n 0, 1) := by decide +kernel
theorem dX9_prepareToursEndingAt_73 : decode cX9_prepareToursEndingAt 73 = .ok (.getfield 39, 3) := by decide +kernel
theorem dX9_prepareToursEndingAt_76 : decode cX9_prepareToursEndingAt 76 = .ok (.iload_n 3, 1) := by decide +kernel
theorem dX9_prepareToursEndingAt_77 : decode cX9_prepareToursEndingAt 77 = .ok (.iload 6, 2) := by decide +kernel
theorem dX9_prepareToursEndingAt_79 : decode cX9_prepareToursEndingAt 79 = .ok (.iadd, 1) := by decide +kernel
theorem dX9_prepareToursEndingAt_80 : decode cX9_prepareToursEndingAt 80 = .ok (.iaload, 1) := by decide +kernel
theorem dX9_prepareToursEndingAt_81 : decode cX9_prepareToursEndingAt 81 = .ok (.aload_n 0, 1) := by decide +kernel
theorem dX9_prepareToursEndingAt_82 : decode cX9_prepareToursEndingAt 82 = .ok (.getfield 9, 3) := by decide +kernel
theorem dX9_prepareToursEndingAt_85 : decode cX9_prepareToursEndingAt 85 = .ok (.iload_n 1, 1) := by decide +kernel
theorem dX9_prepareToursEndingAt_86 : decode cX9_prepareToursEndingAt 86 = .ok (.iload 7, 2) := by decide +kernel
theorem dX9_prepareToursEndingAt_88 : decode cX9_prepareToursEndingAt 88 = .ok (.invokevirtual 82, 3) := by decide +kernel
theorem dX9_prepareToursEndingAt_91 : decode cX9_prepareToursEndingAt 91 = .ok (.isub, 1) := by decide +kernel
theorem dX9_prepareToursEndingAt_92 : decode cX9_prepareToursEndingAt 92 = .ok (.aload_n 0, 1) := by decide +kernel
theorem dX9_prepareToursEndingAt_93 : decode cX9_prepareToursEndingAt 93 = .ok (.getfield 9, 3) := by decide +kernel
theorem dX9_prepareToursEndingAt_96 : decode cX9_prepareToursEndingAt 96 = .ok (.iload_n 1, 1) := by decide +kernel
theorem dX9_prepareToursEndingAt_97 : decode cX9_prepareToursEndingAt 97 = .ok (.iload 7, 2) := by decide +kernel
theorem dX9_prepareToursEndingAt_99 : decode cX9_prepareToursEndingAt 99 = .ok (.iload 4, 2) := by decide +kernel
theorem dX9_prepareToursEndingAt_101 : decode cX9_prepareToursEndingAt 101 = .ok (.invokevirtual 77, 3) := by decide +kernel
theorem dX9_prepareToursEndingAt_104 : decode cX9_prepareToursEndingAt 104 = .ok (.iadd, 1) := by decide +kernel
theorem dX9_prepareToursEndingAt_105 : decode cX9_prepareToursEndingAt 105 = .ok (.aload_n 0, 1) := by decide +kernel
theorem dX9_prepareToursEndingAt_106 : decode cX9_prepareToursEndingAt 106 = .ok (.getfield 9, 3) := by decide +kernel
theorem dX9_prepareToursEndingAt_109 : decode cX9_prepareToursEndingAt 109 = .ok (.iload_n 1, 1) := by decide +kernel
theorem dX9_prepareToursEndingAt_110 : decode cX9_prepareToursEndingAt 110 = .ok (.iload 4, 2) := by decide +kernel
theorem dX9_prepareToursEndingAt_112 : decode cX9_prepareToursEndingAt 112 = .ok (.invokevirtual 82, 3) := by decide +kernel
theorem dX9_prepareToursEndingAt_115 : decode cX9_prepareToursEndingAt 115 = .ok (.iadd, 1) := by decide +kernel
theorem dX9_prepareToursEndingAt_116 : decode cX9_prepareToursEndingAt 116 = .ok (.iastore, 1) := by decide +kernel
theorem dX9_prepareToursEndingAt_117 : decode cX9_prepareToursEndingAt 117 = .ok (.iinc 6 1, 3) := by decide +kernel
theorem dX9_prepareToursEndingAt_120 : decode cX9_prepareToursEndingAt 120 = .ok (.goto (-101), 3) := by decide +kernel
theorem dX9_prepareToursEndingAt_123 : decode cX9_prepareToursEndingAt 123 = .ok (.return_, 1) := by decide +kernel
theorem dX9_giveAway_0 : decode cX9_giveAway 0 = .ok (.iload_n 1, 1) := by decide +kernel
theorem dX9_giveAway_1 : decode cX9_giveAway 1 = .ok (.aload_n 0, 1) := by decide +kernel
theorem dX9_giveAway_2 : decode cX9_giveAway 2 = .ok (.getfield 9, 3) := by decide +kernel
theorem dX9_giveAway_5 : decode cX9_giveAway 5 = .ok (.getfield 110, 3) := by decide +kernel
theorem dX9_giveAway_8 : decode cX9_giveAway 8 = .ok (.if_icmp .lt 40, 3) := by decide +kernel
theorem dX9_giveAway_11 : decode cX9_giveAway 11 = .ok (.aload_n 0, 1) := by decide +kernel
theorem dX9_giveAway_12 : decode cX9_giveAway 12 = .ok (.iload_n 2, 1) := by decide +kernel
theorem dX9_giveAway_13 : decode cX9_giveAway 13 = .ok (.putfield 45, 3) := by decide +kernel
theorem dX9_giveAway_16 : decode cX9_giveAway 16 = .ok (.iconst 0, 1) := by decide +kernel
theorem dX9_giveAway_17 : decode cX9_giveAway 17 = .ok (.istore_n 3, 1) := by decide +kernel
theorem dX9_giveAway_18 : decode cX9_giveAway 18 = .ok (.iload_n 3, 1) := by decide +kernel
theorem dX9_giveAway_19 : decode cX9_giveAway 19 = .ok (.aload_n 0, 1) := by decide +kernel
theorem dX9_giveAway_20 : decode cX9_giveAway 20 = .ok (.getfield 9, 3) := by decide +kernel
theorem dX9_giveAway_23 : decode cX9_giveAway 23 = .ok (.getfield 110, 3) := by decide +kernel
theorem dX9_giveAway_26 : decode cX9_giveAway 26 = .ok (.if_icmp .ge 21, 3) := by decide +kernel
theorem dX9_giveAway_29 : decode cX9_giveAway 29 = .ok (.aload_n 0, 1) := by decide +kernel
theorem dX9_giveAway_30 : decode cX9_giveAway 30 = .ok (.getfield 48, 3) := by decide +kernel
theorem dX9_giveAway_33 : decode cX9_giveAway 33 = .ok (.iload_n 3, 1) := by decide +kernel
theorem dX9_giveAway_34 : decode cX9_giveAway 34 = .ok (.aload_n 0, 1) := by decide +kernel
theorem dX9_giveAway_35 : decode cX9_giveAway 35 = .ok (.getfield 51, 3) := by decide +kernel
theorem dX9_giveAway_38 : decode cX9_giveAway 38 = .ok (.iload_n 3, 1) := by decide +kernel
theorem dX9_giveAway_39 : decode cX9_giveAway 39 = .ok (.iaload, 1) := by decide +kernel
theorem dX9_giveAway_40 : decode cX9_giveAway 40 = .ok (.iastore, 1) := by decide +kernel
theorem dX9_giveAway_41 : decode cX9_giveAway 41 = .ok (.iinc 3 1, 3) := by decide +kernel
theorem dX9_giveAway_44 : decode cX9_giveAway 44 = .ok (.goto (-26), 3) := by decide +kernel
theorem dX9_giveAway_47 : decode cX9_giveAway 47 = .ok (.return_, 1) := by decide +kernel
theorem dX9_giveAway_48 : decode cX9_giveAway 48 = .ok (.aload_n 0, 1) := by decide +kernel
theorem dX9_giveAway_49 : decode cX9_giveAway 49 = .ok (.getfield 9, 3) := by decide +kernel
theorem dX9_giveAway_52 : decode cX9_giveAway 52 = .ok (.getfield 120, 3) := by decide +kernel
theorem dX9_giveAway_55 : decode cX9_giveAway 55 = .ok (.iload_n 1, 1) := by decide +kernel
theorem dX9_giveAway_56 : decode cX9_giveAway 56 = .ok (.aaload, 1) := by decide +kernel
theorem dX9_giveAway_57 : decode cX9_giveAway 57 = .ok (.invokevirtual 145, 3) := by decide +kernel
theorem dX9_giveAway_60 : decode cX9_giveAway 60 = .ok (.istore_n 3, 1) := by decide +kernel
theorem dX9_giveAway_61 : decode cX9_giveAway 61 = .ok (.iconst 1, 1) := by decide +kernel
theorem dX9_giveAway_62 : decode cX9_giveAway 62 = .ok (.aload_n 0, 1) := by decide +kernel
theorem dX9_giveAway_63 : decode cX9_giveAway 63 = .ok (.getfield 32, 3) := by decide +kernel
theorem dX9_giveAway_66 : decode cX9_giveAway 66 = .ok (.iload_n 1, 1) := by decide +kernel
theorem dX9_giveAway_67 : decode cX9_giveAway 67 = .ok (.iaload, 1) := by decide +kernel
theorem dX9_giveAway_68 : decode cX9_giveAway 68 = .ok (.ishl, 1) := by decide +kernel
theorem dX9_giveAway_69 : decode cX9_giveAway 69 = .ok (.istore 4, 2) := by decide +kernel
theorem dX9_giveAway_71 : decode cX9_giveAway 71 = .ok (.iconst 0, 1) := by decide +kernel
theorem dX9_giveAway_72 : decode cX9_giveAway 72 = .ok (.istore 5, 2) := by decide +kernel
theorem dX9_giveAway_74 : decode cX9_giveAway 74 = .ok (.iload 5, 2) := by decide +kernel
theorem dX9_giveAway_76 : decode cX9_giveAway 76 = .ok (.aload_n 0, 1) := by decide +kernel
theorem dX9_giveAway_77 : decode cX9_giveAway 77 = .ok (.getfield 9, 3) := by decide +kernel
theorem dX9_giveAway_80 : decode cX9_giveAway 80 = .ok (.getfield 135, 3) := by decide +kernel
theorem dX9_giveAway_83 : decode cX9_giveAway 83 = .ok (.if_icmp .ge 143, 3) := by decide +kernel
theorem dX9_giveAway_86 : decode cX9_giveAway 86 = .ok (.iload 5, 2) := by decide +kernel
theorem dX9_giveAway_88 : decode cX9_giveAway 88 = .ok (.bipush 10, 2) := by decide +kernel
theorem dX9_giveAway_90 : decode cX9_giveAway 90 = .ok (.ishl, 1) := by decide +kernel
theorem dX9_giveAway_91 : decode cX9_giveAway 91 = .ok (.istore 6, 2) := by decide +kernel
theorem dX9_giveAway_93 : decode cX9_giveAway 93 = .ok (.iload_n 2, 1) := by decide +kernel
theorem dX9_giveAway_94 : decode cX9_giveAway 94 = .ok (.aload_n 0, 1) := by decide +kernel
theorem dX9_giveAway_95 : decode cX9_giveAway 95 = .ok (.getfield 39, 3) := by decide +kernel
theorem dX9_giveAway_98 : decode cX9_giveAway 98 = .ok (.iload 6, 2) := by decide +kernel
theorem dX9_giveAway_100 : decode cX9_giveAway 100 = .ok (.aload_n 0, 1) := by decide +kernel
theorem dX9_giveAway_101 : decode cX9_giveAway 101 = .ok (.getfield 60, 3) := by decide +kernel
theorem dX9_giveAway_104 : decode cX9_giveAway 104 = .ok (.iload 5, 2) := by decide +kernel
theorem dX9_giveAway_106 : decode cX9_giveAway 106 = .ok (.iaload, 1) := by decide +kernel
theorem dX9_giveAway_107 : decode cX9_giveAway 107 = .ok (.iadd, 1) := by decide +kernel
theorem dX9_giveAway_108 : decode cX9_giveAway 108 = .ok (.iaload, 1) := by decide +kernel
theorem dX9_giveAway_109 : decode cX9_giveAway 109 = .ok (.isub, 1) := by decide +kernel
theorem dX9_giveAway_110 : decode cX9_giveAway 110 = .ok (.aload_n 0, 1) := by decide +kernel
theorem dX9_giveAway_111 : decode cX9_giveAway 111 = .ok (.getfield 39, 3) := by decide +kernel
theorem dX9_giveAway_114 : decode cX9_giveAway 114 = .ok (.iload 6, 2) := by decide +kernel
theorem dX9_giveAway_116 : decode cX9_giveAway 116 = .ok (.aload_n 0, 1) := by decide +kernel
theorem dX9_giveAway_117 : decode cX9_giveAway 117 = .ok (.getfield 60, 3) := by decide +kernel
theorem dX9_giveAway_120 : decode cX9_giveAway 120 = .ok (.iload 5, 2) := by decide +kernel
theorem dX9_giveAway_122 : decode cX9_giveAway 122 = .ok (.iaload, 1) := by decide +kernel
theorem dX9_giveAway_123 : decode cX9_giveAway 123 = .ok (.iload 4, 2) := by decide +kernel
theorem dX9_giveAway_125 : decode cX9_giveAway 125 = .ok (.ior, 1) := by decide +kernel
theorem dX9_giveAway_126 : decode cX9_giveAway 126 = .ok (.iadd, 1) := by decide +kernel
theorem dX9_giveAway_127 : decode cX9_giveAway 127 = .ok (.iaload, 1) := by decide +kernel
theorem dX9_giveAway_128 : decode cX9_giveAway 128 = .ok (.iadd, 1) := by decide +kernel
theorem dX9_giveAway_129 : decode cX9_giveAway 129 = .ok (.istore 7, 2) := by decide +kernel
theorem dX9_giveAway_131 : decode cX9_giveAway 131 = .ok (.aload_n 0, 1) := by decide +kernel
theorem dX9_giveAway_132 : decode cX9_giveAway 132 = .ok (.getfield 57, 3) := by decide +kernel
theorem dX9_giveAway_135 : decode cX9_giveAway 135 = .ok (.iload 5, 2) := by decide +kernel
theorem dX9_giveAway_137 : decode cX9_giveAway 137 = .ok (.dup2, 1) := by decide +kernel
theorem dX9_giveAway_138 : decode cX9_giveAway 138 = .ok (.iaload, 1) := by decide +kernel
theorem dX9_giveAway_139 : decode cX9_giveAway 139 = .ok (.iload_n 3, 1) := by decide +kernel
theorem dX9_giveAway_140 : decode cX9_giveAway 140 = .ok (.isub, 1) := by decide +kernel
theorem dX9_giveAway_141 : decode cX9_giveAway 141 = .ok (.iastore, 1) := by decide +kernel
theorem dX9_giveAway_142 : decode cX9_giveAway 142 = .ok (.iload 7, 2) := by decide +kernel
theorem dX9_giveAway_144 : decode cX9_giveAway 144 = .ok (.aload_n 0, 1) := by decide +kernel
theorem dX9_giveAway_145 : decode cX9_giveAway 145 = .ok (.getfield 45, 3) := by decide +kernel
theorem dX9_giveAway_148 : decode cX9_giveAway 148 = .ok (.if_icmp .ge 61, 3) := by decide +kernel
theorem dX9_giveAway_151 : decode cX9_giveAway 151 = .ok (.aload_n 0, 1) := by decide +kernel
theorem dX9_giveAway_152 : decode cX9_giveAway 152 = .ok (.invokevirtual 155, 3) := by decide +kernel
theorem dX9_giveAway_155 : decode cX9_giveAway 155 = .ok (.aload_n 0, 1) := by decide +kernel
theorem dX9_giveAway_156 : decode cX9_giveAway 156 = .ok (.getfield 54, 3) := by decide +kernel
theorem dX9_giveAway_159 : decode cX9_giveAway 159 = .ok (.iload_n 1, 1) := by decide +kernel
theorem dX9_giveAway_160 : decode cX9_giveAway 160 = .ok (.iconst 1, 1) := by decide +kernel
theorem dX9_giveAway_161 : decode cX9_giveAway 161 = .ok (.iadd, 1) := by decide +kernel
theorem dX9_giveAway_162 : decode cX9_giveAway 162 = .ok (.iaload, 1) := by decide +kernel
theorem dX9_giveAway_163 : decode cX9_giveAway 163 = .ok (.if_icmp .gt 46, 3) := by decide +kernel
theorem dX9_giveAway_166 : decode cX9_giveAway 166 = .ok (.aload_n 0, 1) := by decide +kernel
theorem dX9_giveAway_167 : decode cX9_giveAway 167 = .ok (.getfield 60, 3) := by decide +kernel
theorem dX9_giveAway_170 : decode cX9_giveAway 170 = .ok (.iload 5, 2) := by decide +kernel
theorem dX9_giveAway_172 : decode cX9_giveAway 172 = .ok (.dup2, 1) := by decide +kernel
theorem dX9_giveAway_173 : decode cX9_giveAway 173 = .ok (.iaload, 1) := by decide +kernel
theorem dX9_giveAway_174 : decode cX9_giveAway 174 = .ok (.iload 4, 2) := by decide +kernel
theorem dX9_giveAway_176 : decode cX9_giveAway 176 = .ok (.ior, 1) := by decide +kernel
theorem dX9_giveAway_177 : decode cX9_giveAway 177 = .ok (.iastore, 1) := by decide +kernel
theorem dX9_giveAway_178 : decode cX9_giveAway 178 = .ok (.aload_n 0, 1) := by decide +kernel
theorem dX9_giveAway_179 : decode cX9_giveAway 179 = .ok (.getfield 51, 3) := by decide +kernel
theorem dX9_giveAway_182 : decode cX9_giveAway 182 = .ok (.iload_n 1, 1) := by decide +kernel
theorem dX9_giveAway_183 : decode cX9_giveAway 183 = .ok (.iload 5, 2) := by decide +kernel
theorem dX9_giveAway_185 : decode cX9_giveAway 185 = .ok (.iastore, 1) := by decide +kernel
theorem dX9_giveAway_186 : decode cX9_giveAway 186 = .ok (.aload_n 0, 1) := by decide +kernel
theorem dX9_giveAway_187 : decode cX9_giveAway 187 = .ok (.iload_n 1, 1) := by decide +kernel
theorem dX9_giveAway_188 : decode cX9_giveAway 188 = .ok (.iconst 1, 1) := by decide +kernel
theorem dX9_giveAway_189 : decode cX9_giveAway 189 = .ok (.iadd, 1) := by decide +kernel
theorem dX9_giveAway_190 : decode cX9_giveAway 190 = .ok (.iload 7, 2) := by decide +kernel
theorem dX9_giveAway_192 : decode cX9_giveAway 192 = .ok (.invokevirtual 149, 3) := by decide +kernel
theorem dX9_giveAway_195 : decode cX9_giveAway 195 = .ok (.aload_n 0, 1) := by decide +kernel
theorem dX9_giveAway_196 : decode cX9_giveAway 196 = .ok (.getfield 60, 3) := by decide +kernel
theorem dX9_giveAway_199 : decode cX9_giveAway 199 = .ok (.iload 5, 2) := by decide +kernel
theorem dX9_giveAway_201 : decode cX9_giveAway 201 = .ok (.dup2, 1) := by decide +kernel
theorem dX9_giveAway_202 : decode cX9_giveAway 202 = .ok (.iaload, 1) := by decide +kernel
theorem dX9_giveAway_203 : decode cX9_giveAway 203 = .ok (.iload 4, 2) := by decide +kernel
theorem dX9_giveAway_205 : decode cX9_giveAway 205 = .ok (.iconst (-1), 1) := by decide +kernel
theorem dX9_giveAway_206 : decode cX9_giveAway 206 = .ok (.ixor, 1) := by decide +kernel
theorem dX9_giveAway_207 : decode cX9_giveAway 207 = .ok (.iand, 1) := by decide +kernel
theorem dX9_giveAway_208 : decode cX9_giveAway 208 = .ok (.iastore, 1) := by decide +kernel
theorem dX9_giveAway_209 : decode cX9_giveAway 209 = .ok (.aload_n 0, 1) := by decide +kernel
theorem dX9_giveAway_210 : decode cX9_giveAway 210 = .ok (.getfield 57, 3) := by decide +kernel
theorem dX9_giveAway_213 : decode cX9_giveAway 213 = .ok (.iload 5, 2) := by decide +kernel
theorem dX9_giveAway_215 : decode cX9_giveAway 215 = .ok (.dup2, 1) := by decide +kernel
theorem dX9_giveAway_216 : decode cX9_giveAway 216 = .ok (.iaload, 1) := by decide +kernel
theorem dX9_giveAway_217 : decode cX9_giveAway 217 = .ok (.iload_n 3, 1) := by decide +kernel
theorem dX9_giveAway_218 : decode cX9_giveAway 218 = .ok (.iadd, 1) := by decide +kernel
theorem dX9_giveAway_219 : decode cX9_giveAway 219 = .ok (.iastore, 1) := by decide +kernel
theorem dX9_giveAway_220 : decode cX9_giveAway 220 = .ok (.iinc 5 1, 3) := by decide +kernel
theorem dX9_giveAway_223 : decode cX9_giveAway 223 = .ok (.goto (-149), 3) := by decide +kernel
theorem dX9_giveAway_226 : decode cX9_giveAway 226 = .ok (.return_, 1) := by decide +kernel
theorem dX9_allLacks_0 : decode cX9_allLacks 0 = .ok (.iconst 0, 1) := by decide +kernel
theorem dX9_allLacks_1 : decode cX9_allLacks 1 = .ok (.istore_n 1, 1) := by decide +kernel
theorem dX9_allLacks_2 : decode cX9_allLacks 2 = .ok (.iconst 0, 1) := by decide +kernel
theorem dX9_allLacks_3 : decode cX9_allLacks 3 = .ok (.istore_n 2, 1) := by decide +kernel
theorem dX9_allLacks_4 : decode cX9_allLacks 4 = .ok (.iload_n 2, 1) := by decide +kernel
theorem dX9_allLacks_5 : decode cX9_allLacks 5 = .ok (.aload_n 0, 1) := by decide +kernel
theorem dX9_allLacks_6 : decode cX9_allLacks 6 = .ok (.getfield 9, 3) := by decide +kernel
theorem dX9_allLacks_9 : decode cX9_allLacks 9 = .ok (.getfield 135, 3) := by decide +kernel
theorem dX9_allLacks_12 : decode cX9_allLacks 12 = .ok (.if_icmp .ge 22, 3) := by decide +kernel
theorem dX9_allLacks_15 : decode cX9_allLacks 15 = .ok (.iload_n 1, 1) := by decide +kernel
theorem dX9_allLacks_16 : decode cX9_allLacks 16 = .ok (.iconst 0, 1) := by decide +kernel
theorem dX9_allLacks_17 : decode cX9_allLacks 17 = .ok (.aload_n 0, 1) := by decide +kernel
theorem dX9_allLacks_18 : decode cX9_allLacks 18 = .ok (.getfield 57, 3) := by decide +kernel
theorem dX9_allLacks_21 : decode cX9_allLacks 21 = .ok (.iload_n 2, 1) := by decide +kernel
theorem dX9_allLacks_22 : decode cX9_allLacks 22 = .ok (.iaload, 1) := by decide +kernel
theorem dX9_allLacks_23 : decode cX9_allLacks 23 = .ok (.invokestatic 158, 3) := by decide +kernel
theorem dX9_allLacks_26 : decode cX9_allLacks 26 = .ok (.iadd, 1) := by decide +kernel
theorem dX9_allLacks_27 : decode cX9_allLacks 27 = .ok (.istore_n 1, 1) := by decide +kernel
theorem dX9_allLacks_28 : decode cX9_allLacks 28 = .ok (.iinc 2 1, 3) := by decide +kernel
theorem dX9_allLacks_31 : decode cX9_allLacks 31 = .ok (.goto (-27), 3) := by decide +kernel
theorem dX9_allLacks_34 : decode cX9_allLacks 34 = .ok (.iload_n 1, 1) := by decide +kernel
theorem dX9_allLacks_35 : decode cX9_allLacks 35 = .ok (.ireturn, 1) := by decide +kernel
theorem dX10_init_0 : decode cX10_init 0 = .ok (.aload_n 0, 1) := by decide +kernel
theorem dX10_init_1 : decode cX10_init 1 = .ok (.invokespecial 3, 3) := by decide +kernel
theorem dX10_init_4 : decode cX10_init 4 = .ok (.aload_n 0, 1) := by decide +kernel
theorem dX10_init_5 : decode cX10_init 5 = .ok (.aconst_null, 1) := by decide +kernel
theorem dX10_init_6 : decode cX10_init 6 = .ok (.putfield 9, 3) := by decide +kernel
theorem dX10_init_9 : decode cX10_init 9 = .ok (.aload_n 0, 1) := by decide +kernel
theorem dX10_init_10 : decode cX10_init 10 = .ok (.bipush 10, 2) := by decide +kernel
theorem dX10_init_12 : decode cX10_init 12 = .ok (.newarray .int, 2) := by decide +kernel
theorem dX10_init_14 : decode cX10_init 14 = .ok (.putfield 15, 3) := by decide +kernel
theorem dX10_init_17 : decode cX10_init 17 = .ok (.aload_n 0, 1) := by decide +kernel
theorem dX10_init_18 : decode cX10_init 18 = .ok (.bipush 10, 2) := by decide +kernel
theorem dX10_init_20 : decode cX10_init 20 = .ok (.newarray .int, 2) := by decide +kernel
theorem dX10_init_22 : decode cX10_init 22 = .ok (.putfield 19, 3) := by decide +kernel
theorem dX10_init_25 : decode cX10_init 25 = .ok (.aload_n 0, 1) := by decide +kernel
theorem dX10_init_26 : decode cX10_init 26 = .ok (.bipush 10, 2) := by decide +kernel
theorem dX10_init_28 : decode cX10_init 28 = .ok (.newarray .int, 2) := by decide +kernel
theorem dX10_init_30 : decode cX10_init 30 = .ok (.putfield 22, 3) := by decide +kernel
theorem dX10_init_33 : decode cX10_init 33 = .ok (.aload_n 0, 1) := by decide +kernel
theorem dX10_init_34 : decode cX10_init 34 = .ok (.iconst 0, 1) := by decide +kernel
theorem dX10_init_35 : decode cX10_init 35 = .ok (.putfield 25, 3) := by decide +kernel
theorem dX10_init_38 : decode cX10_init 38 = .ok (.aload_n 0, 1) := by decide +kernel
theorem dX10_init_39 : decode cX10_init 39 = .ok (.bipush 6, 2) := by decide +kernel
theorem dX10_init_41 : decode cX10_init 41 = .ok (.newarray .long, 2) := by decide +kernel
theorem dX10_init_43 : decode cX10_init 43 = .ok (.putfield 29, 3) := by decide +kernel
theorem dX10_init_46 : decode cX10_init 46 = .ok (.aload_n 0, 1) := by decide +kernel
theorem dX10_init_47 : decode cX10_init 47 = .ok (.bipush 64, 2) := by decide +kernel
theorem dX10_init_49 : decode cX10_init 49 = .ok (.newarray .long, 2) := by decide +kernel
theorem dX10_init_51 : decode cX10_init 51 = .ok (.putfield 33, 3) := by decide +kernel
theorem dX10_init_54 : decode cX10_init 54 = .ok (.aload_n 0, 1) := by decide +kernel
theorem dX10_init_55 : decode cX10_init 55 = .ok (.aload_n 1, 1) := by decide +kernel
theorem dX10_init_56 : decode cX10_init 56 = .ok (.putfield 36, 3) := by decide +kernel
theorem dX10_init_59 : decode cX10_init 59 = .ok (.aload_n 0, 1) := by decide +kernel
theorem dX10_init_60 : decode cX10_init 60 = .ok (.aload_n 2, 1) := by decide +kernel
theorem dX10_init_61 : decode cX10_init 61 = .ok (.putfield 40, 3) := by decide +kernel
theorem dX10_init_64 : decode cX10_init 64 = .ok (.return_, 1) := by decide +kernel
theorem dX10_goOn_0 : decode cX10_goOn 0 = .ok (.aload_n 0, 1) := by decide +kernel
theorem dX10_goOn_1 : decode cX10_goOn 1 = .ok (.aload_n 1, 1) := by decide +kernel
theorem dX10_goOn_2 : decode cX10_goOn 2 = .ok (.putfield 9, 3) := by decide +kernel
theorem dX10_goOn_5 : decode cX10_goOn 5 = .ok (.iconst 0, 1) := by decide +kernel
theorem dX10_goOn_6 : decode cX10_goOn 6 = .ok (.istore_n 3, 1) := by decide +kernel
theorem dX10_goOn_7 : decode cX10_goOn 7 = .ok (.iload_n 3, 1) := by decide +kernel
theorem dX10_goOn_8 : decode cX10_goOn 8 = .ok (.aload_n 0, 1) := by decide +kernel
theorem dX10_goOn_9 : decode cX10_goOn 9 = .ok (.getfield 9, 3) := by decide +kernel
theorem dX10_goOn_12 : decode cX10_goOn 12 = .ok (.getfield 44, 3) := by decide +kernel
theorem dX10_goOn_15 : decode cX10_goOn 15 = .ok (.if_icmp .ge 70, 3) := by decide +kernel
theorem dX10_goOn_18 : decode cX10_goOn 18 = .ok (.aload_n 0, 1) := by decide +kernel
theorem dX10_goOn_19 : decode cX10_goOn 19 = .ok (.getfield 15, 3) := by decide +kernel
theorem dX10_goOn_22 : decode cX10_goOn 22 = .ok (.iload_n 3, 1) := by decide +kernel
theorem dX10_goOn_23 : decode cX10_goOn 23 = .ok (.aload_n 0, 1) := by decide +kernel
theorem dX10_goOn_24 : decode cX10_goOn 24 = .ok (.getfield 36, 3) := by decide +kernel
theorem dX10_goOn_27 : decode cX10_goOn 27 = .ok (.iload_n 3, 1) := by decide +kernel
theorem dX10_goOn_28 : decode cX10_goOn 28 = .ok (.aload_n 0, 1) := by decide +kernel
theorem dX10_goOn_29 : decode cX10_goOn 29 = .ok (.getfield 36, 3) := by decide +kernel
theorem dX10_goOn_32 : decode cX10_goOn 32 = .ok (.getfield 49, 3) := by decide +kernel
theorem dX10_goOn_35 : decode cX10_goOn 35 = .ok (.invokevirtual 54, 3) := by decide +kernel
theorem dX10_goOn_38 : decode cX10_goOn 38 = .ok (.iastore, 1) := by decide +kernel
theorem dX10_goOn_39 : decode cX10_goOn 39 = .ok (.aload_n 0, 1) := by decide +kernel
theorem dX10_goOn_40 : decode cX10_goOn 40 = .ok (.getfield 19, 3) := by decide +kernel
theorem dX10_goOn_43 : decode cX10_goOn 43 = .ok (.iload_n 3, 1) := by decide +kernel
theorem dX10_goOn_44 : decode cX10_goOn 44 = .ok (.aload_n 0, 1) := by decide +kernel
theorem dX10_goOn_45 : decode cX10_goOn 45 = .ok (.getfield 40, 3) := by decide +kernel
theorem dX10_goOn_48 : decode cX10_goOn 48 = .ok (.aload_n 0, 1) := by decide +kernel
theorem dX10_goOn_49 : decode cX10_goOn 49 = .ok (.getfield 9, 3) := by decide +kernel
theorem dX10_goOn_52 : decode cX10_goOn 52 = .ok (.aload_n 0, 1) := by decide +kernel
theorem dX10_goOn_53 : decode cX10_goOn 53 = .ok (.getfield 9, 3) := by decide +kernel
theorem dX10_goOn_56 : decode cX10_goOn 56 = .ok (.getfield 57, 3) := by decide +kernel
theorem dX10_goOn_59 : decode cX10_goOn 59 = .ok (.iload_n 3, 1) := by decide +kernel
theorem dX10_goOn_60 : decode cX10_goOn 60 = .ok (.aaload, 1) := by decide +kernel
theorem dX10_goOn_61 : decode cX10_goOn 61 = .ok (.getfield 61, 3) := by decide +kernel
theorem dX10_goOn_64 : decode cX10_goOn 64 = .ok (.aload_n 0, 1) := by decide +kernel
theorem dX10_goOn_65 : decode cX10_goOn 65 = .ok (.getfield 9, 3) := by decide +kernel
theorem dX10_goOn_68 : decode cX10_goOn 68 = .ok (.getfield 66, 3) := by decide +kernel
theorem dX10_goOn_71 : decode cX10_goOn 71 = .ok (.invokevirtual 70, 3) := by decide +kernel
theorem dX10_goOn_74 : decode cX10_goOn 74 = .ok (.iconst 0, 1) := by decide +kernel
theorem dX10_goOn_75 : decode cX10_goOn 75 = .ok (.invokevirtual 76, 3) := by decide +kernel
theorem dX10_goOn_78 : decode cX10_goOn 78 = .ok (.iastore, 1) := by decide +kernel
theorem dX10_goOn_79 : decode cX10_goOn 79 = .ok (.iinc 3 1, 3) := by decide +kernel
theorem dX10_goOn_82 : decode cX10_goOn 82 = .ok (.goto (-75), 3) := by decide +kernel
theorem dX10_goOn_85 : decode cX10_goOn 85 = .ok (.iconst 0, 1) := by decide +kernel
theorem dX10_goOn_86 : decode cX10_goOn 86 = .ok (.istore_n 3, 1) := by decide +kernel
theorem dX10_goOn_87 : decode cX10_goOn 87 = .ok (.iload_n 3, 1) := by decide +kernel
theorem dX10_goOn_88 : decode cX10_goOn 88 = .ok (.iload_n 2, 1) := by decide +kernel
theorem dX10_goOn_89 : decode cX10_goOn 89 = .ok (.if_icmp .ge 46, 3) := by decide +kernel
theorem dX10_goOn_92 : decode cX10_goOn 92 = .ok (.aload_n 0, 1) := by decide +kernel
theorem dX10_goOn_93 : decode cX10_goOn 93 = .ok (.getfield 36, 3) := by decide +kernel
theorem dX10_goOn_96 : decode cX10_goOn 96 = .ok (.getfield 82, 3) := by decide +kernel
theorem dX10_goOn_99 : decode cX10_goOn 99 = .ok (.sipush 200, 3) := by decide +kernel
theorem dX10_goOn_102 : decode cX10_goOn 102 = .ok (.if_icmp .ge 33, 3) := by decide +kernel
theorem dX10_goOn_105 : decode cX10_goOn 105 = .ok (.aload_n 0, 1) := by decide +kernel
theorem dX10_goOn_106 : decode cX10_goOn 106 = .ok (.aload_n 0, 1) := by decide +kernel
theorem dX10_goOn_107 : decode cX10_goOn 107 = .ok (.getfield 36, 3) := by decide +kernel
theorem dX10_goOn_110 : decode cX10_goOn 110 = .ok (.getfield 82, 3) := by decide +kernel
theorem dX10_goOn_113 : decode cX10_goOn 113 = .ok (.invokevirtual 85, 3) := by decide +kernel
theorem dX10_goOn_116 : decode cX10_goOn 116 = .ok (.aload_n 0, 1) := by decide +kernel
theorem dX10_goOn_117 : decode cX10_goOn 117 = .ok (.getfield 36, 3) := by decide +kernel
theorem dX10_goOn_120 : decode cX10_goOn 120 = .ok (.dup, 1) := by decide +kernel
theorem dX10_goOn_121 : decode cX10_goOn 121 = .ok (.getfield 82, 3) := by decide +kernel
theorem dX10_goOn_124 : decode cX10_goOn 124 = .ok (.iconst 1, 1) := by decide +kernel
theorem dX10_goOn_125 : decode cX10_goOn 125 = .ok (.iadd, 1) := by decide +kernel
theorem dX10_goOn_126 : decode cX10_goOn 126 = .ok (.putfield 82, 3) := by decide +kernel
theorem dX10_goOn_129 : decode cX10_goOn 129 = .ok (.iinc 3 1, 3) := by decide +kernel
theorem dX10_goOn_132 : decode cX10_goOn 132 = .ok (.goto (-45), 3) := by decide +kernel
theorem dX10_goOn_135 : decode cX10_goOn 135 = .ok (.return_, 1) := by decide +kernel
theorem dX10_wayMinutes_0 : decode cX10_wayMinutes 0 = .ok (.aload_n 0, 1) := by decide +kernel
theorem dX10_wayMinutes_1 : decode cX10_wayMinutes 1 = .ok (.aload_n 1, 1) := by decide +kernel
theorem dX10_wayMinutes_2 : decode cX10_wayMinutes 2 = .ok (.putfield 9, 3) := by decide +kernel
theorem dX10_wayMinutes_5 : decode cX10_wayMinutes 5 = .ok (.iconst 0, 1) := by decide +kernel
theorem dX10_wayMinutes_6 : decode cX10_wayMinutes 6 = .ok (.istore 4, 2) := by decide +kernel
theorem dX10_wayMinutes_8 : decode cX10_wayMinutes 8 = .ok (.iconst 0, 1) := by decide +kernel
theorem dX10_wayMinutes_9 : decode cX10_wayMinutes 9 = .ok (.istore 5, 2) := by decide +kernel
theorem dX10_wayMinutes_11 : decode cX10_wayMinutes 11 = .ok (.iload 5, 2) := by decide +kernel
theorem dX10_wayMinutes_13 : decode cX10_wayMinutes 13 = .ok (.aload_n 0, 1) := by decide +kernel
theorem dX10_wayMinutes_14 : decode cX10_wayMinutes 14 = .ok (.getfield 36, 3) := by decide +kernel
theorem dX10_wayMinutes_17 : decode cX10_wayMinutes 17 = .ok (.iload_n 3, 1) := by decide +kernel
theorem dX10_wayMinutes_18 : decode cX10_wayMinutes 18 = .ok (.iload_n 2, 1) := by decide +kernel
theorem dX10_wayMinutes_19 : decode cX10_wayMinutes 19 = .ok (.invokevirtual 89, 3) := by decide +kernel
theorem dX10_wayMinutes_22 : decode cX10_wayMinutes 22 = .ok (.if_icmp .ge 62, 3) := by decide +kernel
theorem dX10_wayMinutes_25 : decode cX10_wayMinutes 25 = .ok (.aload_n 0, 1) := by decide +kernel
theorem dX10_wayMinutes_26 : decode cX10_wayMinutes 26 = .ok (.getfield 9, 3) := by decide +kernel
theorem dX10_wayMinutes_29 : decode cX10_wayMinutes 29 = .ok (.getfield 57, 3) := by decide +kernel
theorem dX10_wayMinutes_32 : decode cX10_wayMinutes 32 = .ok (.aload_n 0, 1) := by decide +kernel
theorem dX10_wayMinutes_33 : decode cX10_wayMinutes 33 = .ok (.getfield 36, 3) := by decide +kernel
theorem dX10_wayMinutes_36 : decode cX10_wayMinutes 36 = .ok (.iload_n 3, 1) := by decide +kernel
theorem dX10_wayMinutes_37 : decode cX10_wayMinutes 37 = .ok (.iload_n 2, 1) := by decide +kernel
theorem dX10_wayMinutes_38 : decode cX10_wayMinutes 38 = .ok (.iload 5, 2) := by decide +kernel
theorem dX10_wayMinutes_40 : decode cX10_wayMinutes 40 = .ok (.invokevirtual 92, 3) := by decide +kernel
theorem dX10_wayMinutes_43 : decode cX10_wayMinutes 43 = .ok (.aaload, 1) := by decide +kernel
theorem dX10_wayMinutes_44 : decode cX10_wayMinutes 44 = .ok (.getfield 61, 3) := by decide +kernel
theorem dX10_wayMinutes_47 : decode cX10_wayMinutes 47 = .ok (.istore 6, 2) := by decide +kernel
theorem dX10_wayMinutes_49 : decode cX10_wayMinutes 49 = .ok (.iload 4, 2) := by decide +kernel
theorem dX10_wayMinutes_51 : decode cX10_wayMinutes 51 = .ok (.aload_n 0, 1) := by decide +kernel
theorem dX10_wayMinutes_52 : decode cX10_wayMinutes 52 = .ok (.getfield 40, 3) := by decide +kernel
theorem dX10_wayMinutes_55 : decode cX10_wayMinutes 55 = .ok (.aload_n 0, 1) := by decide +kernel
theorem dX10_wayMinutes_56 : decode cX10_wayMinutes 56 = .ok (.getfield 9, 3) := by decide +kernel
theorem dX10_wayMinutes_59 : decode cX10_wayMinutes 59 = .ok (.iload 6, 2) := by decide +kernel
theorem dX10_wayMinutes_61 : decode cX10_wayMinutes 61 = .ok (.aload_n 0, 1) := by decide +kernel
theorem dX10_wayMinutes_62 : decode cX10_wayMinutes 62 = .ok (.getfield 9, 3) := by decide +kernel
theorem dX10_wayMinutes_65 : decode cX10_wayMinutes 65 = .ok (.getfield 66, 3) := by decide +kernel
theorem dX10_wayMinutes_68 : decode cX10_wayMinutes 68 = .ok (.invokevirtual 70, 3) := by decide +kernel
theorem dX10_wayMinutes_71 : decode cX10_wayMinutes 71 = .ok (.iconst 0, 1) := by decide +kernel
theorem dX10_wayMinutes_72 : decode cX10_wayMinutes 72 = .ok (.invokevirtual 76, 3) := by decide +kernel
theorem dX10_wayMinutes_75 : decode cX10_wayMinutes 75 = .ok (.iadd, 1) := by decide +kernel
theorem dX10_wayMinutes_76 : decode cX10_wayMinutes 76 = .ok (.istore 4, 2) := by decide +kernel
theorem dX10_wayMinutes_78 : decode cX10_wayMinutes 78 = .ok (.iinc 5 1, 3) := by decide +kernel
theorem dX10_wayMinutes_81 : decode cX10_wayMinutes 81 = .ok (.goto (-70), 3) := by decide +kernel
theorem dX10_wayMinutes_84 : decode cX10_wayMinutes 84 = .ok (.iload 4, 2) := by decide +kernel
theorem dX10_wayMinutes_86 : decode cX10_wayMinutes 86 = .ok (.ireturn, 1) := by decide +kernel
theorem dX10_wayPolePanes_0 : decode cX10_wayPolePanes 0 = .ok (.aload_n 0, 1) := by decide +kernel
theorem dX10_wayPolePanes_1 : decode cX10_wayPolePanes 1 = .ok (.aload_n 1, 1) := by decide +kernel
theorem dX10_wayPolePanes_2 : decode cX10_wayPolePanes 2 = .ok (.putfield 9, 3) := by decide +kernel
theorem dX10_wayPolePanes_5 : decode cX10_wayPolePanes 5 = .ok (.iconst 0, 1) := by decide +kernel
theorem dX10_wayPolePanes_6 : decode cX10_wayPolePanes 6 = .ok (.istore 4, 2) := by decide +kernel
theorem dX10_wayPolePanes_8 : decode cX10_wayPolePanes 8 = .ok (.iconst 0, 1) := by decide +kernel
theorem dX10_wayPolePanes_9 : decode cX10_wayPolePanes 9 = .ok (.istore 5, 2) := by decide +kernel
theorem dX10_wayPolePanes_11 : decode cX10_wayPolePanes 11 = .ok (.iload 5, 2) := by decide +kernel
theorem dX10_wayPolePanes_13 : decode cX10_wayPolePanes 13 = .ok (.aload_n 0, 1) := by decide +kernel
theorem dX10_wayPolePanes_14 : decode cX10_wayPolePanes 14 = .ok (.getfield 36, 3) := by decide +kernel
theorem dX10_wayPolePanes_17 : decode cX10_wayPolePanes 17 = .ok (.iload_n 3, 1) := by decide +kernel
theorem dX10_wayPolePanes_18 : decode cX10_wayPolePanes 18 = .ok (.iload_n 2, 1) := by decide +kernel
theorem dX10_wayPolePanes_19 : decode cX10_wayPolePanes 19 = .ok (.invokevirtual 89, 3) := by decide +kernel
theorem dX10_wayPolePanes_22 : decode cX10_wayPolePanes 22 = .ok (.if_icmp .ge 51, 3) := by decide +kernel
theorem dX10_wayPolePanes_25 : decode cX10_wayPolePanes 25 = .ok (.aload_n 0, 1) := by decide +kernel
theorem dX10_wayPolePanes_26 : decode cX10_wayPolePanes 26 = .ok (.getfield 9, 3) := by decide +kernel
theorem dX10_wayPolePanes_29 : decode cX10_wayPolePanes 29 = .ok (.getfield 57, 3) := by decide +kernel
theorem dX10_wayPolePanes_32 : decode cX10_wayPolePanes 32 = .ok (.aload_n 0, 1) := by decide +kernel
theorem dX10_wayPolePanes_33 : decode cX10_wayPolePanes 33 = .ok (.getfield 36, 3) := by decide +kernel
theorem dX10_wayPolePanes_36 : decode cX10_wayPolePanes 36 = .ok (.iload_n 3, 1) := by decide +kernel
theorem dX10_wayPolePanes_37 : decode cX10_wayPolePanes 37 = .ok (.iload_n 2, 1) := by decide +kernel
theorem dX10_wayPolePanes_38 : decode cX10_wayPolePanes 38 = .ok (.iload 5, 2) := by decide +kernel
theorem dX10_wayPolePanes_40 : decode cX10_wayPolePanes 40 = .ok (.invokevirtual 92, 3) := by decide +kernel
theorem dX10_wayPolePanes_43 : decode cX10_wayPolePanes 43 = .ok (.aaload, 1) := by decide +kernel
theorem dX10_wayPolePanes_44 : decode cX10_wayPolePanes 44 = .ok (.getfield 61, 3) := by decide +kernel
theorem dX10_wayPolePanes_47 : decode cX10_wayPolePanes 47 = .ok (.istore 6, 2) := by decide +kernel
theorem dX10_wayPolePanes_49 : decode cX10_wayPolePanes 49 = .ok (.iload 4, 2) := by decide +kernel
theorem dX10_wayPolePanes_51 : decode cX10_wayPolePanes 51 = .ok (.aload_n 0, 1) := by decide +kernel
theorem dX10_wayPolePanes_52 : decode cX10_wayPolePanes 52 = .ok (.getfield 40, 3) := by decide +kernel
theorem dX10_wayPolePanes_55 : decode cX10_wayPolePanes 55 = .ok (.aload_n 0, 1) := by decide +kernel
theorem dX10_wayPolePanes_56 : decode cX10_wayPolePanes 56 = .ok (.getfield 9, 3) := by decide +kernel
theorem dX10_wayPolePanes_59 : decode cX10_wayPolePanes 59 = .ok (.iload 6, 2) := by decide +kernel
theorem dX10_wayPolePanes_61 : decode cX10_wayPolePanes 61 = .ok (.invokevirtual 96, 3) := by decide +kernel
theorem dX10_wayPolePanes_64 : decode cX10_wayPolePanes 64 = .ok (.iadd, 1) := by decide +kernel
theorem dX10_wayPolePanes_65 : decode cX10_wayPolePanes 65 = .ok (.istore 4, 2) := by decide +kernel
theorem dX10_wayPolePanes_67 : decode cX10_wayPolePanes 67 = .ok (.iinc 5 1, 3) := by decide +kernel
theorem dX10_wayPolePanes_70 : decode cX10_wayPolePanes 70 = .ok (.goto (-59), 3) := by decide +kernel
theorem dX10_wayPolePanes_73 : decode cX10_wayPolePanes 73 = .ok (.iload 4, 2) := by decide +kernel
theorem dX10_wayPolePanes_75 : decode cX10_wayPolePanes 75 = .ok (.ireturn, 1) := by decide +kernel
theorem dX10_workDay_0 : decode cX10_workDay 0 = .ok (.aload_n 0, 1) := by decide +kernel
theorem dX10_workDay_1 : decode cX10_workDay 1 = .ok (.getfield 36, 3) := by decide +kernel
theorem dX10_workDay_4 : decode cX10_workDay 4 = .ok (.iload_n 1, 1) := by decide +kernel
theorem dX10_workDay_5 : decode cX10_workDay 5 = .ok (.invokevirtual 100, 3) := by decide +kernel
theorem dX10_workDay_8 : decode cX10_workDay 8 = .ok (.aload_n 0, 1) := by decide +kernel
theorem dX10_workDay_9 : decode cX10_workDay 9 = .ok (.getfield 9, 3) := by decide +kernel
theorem dX10_workDay_12 : decode cX10_workDay 12 = .ok (.getfield 103, 3) := by decide +kernel
theorem dX10_workDay_15 : decode cX10_workDay 15 = .ok (.iload_n 1, 1) := by decide +kernel
theorem dX10_workDay_16 : decode cX10_workDay 16 = .ok (.baload, 1) := by decide +kernel
theorem dX10_workDay_17 : decode cX10_workDay 17 = .ok (.ifCond .ne 34, 3) := by decide +kernel
theorem dX10_workDay_20 : decode cX10_workDay 20 = .ok (.iconst 0, 1) := by decide +kernel
theorem dX10_workDay_21 : decode cX10_workDay 21 = .ok (.istore_n 2, 1) := by decide +kernel
theorem dX10_workDay_22 : decode cX10_workDay 22 = .ok (.iload_n 2, 1) := by decide +kernel
theorem dX10_workDay_23 : decode cX10_workDay 23 = .ok (.aload_n 0, 1) := by decide +kernel
theorem dX10_workDay_24 : decode cX10_workDay 24 = .ok (.getfield 9, 3) := by decide +kernel
theorem dX10_workDay_27 : decode cX10_workDay 27 = .ok (.getfield 107, 3) := by decide +kernel
theorem dX10_workDay_30 : decode cX10_workDay 30 = .ok (.if_icmp .ge 21, 3) := by decide +kernel
theorem dX10_workDay_33 : decode cX10_workDay 33 = .ok (.aload_n 0, 1) := by decide +kernel
theorem dX10_workDay_34 : decode cX10_workDay 34 = .ok (.iload_n 2, 1) := by decide +kernel
theorem dX10_workDay_35 : decode cX10_workDay 35 = .ok (.iload_n 1, 1) := by decide +kernel
theorem dX10_workDay_36 : decode cX10_workDay 36 = .ok (.invokevirtual 110, 3) := by decide +kernel
theorem dX10_workDay_39 : decode cX10_workDay 39 = .ok (.aload_n 0, 1) := by decide +kernel
theorem dX10_workDay_40 : decode cX10_workDay 40 = .ok (.iload_n 2, 1) := by decide +kernel
theorem dX10_workDay_41 : decode cX10_workDay 41 = .ok (.iload_n 1, 1) := by decide +kernel
theorem dX10_workDay_42 : decode cX10_workDay 42 = .ok (.invokevirtual 114, 3) := by decide +kernel
theorem dX10_workDay_45 : decode cX10_workDay 45 = .ok (.iinc 2 1, 3) := by decide +kernel
theorem dX10_workDay_48 : decode cX10_workDay 48 = .ok (.goto (-26), 3) := by decide +kernel
theorem dX10_workDay_51 : decode cX10_workDay 51 = .ok (.iconst 0, 1) := by decide +kernel
theorem dX10_workDay_52 : decode cX10_workDay 52 = .ok (.istore_n 2, 1) := by decide +kernel
theorem dX10_workDay_53 : decode cX10_workDay 53 = .ok (.iload_n 2, 1) := by decide +kernel
theorem dX10_workDay_54 : decode cX10_workDay 54 = .ok (.aload_n 0, 1) := by decide +kernel
theorem dX10_workDay_55 : decode cX10_workDay 55 = .ok (.getfield 9, 3) := by decide +kernel
theorem dX10_workDay_58 : decode cX10_workDay 58 = .ok (.getfield 44, 3) := by decide +kernel
theorem dX10_workDay_61 : decode cX10_workDay 61 = .ok (.if_icmp .ge 15, 3) := by decide +kernel
theorem dX10_workDay_64 : decode cX10_workDay 64 = .ok (.aload_n 0, 1) := by decide +kernel
theorem dX10_workDay_65 : decode cX10_workDay 65 = .ok (.iload_n 2, 1) := by decide +kernel
theorem dX10_workDay_66 : decode cX10_workDay 66 = .ok (.iload_n 1, 1) := by decide +kernel
theorem dX10_workDay_67 : decode cX10_workDay 67 = .ok (.invokevirtual 117, 3) := by decide +kernel
theorem dX10_workDay_70 : decode cX10_workDay 70 = .ok (.iinc 2 1, 3) := by decide +kernel
theorem dX10_workDay_73 : decode cX10_workDay 73 = .ok (.goto (-20), 3) := by decide +kernel
theorem dX10_workDay_76 : decode cX10_workDay 76 = .ok (.return_, 1) := by decide +kernel
theorem dX10_planTurns_0 : decode cX10_planTurns 0 = .ok (.aload_n 0, 1) := by decide +kernel
theorem dX10_planTurns_1 : decode cX10_planTurns 1 = .ok (.iconst 0, 1) := by decide +kernel
theorem dX10_planTurns_2 : decode cX10_planTurns 2 = .ok (.putfield 25, 3) := by decide +kernel
theorem dX10_planTurns_5 : decode cX10_planTurns 5 = .ok (.iconst 0, 1) := by decide +kernel
theorem dX10_planTurns_6 : decode cX10_planTurns 6 = .ok (.istore_n 3, 1) := by decide +kernel
theorem dX10_planTurns_7 : decode cX10_planTurns 7 = .ok (.iload_n 3, 1) := by decide +kernel
theorem dX10_planTurns_8 : decode cX10_planTurns 8 = .ok (.aload_n 0, 1) := by decide +kernel
theorem dX10_planTurns_9 : decode cX10_planTurns 9 = .ok (.getfield 9, 3) := by decide +kernel
theorem dX10_planTurns_12 : decode cX10_planTurns 12 = .ok (.getfield 44, 3) := by decide +kernel
theorem dX10_planTurns_15 : decode cX10_planTurns 15 = .ok (.if_icmp .ge 107, 3) := by decide +kernel
theorem dX10_planTurns_18 : decode cX10_planTurns 18 = .ok (.aload_n 0, 1) := by decide +kernel
theorem dX10_planTurns_19 : decode cX10_planTurns 19 = .ok (.getfield 36, 3) := by decide +kernel
theorem dX10_planTurns_22 : decode cX10_planTurns 22 = .ok (.getfield 120, 3) := by decide +kernel
theorem dX10_planTurns_25 : decode cX10_planTurns 25 = .ok (.iload_n 3, 1) := by decide +kernel
theorem dX10_planTurns_26 : decode cX10_planTurns 26 = .ok (.iaload, 1) := by decide +kernel
theorem dX10_planTurns_27 : decode cX10_planTurns 27 = .ok (.iload_n 1, 1) := by decide +kernel
theorem dX10_planTurns_28 : decode cX10_planTurns 28 = .ok (.if_icmp .ne 88, 3) := by decide +kernel
theorem dX10_planTurns_31 : decode cX10_planTurns 31 = .ok (.aload_n 0, 1) := by decide +kernel
theorem dX10_planTurns_32 : decode cX10_planTurns 32 = .ok (.getfield 36, 3) := by decide +kernel
theorem dX10_planTurns_35 : decode cX10_planTurns 35 = .ok (.getfield 123, 3) := by decide +kernel
theorem dX10_planTurns_38 : decode cX10_planTurns 38 = .ok (.iload_n 3, 1) := by decide +kernel
theorem dX10_planTurns_39 : decode cX10_planTurns 39 = .ok (.iaload, 1) := by decide +kernel
theorem dX10_planTurns_40 : decode cX10_planTurns 40 = .ok (.iload_n 2, 1) := by decide +kernel
theorem dX10_planTurns_41 : decode cX10_planTurns 41 = .ok (.if_icmp .le 6, 3) := by decide +kernel
theorem dX10_planTurns_44 : decode cX10_planTurns 44 = .ok (.goto 72, 3) := by decide +kernel
theorem dX10_planTurns_47 : decode cX10_planTurns 47 = .ok (.aload_n 0, 1) := by decide +kernel
theorem dX10_planTurns_48 : decode cX10_planTurns 48 = .ok (.getfield 9, 3) := by decide +kernel
theorem dX10_planTurns_51 : decode cX10_planTurns 51 = .ok (.getfield 57, 3) := by decide +kernel
theorem dX10_planTurns_54 : decode cX10_planTurns 54 = .ok (.iload_n 3, 1) := by decide +kernel
theorem dX10_planTurns_55 : decode cX10_planTurns 55 = .ok (.aaload, 1) := by decide +kernel
theorem dX10_planTurns_56 : decode cX10_planTurns 56 = .ok (.iload_n 2, 1) := by decide +kernel
theorem dX10_planTurns_57 : decode cX10_planTurns 57 = .ok (.bipush 7, 2) := by decide +kernel
theorem dX10_planTurns_59 : decode cX10_planTurns 59 = .ok (.irem, 1) := by decide +kernel
theorem dX10_planTurns_60 : decode cX10_planTurns 60 = .ok (.invokevirtual 126, 3) := by decide +kernel
theorem dX10_planTurns_63 : decode cX10_planTurns 63 = .ok (.ifCond .eq 40, 3) := by decide +kernel
theorem dX10_planTurns_66 : decode cX10_planTurns 66 = .ok (.aload_n 0, 1) := by decide +kernel
theorem dX10_planTurns_67 : decode cX10_planTurns 67 = .ok (.getfield 9, 3) := by decide +kernel
theorem dX10_planTurns_70 : decode cX10_planTurns 70 = .ok (.getfield 130, 3) := by decide +kernel
theorem dX10_planTurns_73 : decode cX10_planTurns 73 = .ok (.getfield 134, 3) := by decide +kernel
theorem dX10_planTurns_76 : decode cX10_planTurns 76 = .ok (.ifCond .eq 19, 3) := by decide +kernel
theorem dX10_planTurns_79 : decode cX10_planTurns 79 = .ok (.aload_n 0, 1) := by decide +kernel
theorem dX10_planTurns_80 : decode cX10_planTurns 80 = .ok (.aload_n 0, 1) := by decide +kernel
theorem dX10_planTurns_81 : decode cX10_planTurns 81 = .ok (.getfield 9, 3) := by decide +kernel
theorem dX10_planTurns_84 : decode cX10_planTurns 84 = .ok (.getfield 130, 3) := by decide +kernel
theorem dX10_planTurns_87 : decode cX10_planTurns 87 = .ok (.iload_n 3, 1) := by decide +kernel
theorem dX10_planTurns_88 : decode cX10_planTurns 88 = .ok (.iload_n 2, 1) := by decide +kernel
theorem dX10_planTurns_89 : decode cX10_planTurns 89 = .ok (.invokevirtual 139, 3) := by decide +kernel
theorem dX10_planTurns_92 : decode cX10_planTurns 92 = .ok (.ifCond .eq 11, 3) := by decide +kernel
theorem dX10_planTurns_95 : decode cX10_planTurns 95 = .ok (.aload_n 0, 1) := by decide +kernel
theorem dX10_planTurns_96 : decode cX10_planTurns 96 = .ok (.iload_n 3, 1) := by decide +kernel
theorem dX10_planTurns_97 : decode cX10_planTurns 97 = .ok (.invokevirtual 143, 3) := by decide +kernel
theorem dX10_planTurns_100 : decode cX10_planTurns 100 = .ok (.goto 16, 3) := by decide +kernel
theorem dX10_planTurns_103 : decode cX10_planTurns 103 = .ok (.aload_n 0, 1) := by decide +kernel
theorem dX10_planTurns_104 : decode cX10_planTurns 104 = .ok (.getfield 36, 3) := by decide +kernel
theorem dX10_planTurns_107 : decode cX10_planTurns 107 = .ok (.getfield 146, 3) := by decide +kernel
theorem dX10_planTurns_110 : decode cX10_planTurns 110 = .ok (.iload_n 3, 1) := by decide +kernel
theorem dX10_planTurns_111 : decode cX10_planTurns 111 = .ok (.dup2, 1) := by decide +kernel
theorem dX10_planTurns_112 : decode cX10_planTurns 112 = .ok (.iaload, 1) := by decide +kernel
theorem dX10_planTurns_113 : decode cX10_planTurns 113 = .ok (.iconst 1, 1) := by decide +kernel
theorem dX10_planTurns_114 : decode cX10_planTurns 114 = .ok (.iadd, 1) := by decide +kernel
theorem dX10_planTurns_115 : decode cX10_planTurns 115 = .ok (.iastore, 1) := by decide +kernel
theorem dX10_planTurns_116 : decode cX10_planTurns 116 = .ok (.iinc 3 1, 3) := by decide +kernel
theorem dX10_planTurns_119 : decode cX10_planTurns 119 = .ok (.goto (-112), 3) := by decide +kernel
theorem dX10_planTurns_122 : decode cX10_planTurns 122 = .ok (.return_, 1) := by decide +kernel
theorem dX10_addTurn_0 : decode cX10_addTurn 0 = .ok (.aload_n 0, 1) := by decide +kernel
theorem dX10_addTurn_1 : decode cX10_addTurn 1 = .ok (.getfield 25, 3) := by decide +kernel
theorem dX10_addTurn_4 : decode cX10_addTurn 4 = .ok (.istore_n 2, 1) := by decide +kernel
theorem dX10_addTurn_5 : decode cX10_addTurn 5 = .ok (.aload_n 0, 1) := by decide +kernel
theorem dX10_addTurn_6 : decode cX10_addTurn 6 = .ok (.getfield 25, 3) := by decide +kernel
theorem dX10_addTurn_9 : decode cX10_addTurn 9 = .ok (.istore_n 3, 1) := by decide +kernel
theorem dX10_addTurn_10 : decode cX10_addTurn 10 = .ok (.iload_n 3, 1) := by decide +kernel
theorem dX10_addTurn_11 : decode cX10_addTurn 11 = .ok (.ifCond .le 55, 3) := by decide +kernel
theorem dX10_addTurn_14 : decode cX10_addTurn 14 = .ok (.aload_n 0, 1) := by decide +kernel
theorem dX10_addTurn_15 : decode cX10_addTurn 15 = .ok (.getfield 36, 3) := by decide +kernel
theorem dX10_addTurn_18 : decode cX10_addTurn 18 = .ok (.getfield 123, 3) := by decide +kernel
theorem dX10_addTurn_21 : decode cX10_addTurn 21 = .ok (.aload_n 0, 1) := by decide +kernel
theorem dX10_addTurn_22 : decode cX10_addTurn 22 = .ok (.getfield 22, 3) := by decide +kernel
theorem dX10_addTurn_25 : decode cX10_addTurn 25 = .ok (.iload_n 3, 1) := by decide +kernel
theorem dX10_addTurn_26 : decode cX10_addTurn 26 = .ok (.iconst 1, 1) := by decide +kernel
theorem dX10_addTurn_27 : decode cX10_addTurn 27 = .ok (.isub, 1) := by decide +kernel
theorem dX10_addTurn_28 : decode cX10_addTurn 28 = .ok (.iaload, 1) := by decide +kernel
theorem dX10_addTurn_29 : decode cX10_addTurn 29 = .ok (.iaload, 1) := by decide +kernel
theorem dX10_addTurn_30 : decode cX10_addTurn 30 = .ok (.aload_n 0, 1) := by decide +kernel
theorem dX10_addTurn_31 : decode cX10_addTurn 31 = .ok (.getfield 36, 3) := by decide +kernel
theorem dX10_addTurn_34 : decode cX10_addTurn 34 = .ok (.getfield 123, 3) := by decide +kernel
theorem dX10_addTurn_37 : decode cX10_addTurn 37 = .ok (.iload_n 1, 1) := by decide +kernel
theorem dX10_addTurn_38 : decode cX10_addTurn 38 = .ok (.iaload, 1) := by decide +kernel
theorem dX10_addTurn_39 : decode cX10_addTurn 39 = .ok (.if_icmp .le 27, 3) := by decide +kernel
theorem dX10_addTurn_42 : decode cX10_addTurn 42 = .ok (.aload_n 0, 1) := by decide +kernel
theorem dX10_addTurn_43 : decode cX10_addTurn 43 = .ok (.getfield 22, 3) := by decide +kernel
theorem dX10_addTurn_46 : decode cX10_addTurn 46 = .ok (.iload_n 3, 1) := by decide +kernel
theorem dX10_addTurn_47 : decode cX10_addTurn 47 = .ok (.aload_n 0, 1) := by decide +kernel
theorem dX10_addTurn_48 : decode cX10_addTurn 48 = .ok (.getfield 22, 3) := by decide +kernel
theorem dX10_addTurn_51 : decode cX10_addTurn 51 = .ok (.iload_n 3, 1) := by decide +kernel
theorem dX10_addTurn_52 : decode cX10_addTurn 52 = .ok (.iconst 1, 1) := by decide +kernel
theorem dX10_addTurn_53 : decode cX10_addTurn 53 = .ok (.isub, 1) := by decide +kernel
theorem dX10_addTurn_54 : decode cX10_addTurn 54 = .ok (.iaload, 1) := by decide +kernel
theorem dX10_addTurn_55 : decode cX10_addTurn 55 = .ok (.iastore, 1) := by decide +kernel
theorem dX10_addTurn_56 : decode cX10_addTurn 56 = .ok (.iload_n 3, 1) := by decide +kernel
theorem dX10_addTurn_57 : decode cX10_addTurn 57 = .ok (.iconst 1, 1) := by decide +kernel
theorem dX10_addTurn_58 : decode cX10_addTurn 58 = .ok (.isub, 1) := by decide +kernel
theorem dX10_addTurn_59 : decode cX10_addTurn 59 = .ok (.istore_n 2, 1) := by decide +kernel
theorem dX10_addTurn_60 : decode cX10_addTurn 60 = .ok (.iinc 3 (-1), 3) := by decide +kernel
theorem dX10_addTurn_63 : decode cX10_addTurn 63 = .ok (.goto (-53), 3) := by decide +kernel
theorem dX10_addTurn_66 : decode cX10_addTurn 66 = .ok (.aload_n 0, 1) := by decide +kernel
theorem dX10_addTurn_67 : decode cX10_addTurn 67 = .ok (.getfield 22, 3) := by decide +kernel
theorem dX10_addTurn_70 : decode cX10_addTurn 70 = .ok (.iload_n 2, 1) := by decide +kernel
theorem dX10_addTurn_71 : decode cX10_addTurn 71 = .ok (.iload_n 1, 1) := by decide +kernel
theorem dX10_addTurn_72 : decode cX10_addTurn 72 = .ok (.iastore, 1) := by decide +kernel
theorem dX10_addTurn_73 : decode cX10_addTurn 73 = .ok (.aload_n 0, 1) := by decide +kernel
theorem dX10_addTurn_74 : decode cX10_addTurn 74 = .ok (.dup, 1) := by decide +kernel
theorem dX10_addTurn_75 : decode cX10_addTurn 75 = .ok (.getfield 25, 3) := by decide +kernel
theorem dX10_addTurn_78 : decode cX10_addTurn 78 = .ok (.iconst 1, 1) := by decide +kernel
theorem dX10_addTurn_79 : decode cX10_addTurn 79 = .ok (.iadd, 1) := by decide +kernel
theorem dX10_addTurn_80 : decode cX10_addTurn 80 = .ok (.putfield 25, 3) := by decide +kernel
theorem dX10_addTurn_83 : decode cX10_addTurn 83 = .ok (.return_, 1) := by decide +kernel
theorem dX10_goRound_0 : decode cX10_goRound 0 = .ok (.aload_n 0, 1) := by decide +kernel
theorem dX10_goRound_1 : decode cX10_goRound 1 = .ok (.getfield 9, 3) := by decide +kernel
theorem dX10_goRound_4 : decode cX10_goRound 4 = .ok (.getfield 149, 3) := by decide +kernel
theorem dX10_goRound_7 : decode cX10_goRound 7 = .ok (.iload_n 1, 1) := by decide +kernel
theorem dX10_goRound_8 : decode cX10_goRound 8 = .ok (.aaload, 1) := by decide +kernel
theorem dX10_goRound_9 : decode cX10_goRound 9 = .ok (.getfield 152, 3) := by decide +kernel
theorem dX10_goRound_12 : decode cX10_goRound 12 = .ok (.istore_n 3, 1) := by decide +kernel
theorem dX10_goRound_13 : decode cX10_goRound 13 = .ok (.iconst (-1), 1) := by decide +kernel
theorem dX10_goRound_14 : decode cX10_goRound 14 = .ok (.istore 4, 2) := by decide +kernel
theorem dX10_goRound_16 : decode cX10_goRound 16 = .ok (.iconst 0, 1) := by decide +kernel
theorem dX10_goRound_17 : decode cX10_goRound 17 = .ok (.istore 5, 2) := by decide +kernel
theorem dX10_goRound_19 : decode cX10_goRound 19 = .ok (.iload 5, 2) := by decide +kernel
theorem dX10_goRound_21 : decode cX10_goRound 21 = .ok (.aload_n 0, 1) := by decide +kernel
theorem dX10_goRound_22 : decode cX10_goRound 22 = .ok (.getfield 25, 3) := by decide +kernel
theorem dX10_goRound_25 : decode cX10_goRound 25 = .ok (.if_icmp .ge 84, 3) := by decide +kernel
theorem dX10_goRound_28 : decode cX10_goRound 28 = .ok (.aload_n 0, 1) := by decide +kernel
theorem dX10_goRound_29 : decode cX10_goRound 29 = .ok (.getfield 22, 3) := by decide +kernel
theorem dX10_goRound_32 : decode cX10_goRound 32 = .ok (.iload 5, 2) := by decide +kernel
theorem dX10_goRound_34 : decode cX10_goRound 34 = .ok (.iaload, 1) := by decide +kernel
theorem dX10_goRound_35 : decode cX10_goRound 35 = .ok (.istore 6, 2) := by decide +kernel
theorem dX10_goRound_37 : decode cX10_goRound 37 = .ok (.aload_n 0, 1) := by decide +kernel
theorem dX10_goRound_38 : decode cX10_goRound 38 = .ok (.getfield 9, 3) := by decide +kernel
theorem dX10_goRound_41 : decode cX10_goRound 41 = .ok (.iload_n 1, 1) := by decide +kernel
theorem dX10_goRound_42 : decode cX10_goRound 42 = .ok (.iload 4, 2) := by decide +kernel
theorem dX10_goRound_44 : decode cX10_goRound 44 = .ok (.iload 6, 2) := by decide +kernel
theorem dX10_goRound_46 : decode cX10_goRound 46 = .ok (.invokevirtual 157, 3) := by decide +kernel
theorem dX10_goRound_49 : decode cX10_goRound 49 = .ok (.aload_n 0, 1) := by decide +kernel
theorem dX10_goRound_50 : decode cX10_goRound 50 = .ok (.getfield 19, 3) := by decide +kernel
theorem dX10_goRound_53 : decode cX10_goRound 53 = .ok (.iload 6, 2) := by decide +kernel
theorem dX10_goRound_55 : decode cX10_goRound 55 = .ok (.iaload, 1) := by decide +kernel
theorem dX10_goRound_56 : decode cX10_goRound 56 = .ok (.iadd, 1) := by decide +kernel
theorem dX10_goRound_57 : decode cX10_goRound 57 = .ok (.istore 7, 2) := by decide +kernel
theorem dX10_goRound_59 : decode cX10_goRound 59 = .ok (.iload 7, 2) := by decide +kernel
theorem dX10_goRound_61 : decode cX10_goRound 61 = .ok (.aload_n 0, 1) := by decide +kernel
theorem dX10_goRound_62 : decode cX10_goRound 62 = .ok (.getfield 9, 3) := by decide +kernel
theorem dX10_goRound_65 : decode cX10_goRound 65 = .ok (.iload_n 1, 1) := by decide +kernel
theorem dX10_goRound_66 : decode cX10_goRound 66 = .ok (.iload 6, 2) := by decide +kernel
theorem dX10_goRound_68 : decode cX10_goRound 68 = .ok (.invokevirtual 160, 3) := by decide +kernel
theorem dX10_goRound_71 : decode cX10_goRound 71 = .ok (.iadd, 1) := by decide +kernel
theorem dX10_goRound_72 : decode cX10_goRound 72 = .ok (.iload_n 3, 1) := by decide +kernel
theorem dX10_goRound_73 : decode cX10_goRound 73 = .ok (.if_icmp .gt 30, 3) := by decide +kernel
theorem dX10_goRound_76 : decode cX10_goRound 76 = .ok (.iload_n 3, 1) := by decide +kernel
theorem dX10_goRound_77 : decode cX10_goRound 77 = .ok (.iload 7, 2) := by decide +kernel
theorem dX10_goRound_79 : decode cX10_goRound 79 = .ok (.isub, 1) := by decide +kernel
theorem dX10_goRound_80 : decode cX10_goRound 80 = .ok (.istore_n 3, 1) := by decide +kernel
theorem dX10_goRound_81 : decode cX10_goRound 81 = .ok (.iload 6, 2) := by decide +kernel
theorem dX10_goRound_83 : decode cX10_goRound 83 = .ok (.istore 4, 2) := by decide +kernel
theorem dX10_goRound_85 : decode cX10_goRound 85 = .ok (.aload_n 0, 1) := by decide +kernel
theorem dX10_goRound_86 : decode cX10_goRound 86 = .ok (.getfield 36, 3) := by decide +kernel
theorem dX10_goRound_89 : decode cX10_goRound 89 = .ok (.iload_n 2, 1) := by decide +kernel
theorem dX10_goRound_90 : decode cX10_goRound 90 = .ok (.iload_n 1, 1) := by decide +kernel
theorem dX10_goRound_91 : decode cX10_goRound 91 = .ok (.iload 6, 2) := by decide +kernel
theorem dX10_goRound_93 : decode cX10_goRound 93 = .ok (.invokevirtual 163, 3) := by decide +kernel
theorem dX10_goRound_96 : decode cX10_goRound 96 = .ok (.aload_n 0, 1) := by decide +kernel
theorem dX10_goRound_97 : decode cX10_goRound 97 = .ok (.iload 6, 2) := by decide +kernel
theorem dX10_goRound_99 : decode cX10_goRound 99 = .ok (.iload_n 2, 1) := by decide +kernel
theorem dX10_goRound_100 : decode cX10_goRound 100 = .ok (.invokevirtual 167, 3) := by decide +kernel
theorem dX10_goRound_103 : decode cX10_goRound 103 = .ok (.iinc 5 1, 3) := by decide +kernel
theorem dX10_goRound_106 : decode cX10_goRound 106 = .ok (.goto (-87), 3) := by decide +kernel
theorem dX10_goRound_109 : decode cX10_goRound 109 = .ok (.return_, 1) := by decide +kernel
theorem dX10_wipe_0 : decode cX10_wipe 0 = .ok (.aload_n 0, 1) := by decide +kernel
theorem dX10_wipe_1 : decode cX10_wipe 1 = .ok (.getfield 9, 3) := by decide +kernel
theorem dX10_wipe_4 : decode cX10_wipe 4 = .ok (.getfield 57, 3) := by decide +kernel
theorem dX10_wipe_7 : decode cX10_wipe 7 = .ok (.iload_n 1, 1) := by decide +kernel
theorem dX10_wipe_8 : decode cX10_wipe 8 = .ok (.aaload, 1) := by decide +kernel
theorem dX10_wipe_9 : decode cX10_wipe 9 = .ok (.astore_n 3, 1) := by decide +kernel
theorem dX10_wipe_10 : decode cX10_wipe 10 = .ok (.aload_n 0, 1) := by decide +kernel
theorem dX10_wipe_11 : decode cX10_wipe 11 = .ok (.getfield 36, 3) := by decide +kernel
theorem dX10_wipe_14 : decode cX10_wipe 14 = .ok (.getfield 170, 3) := by decide +kernel
theorem dX10_wipe_17 : decode cX10_wipe 17 = .ok (.iload_n 1, 1) := by decide +kernel
theorem dX10_wipe_18 : decode cX10_wipe 18 = .ok (.dup2, 1) := by decide +kernel
theorem dX10_wipe_19 : decode cX10_wipe 19 = .ok (.iaload, 1) := by decide +kernel
theorem dX10_wipe_20 : decode cX10_wipe 20 = .ok (.iconst 1, 1) := by decide +kernel
theorem dX10_wipe_21 : decode cX10_wipe 21 = .ok (.iadd, 1) := by decide +kernel
theorem dX10_wipe_22 : decode cX10_wipe 22 = .ok (.iastore, 1) := by decide +kernel
theorem dX10_wipe_23 : decode cX10_wipe 23 = .ok (.aload_n 0, 1) := by decide +kernel
theorem dX10_wipe_24 : decode cX10_wipe 24 = .ok (.getfield 36, 3) := by decide +kernel
theorem dX10_wipe_27 : decode cX10_wipe 27 = .ok (.getfield 173, 3) := by decide +kernel
theorem dX10_wipe_30 : decode cX10_wipe 30 = .ok (.iload_n 1, 1) := by decide +kernel
theorem dX10_wipe_31 : decode cX10_wipe 31 = .ok (.iload_n 2, 1) := by decide +kernel
theorem dX10_wipe_32 : decode cX10_wipe 32 = .ok (.iastore, 1) := by decide +kernel
theorem dX10_wipe_33 : decode cX10_wipe 33 = .ok (.aload_n 0, 1) := by decide +kernel
theorem dX10_wipe_34 : decode cX10_wipe 34 = .ok (.getfield 36, 3) := by decide +kernel
theorem dX10_wipe_37 : decode cX10_wipe 37 = .ok (.getfield 123, 3) := by decide +kernel
theorem dX10_wipe_40 : decode cX10_wipe 40 = .ok (.iload_n 1, 1) := by decide +kernel
theorem dX10_wipe_41 : decode cX10_wipe 41 = .ok (.iload_n 2, 1) := by decide +kernel
theorem dX10_wipe_42 : decode cX10_wipe 42 = .ok (.bipush 7, 2) := by decide +kernel
theorem dX10_wipe_44 : decode cX10_wipe 44 = .ok (.aload_n 3, 1) := by decide +kernel
theorem dX10_wipe_45 : decode cX10_wipe 45 = .ok (.getfield 176, 3) := by decide +kernel
theorem dX10_wipe_48 : decode cX10_wipe 48 = .ok (.imul, 1) := by decide +kernel
theorem dX10_wipe_49 : decode cX10_wipe 49 = .ok (.iadd, 1) := by decide +kernel
theorem dX10_wipe_50 : decode cX10_wipe 50 = .ok (.iastore, 1) := by decide +kernel
theorem dX10_wipe_51 : decode cX10_wipe 51 = .ok (.aload_n 0, 1) := by decide +kernel
theorem dX10_wipe_52 : decode cX10_wipe 52 = .ok (.getfield 36, 3) := by decide +kernel
theorem dX10_wipe_55 : decode cX10_wipe 55 = .ok (.getfield 179, 3) := by decide +kernel
theorem dX10_wipe_58 : decode cX10_wipe 58 = .ok (.iload_n 1, 1) := by decide +kernel
theorem dX10_wipe_59 : decode cX10_wipe 59 = .ok (.iconst 0, 1) := by decide +kernel
theorem dX10_wipe_60 : decode cX10_wipe 60 = .ok (.bastore, 1) := by decide +kernel
theorem dX10_wipe_61 : decode cX10_wipe 61 = .ok (.aload_n 3, 1) := by decide +kernel
theorem dX10_wipe_62 : decode cX10_wipe 62 = .ok (.iload_n 2, 1) := by decide +kernel
theorem dX10_wipe_63 : decode cX10_wipe 63 = .ok (.bipush 7, 2) := by decide +kernel
theorem dX10_wipe_65 : decode cX10_wipe 65 = .ok (.irem, 1) := by decide +kernel
theorem dX10_wipe_66 : decode cX10_wipe 66 = .ok (.invokevirtual 182, 3) := by decide +kernel
theorem dX10_wipe_69 : decode cX10_wipe 69 = .ok (.ifCond .eq 24, 3) := by decide +kernel
theorem dX10_wipe_72 : decode cX10_wipe 72 = .ok (.aload_n 0, 1) := by decide +kernel
theorem dX10_wipe_73 : decode cX10_wipe 73 = .ok (.getfield 36, 3) := by decide +kernel
theorem dX10_wipe_76 : decode cX10_wipe 76 = .ok (.getfield 185, 3) := by decide +kernel
theorem dX10_wipe_79 : decode cX10_wipe 79 = .ok (.iload_n 1, 1) := by decide +kernel
theorem dX10_wipe_80 : decode cX10_wipe 80 = .ok (.dup2, 1) := by decide +kernel
theorem dX10_wipe_81 : decode cX10_wipe 81 = .ok (.iaload, 1) := by decide +kernel
theorem dX10_wipe_82 : decode cX10_wipe 82 = .ok (.iconst 0, 1) := by decide +kernel
theorem dX10_wipe_83 : decode cX10_wipe 83 = .ok (.aload_n 0, 1) := by decide +kernel
theorem dX10_wipe_84 : decode cX10_wipe 84 = .ok (.iload_n 1, 1) := by decide +kernel
theorem dX10_wipe_85 : decode cX10_wipe 85 = .ok (.invokevirtual 188, 3) := by decide +kernel
theorem dX10_wipe_88 : decode cX10_wipe 88 = .ok (.invokestatic 192, 3) := by decide +kernel
theorem dX10_wipe_91 : decode cX10_wipe 91 = .ok (.iadd, 1) := by decide +kernel
theorem dX10_wipe_92 : decode cX10_wipe 92 = .ok (.iastore, 1) := by decide +kernel
theorem dX10_wipe_93 : decode cX10_wipe 93 = .ok (.return_, 1) := by decide +kernel
theorem dX10_owes_0 : decode cX10_owes 0 = .ok (.aload_n 0, 1) := by decide +kernel
theorem dX10_owes_1 : decode cX10_owes 1 = .ok (.getfield 36, 3) := by decide +kernel
theorem dX10_owes_4 : decode cX10_owes 4 = .ok (.getfield 170, 3) := by decide +kernel
theorem dX10_owes_7 : decode cX10_owes 7 = .ok (.iload_n 1, 1) := by decide +kernel
theorem dX10_owes_8 : decode cX10_owes 8 = .ok (.iaload, 1) := by decide +kernel
theorem dX10_owes_9 : decode cX10_owes 9 = .ok (.aload_n 0, 1) := by decide +kernel
theorem dX10_owes_10 : decode cX10_owes 10 = .ok (.getfield 9, 3) := by decide +kernel
theorem dX10_owes_13 : decode cX10_owes 13 = .ok (.getfield 57, 3) := by decide +kernel
theorem dX10_owes_16 : decode cX10_owes 16 = .ok (.iload_n 1, 1) := by decide +kernel
theorem dX10_owes_17 : decode cX10_owes 17 = .ok (.aaload, 1) := by decide +kernel
theorem dX10_owes_18 : decode cX10_owes 18 = .ok (.getfield 197, 3) := by decide +kernel
theorem dX10_owes_21 : decode cX10_owes 21 = .ok (.imul, 1) := by decide +kernel
theorem dX10_owes_22 : decode cX10_owes 22 = .ok (.aload_n 0, 1) := by decide +kernel
theorem dX10_owes_23 : decode cX10_owes 23 = .ok (.getfield 36, 3) := by decide +kernel
theorem dX10_owes_26 : decode cX10_owes 26 = .ok (.getfield 185, 3) := by decide +kernel
theorem dX10_owes_29 : decode cX10_owes 29 = .ok (.iload_n 1, 1) := by decide +kernel
theorem dX10_owes_30 : decode cX10_owes 30 = .ok (.iaload, 1) := by decide +kernel
theorem dX10_owes_31 : decode cX10_owes 31 = .ok (.isub, 1) := by decide +kernel
theorem dX10_owes_32 : decode cX10_owes 32 = .ok (.aload_n 0, 1) := by decide +kernel
theorem dX10_owes_33 : decode cX10_owes 33 = .ok (.getfield 15, 3) := by decide +kernel
theorem dX10_owes_36 : decode cX10_owes 36 = .ok (.iload_n 1, 1) := by decide +kernel
theorem dX10_owes_37 : decode cX10_owes 37 = .ok (.iaload, 1) := by decide +kernel
theorem dX10_owes_38 : decode cX10_owes 38 = .ok (.isub, 1) := by decide +kernel
theorem dX10_owes_39 : decode cX10_owes 39 = .ok (.ireturn, 1) := by decide +kernel
theorem dX10_hearComplaint_0 : decode cX10_hearComplaint 0 = .ok (.aload_n 0, 1) := by decide +kernel
theorem dX10_hearComplaint_1 : decode cX10_hearComplaint 1 = .ok (.getfield 9, 3) := by decide +kernel
theorem dX10_hearComplaint_4 : decode cX10_hearComplaint 4 = .ok (.getfield 200, 3) := by decide +kernel
theorem dX10_hearComplaint_7 : decode cX10_hearComplaint 7 = .ok (.getfield 134, 3) := by decide +kernel
theorem dX10_hearComplaint_10 : decode cX10_hearComplaint 10 = .ok (.ifCond .eq 28, 3) := by decide +kernel
theorem dX10_hearComplaint_13 : decode cX10_hearComplaint 13 = .ok (.aload_n 0, 1) := by decide +kernel
theorem dX10_hearComplaint_14 : decode cX10_hearComplaint 14 = .ok (.getfield 36, 3) := by decide +kernel
theorem dX10_hearComplaint_17 : decode cX10_hearComplaint 17 = .ok (.getfield 123, 3) := by decide +kernel
theorem dX10_hearComplaint_20 : decode cX10_hearComplaint 20 = .ok (.iload_n 1, 1) := by decide +kernel
theorem dX10_hearComplaint_21 : decode cX10_hearComplaint 21 = .ok (.iaload, 1) := by decide +kernel
theorem dX10_hearComplaint_22 : decode cX10_hearComplaint 22 = .ok (.iload_n 2, 1) := by decide +kernel
theorem dX10_hearComplaint_23 : decode cX10_hearComplaint 23 = .ok (.if_icmp .gt 15, 3) := by decide +kernel
theorem dX10_hearComplaint_26 : decode cX10_hearComplaint 26 = .ok (.aload_n 0, 1) := by decide +kernel
theorem dX10_hearComplaint_27 : decode cX10_hearComplaint 27 = .ok (.getfield 36, 3) := by decide +kernel
theorem dX10_hearComplaint_30 : decode cX10_hearComplaint 30 = .ok (.getfield 179, 3) := by decide +kernel
theorem dX10_hearComplaint_33 : decode cX10_hearComplaint 33 = .ok (.iload_n 1, 1) := by decide +kernel
theorem dX10_hearComplaint_34 : decode cX10_hearComplaint 34 = .ok (.baload, 1) := by decide +kernel
theorem dX10_hearComplaint_35 : decode cX10_hearComplaint 35 = .ok (.ifCond .eq 4, 3) := by decide +kernel
theorem dX10_hearComplaint_38 : decode cX10_hearComplaint 38 = .ok (.return_, 1) := by decide +kernel
theorem dX10_hearComplaint_39 : decode cX10_hearComplaint 39 = .ok (.aload_n 0, 1) := by decide +kernel
theorem dX10_hearComplaint_40 : decode cX10_hearComplaint 40 = .ok (.aload_n 0, 1) := by decide +kernel
theorem dX10_hearComplaint_41 : decode cX10_hearComplaint 41 = .ok (.getfield 9, 3) := by decide +kernel
theorem dX10_hearComplaint_44 : decode cX10_hearComplaint 44 = .ok (.getfield 200, 3) := by decide +kernel
theorem dX10_hearComplaint_47 : decode cX10_hearComplaint 47 = .ok (.iload_n 1, 1) := by decide +kernel
theorem dX10_hearComplaint_48 : decode cX10_hearComplaint 48 = .ok (.iload_n 2, 1) := by decide +kernel
theorem dX10_hearComplaint_49 : decode cX10_hearComplaint 49 = .ok (.invokevirtual 139, 3) := by decide +kernel
theorem dX10_hearComplaint_52 : decode cX10_hearComplaint 52 = .ok (.ifCond .eq 26, 3) := by decide +kernel
theorem dX10_hearComplaint_55 : decode cX10_hearComplaint 55 = .ok (.aload_n 0, 1) := by decide +kernel
theorem dX10_hearComplaint_56 : decode cX10_hearComplaint 56 = .ok (.getfield 36, 3) := by decide +kernel
theorem dX10_hearComplaint_59 : decode cX10_hearComplaint 59 = .ok (.getfield 179, 3) := by decide +kernel
theorem dX10_hearComplaint_62 : decode cX10_hearComplaint 62 = .ok (.iload_n 1, 1) := by decide +kernel
theorem dX10_hearComplaint_63 : decode cX10_hearComplaint 63 = .ok (.iconst 1, 1) := by decide +kernel
theorem dX10_hearComplaint_64 : decode cX10_hearComplaint 64 = .ok (.bastore, 1) := by decide +kernel
theorem dX10_hearComplaint_65 : decode cX10_hearComplaint 65 = .ok (.aload_n 0, 1) := by decide +kernel
theorem dX10_hearComplaint_66 : decode cX10_hearComplaint 66 = .ok (.getfield 36, 3) := by decide +kernel
theorem dX10_hearComplaint_69 : decode cX10_hearComplaint 69 = .ok (.getfield 203, 3) := by decide +kernel
theorem dX10_hearComplaint_72 : decode cX10_hearComplaint 72 = .ok (.iload_n 1, 1) := by decide +kernel
theorem dX10_hearComplaint_73 : decode cX10_hearComplaint 73 = .ok (.dup2, 1) := by decide +kernel
theorem dX10_hearComplaint_74 : decode cX10_hearComplaint 74 = .ok (.iaload, 1) := by decide +kernel
theorem dX10_hearComplaint_75 : decode cX10_hearComplaint 75 = .ok (.iconst 1, 1) := by decide +kernel
theorem dX10_hearComplaint_76 : decode cX10_hearComplaint 76 = .ok (.iadd, 1) := by decide +kernel
theorem dX10_hearComplaint_77 : decode cX10_hearComplaint 77 = .ok (.iastore, 1) := by decide +kernel
theorem dX10_hearComplaint_78 : decode cX10_hearComplaint 78 = .ok (.return_, 1) := by decide +kernel
theorem dX10_holds_0 : decode cX10_holds 0 = .ok (.aload_n 0, 1) := by decide +kernel
theorem dX10_holds_1 : decode cX10_holds 1 = .ok (.getfield 29, 3) := by decide +kernel
theorem dX10_holds_4 : decode cX10_holds 4 = .ok (.iconst 0, 1) := by decide +kernel
theorem dX10_holds_5 : decode cX10_holds 5 = .ok (.iload_n 3, 1) := by decide +kernel
theorem dX10_holds_6 : decode cX10_holds 6 = .ok (.aload_n 0, 1) := by decide +kernel
theorem dX10_holds_7 : decode cX10_holds 7 = .ok (.getfield 36, 3) := by decide +kernel
theorem dX10_holds_10 : decode cX10_holds 10 = .ok (.getfield 123, 3) := by decide +kernel
theorem dX10_holds_13 : decode cX10_holds 13 = .ok (.iload_n 2, 1) := by decide +kernel
theorem dX10_holds_14 : decode cX10_holds 14 = .ok (.iaload, 1) := by decide +kernel
theorem dX10_holds_15 : decode cX10_holds 15 = .ok (.isub, 1) := by decide +kernel
theorem dX10_holds_16 : decode cX10_holds 16 = .ok (.i2l, 1) := by decide +kernel
theorem dX10_holds_17 : decode cX10_holds 17 = .ok (.lastore, 1) := by decide +kernel
theorem dX10_holds_18 : decode cX10_holds 18 = .ok (.aload_n 0, 1) := by decide +kernel
theorem dX10_holds_19 : decode cX10_holds 19 = .ok (.getfield 29, 3) := by decide +kernel
theorem dX10_holds_22 : decode cX10_holds 22 = .ok (.iconst 1, 1) := by decide +kernel
theorem dX10_holds_23 : decode cX10_holds 23 = .ok (.aload_n 0, 1) := by decide +kernel
theorem dX10_holds_24 : decode cX10_holds 24 = .ok (.iload_n 2, 1) := by decide +kernel
theorem dX10_holds_25 : decode cX10_holds 25 = .ok (.invokevirtual 188, 3) := by decide +kernel
theorem dX10_holds_28 : decode cX10_holds 28 = .ok (.i2l, 1) := by decide +kernel
theorem dX10_holds_29 : decode cX10_holds 29 = .ok (.lastore, 1) := by decide +kernel
theorem dX10_holds_30 : decode cX10_holds 30 = .ok (.aload_n 0, 1) := by decide +kernel
theorem dX10_holds_31 : decode cX10_holds 31 = .ok (.getfield 29, 3) := by decide +kernel
theorem dX10_holds_34 : decode cX10_holds 34 = .ok (.iconst 2, 1) := by decide +kernel
theorem dX10_holds_35 : decode cX10_holds 35 = .ok (.aload_n 0, 1) := by decide +kernel
theorem dX10_holds_36 : decode cX10_holds 36 = .ok (.getfield 36, 3) := by decide +kernel
theorem dX10_holds_39 : decode cX10_holds 39 = .ok (.getfield 170, 3) := by decide +kernel
theorem dX10_holds_42 : decode cX10_holds 42 = .ok (.iload_n 2, 1) := by decide +kernel
theorem dX10_holds_43 : decode cX10_holds 43 = .ok (.iaload, 1) := by decide +kernel
theorem dX10_holds_44 : decode cX10_holds 44 = .ok (.i2l, 1) := by decide +kernel
theorem dX10_holds_45 : decode cX10_holds 45 = .ok (.lastore, 1) := by decide +kernel
theorem dX10_holds_46 : decode cX10_holds 46 = .ok (.aload_n 0, 1) := by decide +kernel
theorem dX10_holds_47 : decode cX10_holds 47 = .ok (.getfield 29, 3) := by decide +kernel
theorem dX10_holds_50 : decode cX10_holds 50 = .ok (.iconst 3, 1) := by decide +kernel
theorem dX10_holds_51 : decode cX10_holds 51 = .ok (.aload_n 0, 1) := by decide +kernel
theorem dX10_holds_52 : decode cX10_holds 52 = .ok (.getfield 9, 3) := by decide +kernel
theorem dX10_holds_55 : decode cX10_holds 55 = .ok (.getfield 57, 3) := by decide +kernel
theorem dX10_holds_58 : decode cX10_holds 58 = .ok (.iload_n 2, 1) := by decide +kernel
theorem dX10_holds_59 : decode cX10_holds 59 = .ok (.aaload, 1) := by decide +kernel
theorem dX10_holds_60 : decode cX10_holds 60 = .ok (.getfield 197, 3) := by decide +kernel
theorem dX10_holds_63 : decode cX10_holds 63 = .ok (.i2l, 1) := by decide +kernel
theorem dX10_holds_64 : decode cX10_holds 64 = .ok (.lastore, 1) := by decide +kernel
theorem dX10_holds_65 : decode cX10_holds 65 = .ok (.aload_n 0, 1) := by decide +kernel
theorem dX10_holds_66 : decode cX10_holds 66 = .ok (.getfield 29, 3) := by decide +kernel
theorem dX10_holds_69 : decode cX10_holds 69 = .ok (.iconst 4, 1) := by decide +kernel
theorem dX10_holds_70 : decode cX10_holds 70 = .ok (.aload_n 0, 1) := by decide +kernel
theorem dX10_holds_71 : decode cX10_holds 71 = .ok (.getfield 9, 3) := by decide +kernel
theorem dX10_holds_74 : decode cX10_holds 74 = .ok (.getfield 57, 3) := by decide +kernel
theorem dX10_holds_77 : decode cX10_holds 77 = .ok (.iload_n 2, 1) := by decide +kernel
theorem dX10_holds_78 : decode cX10_holds 78 = .ok (.aaload, 1) := by decide +kernel
theorem dX10_holds_79 : decode cX10_holds 79 = .ok (.getfield 176, 3) := by decide +kernel
theorem dX10_holds_82 : decode cX10_holds 82 = .ok (.i2l, 1) := by decide +kernel
theorem dX10_holds_83 : decode cX10_holds 83 = .ok (.lastore, 1) := by decide +kernel
theorem dX10_holds_84 : decode cX10_holds 84 = .ok (.aload_n 0, 1) := by decide +kernel
theorem dX10_holds_85 : decode cX10_holds 85 = .ok (.getfield 29, 3) := by decide +kernel
theorem dX10_holds_88 : decode cX10_holds 88 = .ok (.iconst 5, 1) := by decide +kernel
theorem dX10_holds_89 : decode cX10_holds 89 = .ok (.iload_n 3, 1) := by decide +kernel
theorem dX10_holds_90 : decode cX10_holds 90 = .ok (.i2l, 1) := by decide +kernel
theorem dX10_holds_91 : decode cX10_holds 91 = .ok (.lastore, 1) := by decide +kernel
theorem dX10_holds_92 : decode cX10_holds 92 = .ok (.aload_n 1, 1) := by decide +kernel
theorem dX10_holds_93 : decode cX10_holds 93 = .ok (.aload_n 0, 1) := by decide +kernel
theorem dX10_holds_94 : decode cX10_holds 94 = .ok (.getfield 29, 3) := by decide +kernel
theorem dX10_holds_97 : decode cX10_holds 97 = .ok (.aload_n 0, 1) := by decide +kernel
theorem dX10_holds_98 : decode cX10_holds 98 = .ok (.getfield 33, 3) := by decide +kernel
theorem dX10_holds_101 : decode cX10_holds 101 = .ok (.invokevirtual 206, 3) := by decide +kernel
theorem dX10_holds_104 : decode cX10_holds 104 = .ok (.lstore 4, 2) := by decide +kernel
theorem dX10_holds_106 : decode cX10_holds 106 = .ok (.lload 4, 2) := by decide +kernel
theorem dX10_holds_108 : decode cX10_holds 108 = .ok (.lconst 0, 1) := by decide +kernel
theorem dX10_holds_109 : decode cX10_holds 109 = .ok (.lcmp, 1) := by decide +kernel
theorem dX10_holds_110 : decode cX10_holds 110 = .ok (.ifCond .eq 16, 3) := by decide +kernel
theorem dX10_holds_113 : decode cX10_holds 113 = .ok (.lload 4, 2) := by decide +kernel
theorem dX10_holds_115 : decode cX10_holds 115 = .ok (.ldc2_w 210, 3) := by decide +kernel
theorem dX10_holds_118 : decode cX10_holds 118 = .ok (.lcmp, 1) := by decide +kernel
theorem dX10_holds_119 : decode cX10_holds 119 = .ok (.ifCond .eq 7, 3) := by decide +kernel
theorem dX10_holds_122 : decode cX10_holds 122 = .ok (.iconst 1, 1) := by decide +kernel
theorem dX10_holds_123 : decode cX10_holds 123 = .ok (.goto 4, 3) := by decide +kernel
theorem dX10_holds_126 : decode cX10_holds 126 = .ok (.iconst 0, 1) := by decide +kernel
theorem dX10_holds_127 : decode cX10_holds 127 = .ok (.ireturn, 1) := by decide +kernel
theorem dX11_init_0 : decode cX11_init 0 = .ok (.aload_n 0, 1) := by decide +kernel
theorem dX11_init_1 : decode cX11_init 1 = .ok (.invokespecial 3, 3) := by decide +kernel
theorem dX11_init_4 : decode cX11_init 4 = .ok (.aload_n 0, 1) := by decide +kernel
theorem dX11_init_5 : decode cX11_init 5 = .ok (.sipush 900, 3) := by decide +kernel
theorem dX11_init_8 : decode cX11_init 8 = .ok (.newarray .byte, 2) := by decide +kernel
theorem dX11_init_10 : decode cX11_init 10 = .ok (.putfield 11, 3) := by decide +kernel
theorem dX11_init_13 : decode cX11_init 13 = .ok (.aload_n 0, 1) := by decide +kernel
theorem dX11_init_14 : decode cX11_init 14 = .ok (.iconst 0, 1) := by decide +kernel
theorem dX11_init_15 : decode cX11_init 15 = .ok (.putfield 15, 3) := by decide +kernel
theorem dX11_init_18 : decode cX11_init 18 = .ok (.aload_n 0, 1) := by decide +kernel
theorem dX11_init_19 : decode cX11_init 19 = .ok (.new 19, 3) := by decide +kernel
theorem dX11_init_22 : decode cX11_init 22 = .ok (.dup, 1) := by decide +kernel
theorem dX11_init_23 : decode cX11_init 23 = .ok (.invokespecial 21, 3) := by decide +kernel
theorem dX11_init_26 : decode cX11_init 26 = .ok (.putfield 22, 3) := by decide +kernel
theorem dX11_init_29 : decode cX11_init 29 = .ok (.aload_n 0, 1) := by decide +kernel
theorem dX11_init_30 : decode cX11_init 30 = .ok (.new 19, 3) := by decide +kernel
theorem dX11_init_33 : decode cX11_init 33 = .ok (.dup, 1) := by decide +kernel
theorem dX11_init_34 : decode cX11_init 34 = .ok (.invokespecial 21, 3) := by decide +kernel
theorem dX11_init_37 : decode cX11_init 37 = .ok (.putfield 26, 3) := by decide +kernel
theorem dX11_init_40 : decode cX11_init 40 = .ok (.aload_n 0, 1) := by decide +kernel
theorem dX11_init_41 : decode cX11_init 41 = .ok (.new 29, 3) := by decide +kernel
theorem dX11_init_44 : decode cX11_init 44 = .ok (.dup, 1) := by decide +kernel
theorem dX11_init_45 : decode cX11_init 45 = .ok (.invokespecial 31, 3) := by decide +kernel
theorem dX11_init_48 : decode cX11_init 48 = .ok (.putfield 32, 3) := by decide +kernel
theorem dX11_init_51 : decode cX11_init 51 = .ok (.aload_n 0, 1) := by decide +kernel
theorem dX11_init_52 : decode cX11_init 52 = .ok (.new 36, 3) := by decide +kernel
theorem dX11_init_55 : decode cX11_init 55 = .ok (.dup, 1) := by decide +kernel
theorem dX11_init_56 : decode cX11_init 56 = .ok (.aconst_null, 1) := by decide +kernel
theorem dX11_init_57 : decode cX11_init 57 = .ok (.invokespecial 38, 3) := by decide +kernel
theorem dX11_init_60 : decode cX11_init 60 = .ok (.putfield 41, 3) := by decide +kernel
theorem dX11_init_63 : decode cX11_init 63 = .ok (.aload_n 0, 1) := by decide +kernel
theorem dX11_init_64 : decode cX11_init 64 = .ok (.aconst_null, 1) := by decide +kernel
theorem dX11_init_65 : decode cX11_init 65 = .ok (.putfield 45, 3) := by decide +kernel
theorem dX11_init_68 : decode cX11_init 68 = .ok (.aload_n 0, 1) := by decide +kernel
theorem dX11_init_69 : decode cX11_init 69 = .ok (.iconst 0, 1) := by decide +kernel
theorem dX11_init_70 : decode cX11_init 70 = .ok (.putfield 48, 3) := by decide +kernel
theorem dX11_init_73 : decode cX11_init 73 = .ok (.aload_n 0, 1) := by decide +kernel
theorem dX11_init_74 : decode cX11_init 74 = .ok (.aconst_null, 1) := by decide +kernel
theorem dX11_init_75 : decode cX11_init 75 = .ok (.putfield 52, 3) := by decide +kernel
theorem dX11_init_78 : decode cX11_init 78 = .ok (.aload_n 0, 1) := by decide +kernel
theorem dX11_init_79 : decode cX11_init 79 = .ok (.aconst_null, 1) := by decide +kernel
theorem dX11_init_80 : decode cX11_init 80 = .ok (.putfield 56, 3) := by decide +kernel
theorem dX11_init_83 : decode cX11_init 83 = .ok (.aload_n 0, 1) := by decide +kernel
theorem dX11_init_84 : decode cX11_init 84 = .ok (.aconst_null, 1) := by decide +kernel
theorem dX11_init_85 : decode cX11_init 85 = .ok (.putfield 60, 3) := by decide +kernel
theorem dX11_init_88 : decode cX11_init 88 = .ok (.aload_n 0, 1) := by decide +kernel
theorem dX11_init_89 : decode cX11_init 89 = .ok (.iconst 0, 1) := by decide +kernel
theorem dX11_init_90 : decode cX11_init 90 = .ok (.putfield 64, 3) := by decide +kernel
theorem dX11_init_93 : decode cX11_init 93 = .ok (.aload_n 0, 1) := by decide +kernel
theorem dX11_init_94 : decode cX11_init 94 = .ok (.iconst (-1), 1) := by decide +kernel
theorem dX11_init_95 : decode cX11_init 95 = .ok (.putfield 67, 3) := by decide +kernel
theorem dX11_init_98 : decode cX11_init 98 = .ok (.return_, 1) := by decide +kernel
theorem dX11_feed_0 : decode cX11_feed 0 = .ok (.aload_n 0, 1) := by decide +kernel
theorem dX11_feed_1 : decode cX11_feed 1 = .ok (.getfield 15, 3) := by decide +kernel
theorem dX11_feed_4 : decode cX11_feed 4 = .ok (.bipush 20, 2) := by decide +kernel
theorem dX11_feed_6 : decode cX11_feed 6 = .ok (.iadd, 1) := by decide +kernel
theorem dX11_feed_7 : decode cX11_feed 7 = .ok (.sipush 900, 3) := by decide +kernel
theorem dX11_feed_10 : decode cX11_feed 10 = .ok (.if_icmp .le 5, 3) := by decide +kernel
theorem dX11_feed_13 : decode cX11_feed 13 = .ok (.iconst (-1), 1) := by decide +kernel
theorem dX11_feed_14 : decode cX11_feed 14 = .ok (.ireturn, 1) := by decide +kernel
theorem dX11_feed_15 : decode cX11_feed 15 = .ok (.aload_n 0, 1) := by decide +kernel
theorem dX11_feed_16 : decode cX11_feed 16 = .ok (.iload_n 1, 1) := by decide +kernel
theorem dX11_feed_17 : decode cX11_feed 17 = .ok (.invokevirtual 70, 3) := by decide +kernel
theorem dX11_feed_20 : decode cX11_feed 20 = .ok (.aload_n 0, 1) := by decide +kernel
theorem dX11_feed_21 : decode cX11_feed 21 = .ok (.iload_n 2, 1) := by decide +kernel
theorem dX11_feed_22 : decode cX11_feed 22 = .ok (.invokevirtual 70, 3) := by decide +kernel
theorem dX11_feed_25 : decode cX11_feed 25 = .ok (.aload_n 0, 1) := by decide +kernel
theorem dX11_feed_26 : decode cX11_feed 26 = .ok (.iload_n 3, 1) := by decide +kernel
theorem dX11_feed_27 : decode cX11_feed 27 = .ok (.invokevirtual 70, 3) := by decide +kernel
theorem dX11_feed_30 : decode cX11_feed 30 = .ok (.aload_n 0, 1) := by decide +kernel
theorem dX11_feed_31 : decode cX11_feed 31 = .ok (.iload 4, 2) := by decide +kernel
theorem dX11_feed_33 : decode cX11_feed 33 = .ok (.invokevirtual 70, 3) := by decide +kernel
theorem dX11_feed_36 : decode cX11_feed 36 = .ok (.aload_n 0, 1) := by decide +kernel
theorem dX11_feed_37 : decode cX11_feed 37 = .ok (.iload 5, 2) := by decide +kernel
theorem dX11_feed_39 : decode cX11_feed 39 = .ok (.invokevirtual 70, 3) := by decide +kernel
theorem dX11_feed_42 : decode cX11_feed 42 = .ok (.aload_n 0, 1) := by decide +kernel
theorem dX11_feed_43 : decode cX11_feed 43 = .ok (.getfield 15, 3) := by decide +kernel
theorem dX11_feed_46 : decode cX11_feed 46 = .ok (.ireturn, 1) := by decide +kernel
theorem dX11_text_0 : decode cX11_text 0 = .ok (.iload_n 1, 1) := by decide +kernel
theorem dX11_text_1 : decode cX11_text 1 = .ok (.ifCond .lt 11, 3) := by decide +kernel
theorem dX11_text_4 : decode cX11_text 4 = .ok (.iload_n 1, 1) := by decide +kernel
theorem dX11_text_5 : decode cX11_text 5 = .ok (.aload_n 0, 1) := by decide +kernel
theorem dX11_text_6 : decode cX11_text 6 = .ok (.getfield 15, 3) := by decide +kernel
theorem dX11_text_9 : decode cX11_text 9 = .ok (.if_icmp .le 6, 3) := by decide +kernel
theorem dX11_text_12 : decode cX11_text 12 = .ok (.bipush (-2), 2) := by decide +kernel
theorem dX11_text_14 : decode cX11_text 14 = .ok (.ireturn, 1) := by decide +kernel
theorem dX11_text_15 : decode cX11_text 15 = .ok (.aload_n 0, 1) := by decide +kernel
theorem dX11_text_16 : decode cX11_text 16 = .ok (.iconst 0, 1) := by decide +kernel
theorem dX11_text_17 : decode cX11_text 17 = .ok (.putfield 15, 3) := by decide +kernel
theorem dX11_text_20 : decode cX11_text 20 = .ok (.aload_n 0, 1) := by decide +kernel
theorem dX11_text_21 : decode cX11_text 21 = .ok (.getfield 32, 3) := by decide +kernel
theorem dX11_text_24 : decode cX11_text 24 = .ok (.aload_n 0, 1) := by decide +kernel
theorem dX11_text_25 : decode cX11_text 25 = .ok (.getfield 11, 3) := by decide +kernel
theorem dX11_text_28 : decode cX11_text 28 = .ok (.iload_n 1, 1) := by decide +kernel
theorem dX11_text_29 : decode cX11_text 29 = .ok (.aload_n 0, 1) := by decide +kernel
theorem dX11_text_30 : decode cX11_text 30 = .ok (.getfield 26, 3) := by decide +kernel
theorem dX11_text_33 : decode cX11_text 33 = .ok (.invokevirtual 74, 3) := by decide +kernel
theorem dX11_text_36 : decode cX11_text 36 = .ok (.istore_n 2, 1) := by decide +kernel
theorem dX11_text_37 : decode cX11_text 37 = .ok (.aload_n 0, 1) := by decide +kernel
theorem dX11_text_38 : decode cX11_text 38 = .ok (.aload_n 0, 1) := by decide +kernel
theorem dX11_text_39 : decode cX11_text 39 = .ok (.getfield 32, 3) := by decide +kernel
theorem dX11_text_42 : decode cX11_text 42 = .ok (.getfield 78, 3) := by decide +kernel
theorem dX11_text_45 : decode cX11_text 45 = .ok (.putfield 64, 3) := by decide +kernel
theorem dX11_text_48 : decode cX11_text 48 = .ok (.aload_n 0, 1) := by decide +kernel
theorem dX11_text_49 : decode cX11_text 49 = .ok (.aload_n 0, 1) := by decide +kernel
theorem dX11_text_50 : decode cX11_text 50 = .ok (.getfield 32, 3) := by decide +kernel
theorem dX11_text_53 : decode cX11_text 53 = .ok (.getfield 79, 3) := by decide +kernel
theorem dX11_text_56 : decode cX11_text 56 = .ok (.putfield 67, 3) := by decide +kernel
theorem dX11_text_59 : decode cX11_text 59 = .ok (.iload_n 2, 1) := by decide +kernel
theorem dX11_text_60 : decode cX11_text 60 = .ok (.ifCond .ne 5, 3) := by decide +kernel
theorem dX11_text_63 : decode cX11_text 63 = .ok (.iconst (-1), 1) := by decide +kernel
theorem dX11_text_64 : decode cX11_text 64 = .ok (.ireturn, 1) := by decide +kernel
theorem dX11_text_65 : decode cX11_text 65 = .ok (.aload_n 0, 1) := by decide +kernel
theorem dX11_text_66 : decode cX11_text 66 = .ok (.getfield 22, 3) := by decide +kernel
theorem dX11_text_69 : decode cX11_text 69 = .ok (.astore_n 3, 1) := by decide +kernel
theorem dX11_text_70 : decode cX11_text 70 = .ok (.aload_n 0, 1) := by decide +kernel
theorem dX11_text_71 : decode cX11_text 71 = .ok (.aload_n 0, 1) := by decide +kernel
theorem dX11_text_72 : decode cX11_text 72 = .ok (.getfield 26, 3) := by decide +kernel
theorem dX11_text_75 : decode cX11_text 75 = .ok (.putfield 22, 3) := by decide +kernel
theorem dX11_text_78 : decode cX11_text 78 = .ok (.aload_n 0, 1) := by decide +kernel
theorem dX11_text_79 : decode cX11_text 79 = .ok (.aload_n 3, 1) := by decide +kernel
theorem dX11_text_80 : decode cX11_text 80 = .ok (.putfield 26, 3) := by decide +kernel
theorem dX11_text_83 : decode cX11_text 83 = .ok (.aload_n 0, 1) := by decide +kernel
theorem dX11_text_84 : decode cX11_text 84 = .ok (.invokevirtual 80, 3) := by decide +kernel
theorem dX11_text_87 : decode cX11_text 87 = .ok (.aload_n 0, 1) := by decide +kernel
theorem dX11_text_88 : decode cX11_text 88 = .ok (.getfield 22, 3) := by decide +kernel
theorem dX11_text_91 : decode cX11_text 91 = .ok (.getfield 83, 3) := by decide +kernel
theorem dX11_text_94 : decode cX11_text 94 = .ok (.ireturn, 1) := by decide +kernel
theorem dX11_fault_0 : decode cX11_fault 0 = .ok (.iload_n 1, 1) := by decide +kernel
theorem dX11_fault_1 : decode cX11_fault 1 = .ok (.lookupswitch 37 #[(0, 27), (1, 32)], 27) := by decide +kernel
theorem dX11_fault_28 : decode cX11_fault 28 = .ok (.aload_n 0, 1) := by decide +kernel
theorem dX11_fault_29 : decode cX11_fault 29 = .ok (.getfield 64, 3) := by decide +kernel
theorem dX11_fault_32 : decode cX11_fault 32 = .ok (.ireturn, 1) := by decide +kernel
theorem dX11_fault_33 : decode cX11_fault 33 = .ok (.aload_n 0, 1) := by decide +kernel
theorem dX11_fault_34 : decode cX11_fault 34 = .ok (.getfield 67, 3) := by decide +kernel
theorem dX11_fault_37 : decode cX11_fault 37 = .ok (.ireturn, 1) := by decide +kernel
theorem dX11_fault_38 : decode cX11_fault 38 = .ok (.iconst (-1), 1) := by decide +kernel
theorem dX11_fault_39 : decode cX11_fault 39 = .ok (.ireturn, 1) := by decide +kernel
theorem dX11_named_0 : decode cX11_named 0 = .ok (.iload_n 1, 1) := by decide +kernel
theorem dX11_named_1 : decode cX11_named 1 = .ok (.tableswitch 70 0 3 #[31, 43, 52, 61], 31) := by decide +kernel
theorem dX11_named_32 : decode cX11_named 32 = .ok (.aload_n 0, 1) := by decide +kernel
theorem dX11_named_33 : decode cX11_named 33 = .ok (.getfield 22, 3) := by decide +kernel
theorem dX11_named_36 : decode cX11_named 36 = .ok (.getfield 86, 3) := by decide +kernel
theorem dX11_named_39 : decode cX11_named 39 = .ok (.iload_n 2, 1) := by decide +kernel
theorem dX11_named_40 : decode cX11_named 40 = .ok (.invokevirtual 90, 3) := by decide +kernel
theorem dX11_named_43 : decode cX11_named 43 = .ok (.ireturn, 1) := by decide +kernel
theorem dX11_named_44 : decode cX11_named 44 = .ok (.aload_n 0, 1) := by decide +kernel
theorem dX11_named_45 : decode cX11_named 45 = .ok (.getfield 22, 3) := by decide +kernel
theorem dX11_named_48 : decode cX11_named 48 = .ok (.iload_n 2, 1) := by decide +kernel
theorem dX11_named_49 : decode cX11_named 49 = .ok (.invokevirtual 96, 3) := by decide +kernel
theorem dX11_named_52 : decode cX11_named 52 = .ok (.ireturn, 1) := by decide +kernel
theorem dX11_named_53 : decode cX11_named 53 = .ok (.aload_n 0, 1) := by decide +kernel
theorem dX11_named_54 : decode cX11_named 54 = .ok (.getfield 22, 3) := by decide +kernel
theorem dX11_named_57 : decode cX11_named 57 = .ok (.iload_n 2, 1) := by decide +kernel
theorem dX11_named_58 : decode cX11_named 58 = .ok (.invokevirtual 99, 3) := by decide +kernel
theorem dX11_named_61 : decode cX11_named 61 = .ok (.ireturn, 1) := by decide +kernel
theorem dX11_named_62 : decode cX11_named 62 = .ok (.aload_n 0, 1) := by decide +kernel
theorem dX11_named_63 : decode cX11_named 63 = .ok (.getfield 22, 3) := by decide +kernel
theorem dX11_named_66 : decode cX11_named 66 = .ok (.iload_n 2, 1) := by decide +kernel
theorem dX11_named_67 : decode cX11_named 67 = .ok (.invokevirtual 102, 3) := by decide +kernel
theorem dX11_named_70 : decode cX11_named 70 = .ok (.ireturn, 1) := by decide +kernel
theorem dX11_named_71 : decode cX11_named 71 = .ok (.iconst (-1), 1) := by decide +kernel
theorem dX11_named_72 : decode cX11_named 72 = .ok (.ireturn, 1) := by decide +kernel
theorem dX11_look_0 : decode cX11_look 0 = .ok (.aload_n 0, 1) := by decide +kernel
theorem dX11_look_1 : decode cX11_look 1 = .ok (.getfield 22, 3) := by decide +kernel
theorem dX11_look_4 : decode cX11_look 4 = .ok (.iload_n 1, 1) := by decide +kernel
theorem dX11_look_5 : decode cX11_look 5 = .ok (.invokevirtual 105, 3) := by decide +kernel
theorem dX11_look_8 : decode cX11_look 8 = .ok (.ifCond .ne 11, 3) := by decide +kernel
theorem dX11_look_11 : decode cX11_look 11 = .ok (.new 109, 3) := by decide +kernel
theorem dX11_look_14 : decode cX11_look 14 = .ok (.dup, 1) := by decide +kernel
theorem dX11_look_15 : decode cX11_look 15 = .ok (.invokespecial 111, 3) := by decide +kernel
theorem dX11_look_18 : decode cX11_look 18 = .ok (.athrow, 1) := by decide +kernel
theorem dX11_look_19 : decode cX11_look 19 = .ok (.aload_n 0, 1) := by decide +kernel
theorem dX11_look_20 : decode cX11_look 20 = .ok (.getfield 22, 3) := by decide +kernel
theorem dX11_look_23 : decode cX11_look 23 = .ok (.getfield 112, 3) := by decide +kernel
theorem dX11_look_26 : decode cX11_look 26 = .ok (.iload_n 1, 1) := by decide +kernel
theorem dX11_look_27 : decode cX11_look 27 = .ok (.aaload, 1) := by decide +kernel
theorem dX11_look_28 : decode cX11_look 28 = .ok (.astore_n 3, 1) := by decide +kernel
theorem dX11_look_29 : decode cX11_look 29 = .ok (.iload_n 2, 1) := by decide +kernel
theorem dX11_look_30 : decode cX11_look 30 = .ok (.tableswitch 108 0 8 #[50, 55, 65, 70, 75, 80, 85, 90, 103], 50) := by decide +kernel
theorem dX11_look_80 : decode cX11_look 80 = .ok (.aload_n 3, 1) := by decide +kernel
theorem dX11_look_81 : decode cX11_look 81 = .ok (.getfield 116, 3) := by decide +kernel
theorem dX11_look_84 : decode cX11_look 84 = .ok (.ireturn, 1) := by decide +kernel
theorem dX11_look_85 : decode cX11_look 85 = .ok (.aload_n 0, 1) := by decide +kernel
theorem dX11_look_86 : decode cX11_look 86 = .ok (.getfield 41, 3) := by decide +kernel
theorem dX11_look_89 : decode cX11_look 89 = .ok (.getfield 121, 3) := by decide +kernel
theorem dX11_look_92 : decode cX11_look 92 = .ok (.iload_n 1, 1) := by decide +kernel
theorem dX11_look_93 : decode cX11_look 93 = .ok (.iaload, 1) := by decide +kernel
theorem dX11_look_94 : decode cX11_look 94 = .ok (.ireturn, 1) := by decide +kernel
theorem dX11_look_95 : decode cX11_look 95 = .ok (.aload_n 3, 1) := by decide +kernel
theorem dX11_look_96 : decode cX11_look 96 = .ok (.getfield 125, 3) := by decide +kernel
theorem dX11_look_99 : decode cX11_look 99 = .ok (.ireturn, 1) := by decide +kernel
theorem dX11_look_100 : decode cX11_look 100 = .ok (.aload_n 3, 1) := by decide +kernel
theorem dX11_look_101 : decode cX11_look 101 = .ok (.getfield 128, 3) := by decide +kernel
theorem dX11_look_104 : decode cX11_look 104 = .ok (.ireturn, 1) := by decide +kernel
theorem dX11_look_105 : decode cX11_look 105 = .ok (.aload_n 3, 1) := by decide +kernel
theorem dX11_look_106 : decode cX11_look 106 = .ok (.getfield 131, 3) := by decide +kernel
theorem dX11_look_109 : decode cX11_look 109 = .ok (.ireturn, 1) := by decide +kernel
theorem dX11_look_110 : decode cX11_look 110 = .ok (.aload_n 3, 1) := by decide +kernel
theorem dX11_look_111 : decode cX11_look 111 = .ok (.getfield 134, 3) := by decide +kernel
theorem dX11_look_114 : decode cX11_look 114 = .ok (.ireturn, 1) := by decide +kernel
theorem dX11_look_115 : decode cX11_look 115 = .ok (.aload_n 3, 1) := by decide +kernel
theorem dX11_look_116 : decode cX11_look 116 = .ok (.getfield 137, 3) := by decide +kernel
theorem dX11_look_119 : decode cX11_look 119 = .ok (.ireturn, 1) := by decide +kernel
theorem dX11_look_120 : decode cX11_look 120 = .ok (.aload_n 3, 1) := by decide +kernel
theorem dX11_look_121 : decode cX11_look 121 = .ok (.getfield 140, 3) := by decide +kernel
theorem dX11_look_124 : decode cX11_look 124 = .ok (.ifCond .eq 7, 3) := by decide +kernel
theorem dX11_look_127 : decode cX11_look 127 = .ok (.iconst 1, 1) := by decide +kernel
theorem dX11_look_128 : decode cX11_look 128 = .ok (.goto 4, 3) := by decide +kernel
theorem dX11_look_131 : decode cX11_look 131 = .ok (.iconst 0, 1) := by decide +kernel
theorem dX11_look_132 : decode cX11_look 132 = .ok (.ireturn, 1) := by decide +kernel
theorem dX11_look_133 : decode cX11_look 133 = .ok (.aload_n 3, 1) := by decide +kernel
theorem dX11_look_134 : decode cX11_look 134 = .ok (.getfield 143, 3) := by decide +kernel
theorem dX11_look_137 : decode cX11_look 137 = .ok (.ireturn, 1) := by decide +kernel
theorem dX11_look_138 : decode cX11_look 138 = .ok (.new 146, 3) := by decide +kernel
theorem dX11_look_141 : decode cX11_look 141 = .ok (.dup, 1) := by decide +kernel
theorem dX11_look_142 : decode cX11_look 142 = .ok (.invokespecial 148, 3) := by decide +kernel
theorem dX11_look_145 : decode cX11_look 145 = .ok (.athrow, 1) := by decide +kernel
theorem dX11_front_0 : decode cX11_front 0 = .ok (.aload_n 0, 1) := by decide +kernel
theorem dX11_front_1 : decode cX11_front 1 = .ok (.getfield 22, 3) := by decide +kernel
theorem dX11_front_4 : decode cX11_front 4 = .ok (.iload_n 1, 1) := by decide +kernel
theorem dX11_front_5 : decode cX11_front 5 = .ok (.invokevirtual 149, 3) := by decide +kernel
theorem dX11_front_8 : decode cX11_front 8 = .ok (.ifCond .ne 5, 3) := by decide +kernel
theorem dX11_front_11 : decode cX11_front 11 = .ok (.iconst (-1), 1) := by decide +kernel
theorem dX11_front_12 : decode cX11_front 12 = .ok (.ireturn, 1) := by decide +kernel
theorem dX11_front_13 : decode cX11_front 13 = .ok (.aload_n 0, 1) := by decide +kernel
theorem dX11_front_14 : decode cX11_front 14 = .ok (.getfield 22, 3) := by decide +kernel
theorem dX11_front_17 : decode cX11_front 17 = .ok (.getfield 152, 3) := by decide +kernel
theorem dX11_front_20 : decode cX11_front 20 = .ok (.iload_n 1, 1) := by decide +kernel
theorem dX11_front_21 : decode cX11_front 21 = .ok (.aaload, 1) := by decide +kernel
theorem dX11_front_22 : decode cX11_front 22 = .ok (.astore_n 3, 1) := by decide +kernel
theorem dX11_front_23 : decode cX11_front 23 = .ok (.iload_n 2, 1) := by decide +kernel
theorem dX11_front_24 : decode cX11_front 24 = .ok (.tableswitch 61 0 4 #[36, 41, 46, 51, 56], 36) := by decide +kernel
theorem dX11_front_60 : decode cX11_front 60 = .ok (.aload_n 3, 1) := by decide +kernel
theorem dX11_front_61 : decode cX11_front 61 = .ok (.getfield 155, 3) := by decide +kernel
theorem dX11_front_64 : decode cX11_front 64 = .ok (.ireturn, 1) := by decide +kernel
theorem dX11_front_65 : decode cX11_front 65 = .ok (.aload_n 3, 1) := by decide +kernel
theorem dX11_front_66 : decode cX11_front 66 = .ok (.getfield 160, 3) := by decide +kernel
theorem dX11_front_69 : decode cX11_front 69 = .ok (.ireturn, 1) := by decide +kernel
theorem dX11_front_70 : decode cX11_front 70 = .ok (.aload_n 3, 1) := by decide +kernel
theorem dX11_front_71 : decode cX11_front 71 = .ok (.getfield 163, 3) := by decide +kernel
theorem dX11_front_74 : decode cX11_front 74 = .ok (.ireturn, 1) := by decide +kernel
theorem dX11_front_75 : decode cX11_front 75 = .ok (.aload_n 3, 1) := by decide +kernel
theorem dX11_front_76 : decode cX11_front 76 = .ok (.getfield 166, 3) := by decide +kernel
theorem dX11_front_79 : decode cX11_front 79 = .ok (.ireturn, 1) := by decide +kernel
theorem dX11_front_80 : decode cX11_front 80 = .ok (.aload_n 3, 1) := by decide +kernel
theorem dX11_front_81 : decode cX11_front 81 = .ok (.getfield 169, 3) := by decide +kernel
theorem dX11_front_84 : decode cX11_front 84 = .ok (.ireturn, 1) := by decide +kernel
theorem dX11_front_85 : decode cX11_front 85 = .ok (.iconst (-1), 1) := by decide +kernel
theorem dX11_front_86 : decode cX11_front 86 = .ok (.ireturn, 1) := by decide +kernel
theorem dX11_pane_0 : decode cX11_pane 0 = .ok (.aload_n 0, 1) := by decide +kernel
theorem dX11_pane_1 : decode cX11_pane 1 = .ok (.getfield 22, 3) := by decide +kernel
theorem dX11_pane_4 : decode cX11_pane 4 = .ok (.iload_n 1, 1) := by decide +kernel
theorem dX11_pane_5 : decode cX11_pane 5 = .ok (.invokevirtual 149, 3) := by decide +kernel
theorem dX11_pane_8 : decode cX11_pane 8 = .ok (.ifCond .ne 5, 3) := by decide +kernel
theorem dX11_pane_11 : decode cX11_pane 11 = .ok (.iconst (-1), 1) := by decide +kernel
theorem dX11_pane_12 : decode cX11_pane 12 = .ok (.ireturn, 1) := by decide +kernel
theorem dX11_pane_13 : decode cX11_pane 13 = .ok (.aload_n 0, 1) := by decide +kernel
theorem dX11_pane_14 : decode cX11_pane 14 = .ok (.getfield 22, 3) := by decide +kernel
theorem dX11_pane_17 : decode cX11_pane 17 = .ok (.getfield 152, 3) := by decide +kernel
theorem dX11_pane_20 : decode cX11_pane 20 = .ok (.iload_n 1, 1) := by decide +kernel
theorem dX11_pane_21 : decode cX11_pane 21 = .ok (.aaload, 1) := by decide +kernel
theorem dX11_pane_22 : decode cX11_pane 22 = .ok (.astore 4, 2) := by decide +kernel
theorem dX11_pane_24 : decode cX11_pane 24 = .ok (.iload_n 2, 1) := by decide +kernel
theorem dX11_pane_25 : decode cX11_pane 25 = .ok (.ifCond .lt 12, 3) := by decide +kernel
theorem dX11_pane_28 : decode cX11_pane 28 = .ok (.iload_n 2, 1) := by decide +kernel
theorem dX11_pane_29 : decode cX11_pane 29 = .ok (.aload 4, 2) := by decide +kernel
theorem dX11_pane_31 : decode cX11_pane 31 = .ok (.getfield 163, 3) := by decide +kernel
theorem dX11_pane_34 : decode cX11_pane 34 = .ok (.if_icmp .lt 5, 3) := by decide +kernel
theorem dX11_pane_37 : decode cX11_pane 37 = .ok (.iconst (-1), 1) := by decide +kernel
theorem dX11_pane_38 : decode cX11_pane 38 = .ok (.ireturn, 1) := by decide +kernel
theorem dX11_pane_39 : decode cX11_pane 39 = .ok (.iload_n 3, 1) := by decide +kernel
theorem dX11_pane_40 : decode cX11_pane 40 = .ok (.lookupswitch 44 #[(0, 28), (1, 36)], 28) := by decide +kernel
theorem dX11_pane_68 : decode cX11_pane 68 = .ok (.aload 4, 2) := by decide +kernel
theorem dX11_pane_70 : decode cX11_pane 70 = .ok (.getfield 172, 3) := by decide +kernel
theorem dX11_pane_73 : decode cX11_pane 73 = .ok (.iload_n 2, 1) := by decide +kernel
theorem dX11_pane_74 : decode cX11_pane 74 = .ok (.iaload, 1) := by decide +kernel
theorem dX11_pane_75 : decode cX11_pane 75 = .ok (.ireturn, 1) := by decide +kernel
theorem dX11_pane_76 : decode cX11_pane 76 = .ok (.aload 4, 2) := by decide +kernel
theorem dX11_pane_78 : decode cX11_pane 78 = .ok (.getfield 175, 3) := by decide +kernel
theorem dX11_pane_81 : decode cX11_pane 81 = .ok (.iload_n 2, 1) := by decide +kernel
theorem dX11_pane_82 : decode cX11_pane 82 = .ok (.iaload, 1) := by decide +kernel
theorem dX11_pane_83 : decode cX11_pane 83 = .ok (.ireturn, 1) := by decide +kernel
theorem dX11_pane_84 : decode cX11_pane 84 = .ok (.iconst (-1), 1) := by decide +kernel
theorem dX11_pane_85 : decode cX11_pane 85 = .ok (.ireturn, 1) := by decide +kernel
theorem dX11_top_0 : decode cX11_top 0 = .ok (.aload_n 0, 1) := by decide +kernel
theorem dX11_top_1 : decode cX11_top 1 = .ok (.iload_n 1, 1) := by decide +kernel
theorem dX11_top_2 : decode cX11_top 2 = .ok (.iload_n 2, 1) := by decide +kernel
theorem dX11_top_3 : decode cX11_top 3 = .ok (.iload_n 3, 1) := by decide +kernel
theorem dX11_top_4 : decode cX11_top 4 = .ok (.iload 5, 2) := by decide +kernel
theorem dX11_top_6 : decode cX11_top 6 = .ok (.invokevirtual 178, 3) := by decide +kernel
theorem dX11_top_9 : decode cX11_top 9 = .ok (.ifCond .eq 19, 3) := by decide +kernel
theorem dX11_top_12 : decode cX11_top 12 = .ok (.aload_n 0, 1) := by decide +kernel
theorem dX11_top_13 : decode cX11_top 13 = .ok (.getfield 22, 3) := by decide +kernel
theorem dX11_top_16 : decode cX11_top 16 = .ok (.getfield 86, 3) := by decide +kernel
theorem dX11_top_19 : decode cX11_top 19 = .ok (.iload_n 2, 1) := by decide +kernel
theorem dX11_top_20 : decode cX11_top 20 = .ok (.iload 4, 2) := by decide +kernel
theorem dX11_top_22 : decode cX11_top 22 = .ok (.invokevirtual 182, 3) := by decide +kernel
theorem dX11_top_25 : decode cX11_top 25 = .ok (.goto 4, 3) := by decide +kernel
theorem dX11_top_28 : decode cX11_top 28 = .ok (.iconst (-1), 1) := by decide +kernel
theorem dX11_top_29 : decode cX11_top 29 = .ok (.ireturn, 1) := by decide +kernel
theorem dX11_covers_0 : decode cX11_covers 0 = .ok (.aload_n 0, 1) := by decide +kernel
theorem dX11_covers_1 : decode cX11_covers 1 = .ok (.iload_n 1, 1) := by decide +kernel
theorem dX11_covers_2 : decode cX11_covers 2 = .ok (.iload_n 2, 1) := by decide +kernel
theorem dX11_covers_3 : decode cX11_covers 3 = .ok (.iload_n 3, 1) := by decide +kernel
theorem dX11_covers_4 : decode cX11_covers 4 = .ok (.iload 5, 2) := by decide +kernel
theorem dX11_covers_6 : decode cX11_covers 6 = .ok (.invokevirtual 178, 3) := by decide +kernel
theorem dX11_covers_9 : decode cX11_covers 9 = .ok (.ifCond .ne 5, 3) := by decide +kernel
theorem dX11_covers_12 : decode cX11_covers 12 = .ok (.iconst (-1), 1) := by decide +kernel
theorem dX11_covers_13 : decode cX11_covers 13 = .ok (.ireturn, 1) := by decide +kernel
theorem dX11_covers_14 : decode cX11_covers 14 = .ok (.aload_n 0, 1) := by decide +kernel
theorem dX11_covers_15 : decode cX11_covers 15 = .ok (.getfield 22, 3) := by decide +kernel
theorem dX11_covers_18 : decode cX11_covers 18 = .ok (.getfield 86, 3) := by decide +kernel
theorem dX11_covers_21 : decode cX11_covers 21 = .ok (.iload_n 2, 1) := by decide +kernel
theorem dX11_covers_22 : decode cX11_covers 22 = .ok (.iload 4, 2) := by decide +kernel
theorem dX11_covers_24 : decode cX11_covers 24 = .ok (.invokevirtual 182, 3) := by decide +kernel
theorem dX11_covers_27 : decode cX11_covers 27 = .ok (.istore 6, 2) := by decide +kernel
theorem dX11_covers_29 : decode cX11_covers 29 = .ok (.iload 6, 2) := by decide +kernel
theorem dX11_covers_31 : decode cX11_covers 31 = .ok (.iconst (-1), 1) := by decide +kernel
theorem dX11_covers_32 : decode cX11_covers 32 = .ok (.if_icmp .ne 5, 3) := by decide +kernel
theorem dX11_covers_35 : decode cX11_covers 35 = .ok (.iconst (-1), 1) := by decide +kernel
theorem dX11_covers_36 : decode cX11_covers 36 = .ok (.ireturn, 1) := by decide +kernel
theorem dX11_covers_37 : decode cX11_covers 37 = .ok (.aload_n 0, 1) := by decide +kernel
theorem dX11_covers_38 : decode cX11_covers 38 = .ok (.getfield 22, 3) := by decide +kernel
theorem dX11_covers_41 : decode cX11_covers 41 = .ok (.getfield 152, 3) := by decide +kernel
theorem dX11_covers_44 : decode cX11_covers 44 = .ok (.iload_n 1, 1) := by decide +kernel
theorem dX11_covers_45 : decode cX11_covers 45 = .ok (.aaload, 1) := by decide +kernel
theorem dX11_covers_46 : decode cX11_covers 46 = .ok (.astore 7, 2) := by decide +kernel
theorem dX11_covers_48 : decode cX11_covers 48 = .ok (.aload 7, 2) := by decide +kernel
theorem dX11_covers_50 : decode cX11_covers 50 = .ok (.iload_n 3, 1) := by decide +kernel
theorem dX11_covers_51 : decode cX11_covers 51 = .ok (.invokevirtual 186, 3) := by decide +kernel
theorem dX11_covers_54 : decode cX11_covers 54 = .ok (.aload 7, 2) := by decide +kernel
theorem dX11_covers_56 : decode cX11_covers 56 = .ok (.aload_n 0, 1) := by decide +kernel
theorem dX11_covers_57 : decode cX11_covers 57 = .ok (.getfield 22, 3) := by decide +kernel
theorem dX11_covers_60 : decode cX11_covers 60 = .ok (.getfield 86, 3) := by decide +kernel
theorem dX11_covers_63 : decode cX11_covers 63 = .ok (.iload_n 2, 1) := by decide +kernel
theorem dX11_covers_64 : decode cX11_covers 64 = .ok (.iload 6, 2) := by decide +kernel
theorem dX11_covers_66 : decode cX11_covers 66 = .ok (.invokevirtual 189, 3) := by decide +kernel
theorem dX11_covers_69 : decode cX11_covers 69 = .ok (.aload_n 0, 1) := by decide +kernel
theorem dX11_covers_70 : decode cX11_covers 70 = .ok (.getfield 22, 3) := by decide +kernel
theorem dX11_covers_73 : decode cX11_covers 73 = .ok (.getfield 86, 3) := by decide +kernel
theorem dX11_covers_76 : decode cX11_covers 76 = .ok (.iload_n 2, 1) := by decide +kernel
theorem dX11_covers_77 : decode cX11_covers 77 = .ok (.iload 6, 2) := by decide +kernel
theorem dX11_covers_79 : decode cX11_covers 79 = .ok (.invokevirtual 192, 3) := by decide +kernel
theorem dX11_covers_82 : decode cX11_covers 82 = .ok (.invokevirtual 195, 3) := by decide +kernel
theorem dX11_covers_85 : decode cX11_covers 85 = .ok (.iand, 1) := by decide +kernel
theorem dX11_covers_86 : decode cX11_covers 86 = .ok (.ireturn, 1) := by decide +kernel
theorem dX11_missing_0 : decode cX11_missing 0 = .ok (.aload_n 0, 1) := by decide +kernel
theorem dX11_missing_1 : decode cX11_missing 1 = .ok (.getfield 22, 3) := by decide +kernel
theorem dX11_missing_4 : decode cX11_missing 4 = .ok (.iload_n 1, 1) := by decide +kernel
theorem dX11_missing_5 : decode cX11_missing 5 = .ok (.invokevirtual 149, 3) := by decide +kernel
theorem dX11_missing_8 : decode cX11_missing 8 = .ok (.ifCond .eq 17, 3) := by decide +kernel
theorem dX11_missing_11 : decode cX11_missing 11 = .ok (.aload_n 0, 1) := by decide +kernel
theorem dX11_missing_12 : decode cX11_missing 12 = .ok (.getfield 22, 3) := by decide +kernel
theorem dX11_missing_15 : decode cX11_missing 15 = .ok (.getfield 86, 3) := by decide +kernel
theorem dX11_missing_18 : decode cX11_missing 18 = .ok (.iload_n 2, 1) := by decide +kernel
theorem dX11_missing_19 : decode cX11_missing 19 = .ok (.invokevirtual 198, 3) := by decide +kernel
theorem dX11_missing_22 : decode cX11_missing 22 = .ok (.ifCond .ne 5, 3) := by decide +kernel
theorem dX11_missing_25 : decode cX11_missing 25 = .ok (.iconst (-1), 1) := by decide +kernel
theorem dX11_missing_26 : decode cX11_missing 26 = .ok (.ireturn, 1) := by decide +kernel
theorem dX11_missing_27 : decode cX11_missing 27 = .ok (.aload_n 0, 1) := by decide +kernel
theorem dX11_missing_28 : decode cX11_missing 28 = .ok (.invokevirtual 201, 3) := by decide +kernel
theorem dX11_missing_31 : decode cX11_missing 31 = .ok (.aload_n 0, 1) := by decide +kernel
theorem dX11_missing_32 : decode cX11_missing 32 = .ok (.getfield 22, 3) := by decide +kernel
theorem dX11_missing_35 : decode cX11_missing 35 = .ok (.iload_n 1, 1) := by decide +kernel
theorem dX11_missing_36 : decode cX11_missing 36 = .ok (.iload_n 2, 1) := by decide +kernel
theorem dX11_missing_37 : decode cX11_missing 37 = .ok (.iload_n 3, 1) := by decide +kernel
theorem dX11_missing_38 : decode cX11_missing 38 = .ok (.invokevirtual 205, 3) := by decide +kernel
theorem dX11_missing_41 : decode cX11_missing 41 = .ok (.ireturn, 1) := by decide +kernel
theorem dX11_fewest_0 : decode cX11_fewest 0 = .ok (.aload_n 0, 1) := by decide +kernel
theorem dX11_fewest_1 : decode cX11_fewest 1 = .ok (.getfield 22, 3) := by decide +kernel
theorem dX11_fewest_4 : decode cX11_fewest 4 = .ok (.iload_n 1, 1) := by decide +kernel
theorem dX11_fewest_5 : decode cX11_fewest 5 = .ok (.invokevirtual 149, 3) := by decide +kernel
theorem dX11_fewest_8 : decode cX11_fewest 8 = .ok (.ifCond .eq 22, 3) := by decide +kernel
theorem dX11_fewest_11 : decode cX11_fewest 11 = .ok (.aload_n 0, 1) := by decide +kernel
theorem dX11_fewest_12 : decode cX11_fewest 12 = .ok (.getfield 22, 3) := by decide +kernel
theorem dX11_fewest_15 : decode cX11_fewest 15 = .ok (.getfield 86, 3) := by decide +kernel
theorem dX11_fewest_18 : decode cX11_fewest 18 = .ok (.iload_n 2, 1) := by decide +kernel
theorem dX11_fewest_19 : decode cX11_fewest 19 = .ok (.invokevirtual 198, 3) := by decide +kernel
theorem dX11_fewest_22 : decode cX11_fewest 22 = .ok (.ifCond .eq 8, 3) := by decide +kernel
theorem dX11_fewest_25 : decode cX11_fewest 25 = .ok (.iload 4, 2) := by decide +kernel
theorem dX11_fewest_27 : decode cX11_fewest 27 = .ok (.ifCond .ge 5, 3) := by decide +kernel
theorem dX11_fewest_30 : decode cX11_fewest 30 = .ok (.iconst (-1), 1) := by decide +kernel
theorem dX11_fewest_31 : decode cX11_fewest 31 = .ok (.ireturn, 1) := by decide +kernel
theorem dX11_fewest_32 : decode cX11_fewest 32 = .ok (.aload_n 0, 1) := by decide +kernel
theorem dX11_fewest_33 : decode cX11_fewest 33 = .ok (.invokevirtual 201, 3) := by decide +kernel
theorem dX11_fewest_36 : decode cX11_fewest 36 = .ok (.aload_n 0, 1) := by decide +kernel
theorem dX11_fewest_37 : decode cX11_fewest 37 = .ok (.getfield 22, 3) := by decide +kernel
theorem dX11_fewest_40 : decode cX11_fewest 40 = .ok (.iload_n 1, 1) := by decide +kernel
theorem dX11_fewest_41 : decode cX11_fewest 41 = .ok (.iload_n 2, 1) := by decide +kernel
theorem dX11_fewest_42 : decode cX11_fewest 42 = .ok (.iload_n 3, 1) := by decide +kernel
theorem dX11_fewest_43 : decode cX11_fewest 43 = .ok (.invokevirtual 211, 3) := by decide +kernel
theorem dX11_fewest_46 : decode cX11_fewest 46 = .ok (.iload 4, 2) := by decide +kernel
theorem dX11_fewest_48 : decode cX11_fewest 48 = .ok (.ifCond .ne 13, 3) := by decide +kernel
theorem dX11_fewest_51 : decode cX11_fewest 51 = .ok (.aload_n 0, 1) := by decide +kernel
theorem dX11_fewest_52 : decode cX11_fewest 52 = .ok (.getfield 52, 3) := by decide +kernel
theorem dX11_fewest_55 : decode cX11_fewest 55 = .ok (.getfield 215, 3) := by decide +kernel
theorem dX11_fewest_58 : decode cX11_fewest 58 = .ok (.iload_n 1, 1) := by decide +kernel
theorem dX11_fewest_59 : decode cX11_fewest 59 = .ok (.iaload, 1) := by decide +kernel
theorem dX11_fewest_60 : decode cX11_fewest 60 = .ok (.ireturn, 1) := by decide +kernel
theorem dX11_fewest_61 : decode cX11_fewest 61 = .ok (.aload_n 0, 1) := by decide +kernel
theorem dX11_fewest_62 : decode cX11_fewest 62 = .ok (.getfield 52, 3) := by decide +kernel
theorem dX11_fewest_65 : decode cX11_fewest 65 = .ok (.iload_n 1, 1) := by decide +kernel
theorem dX11_fewest_66 : decode cX11_fewest 66 = .ok (.iload 4, 2) := by decide +kernel
theorem dX11_fewest_68 : decode cX11_fewest 68 = .ok (.iconst 1, 1) := by decide +kernel
theorem dX11_fewest_69 : decode cX11_fewest 69 = .ok (.isub, 1) := by decide +kernel
theorem dX11_fewest_70 : decode cX11_fewest 70 = .ok (.invokevirtual 218, 3) := by decide +kernel
theorem dX11_fewest_73 : decode cX11_fewest 73 = .ok (.ireturn, 1) := by decide +kernel
theorem dX11_minutes_0 : decode cX11_minutes 0 = .ok (.aload_n 0, 1) := by decide +kernel
theorem dX11_minutes_1 : decode cX11_minutes 1 = .ok (.getfield 22, 3) := by decide +kernel
theorem dX11_minutes_4 : decode cX11_minutes 4 = .ok (.iload_n 1, 1) := by decide +kernel
theorem dX11_minutes_5 : decode cX11_minutes 5 = .ok (.invokevirtual 149, 3) := by decide +kernel
theorem dX11_minutes_8 : decode cX11_minutes 8 = .ok (.ifCond .eq 17, 3) := by decide +kernel
theorem dX11_minutes_11 : decode cX11_minutes 11 = .ok (.aload_n 0, 1) := by decide +kernel
theorem dX11_minutes_12 : decode cX11_minutes 12 = .ok (.getfield 22, 3) := by decide +kernel
theorem dX11_minutes_15 : decode cX11_minutes 15 = .ok (.getfield 86, 3) := by decide +kernel
theorem dX11_minutes_18 : decode cX11_minutes 18 = .ok (.iload_n 2, 1) := by decide +kernel
theorem dX11_minutes_19 : decode cX11_minutes 19 = .ok (.invokevirtual 198, 3) := by decide +kernel
theorem dX11_minutes_22 : decode cX11_minutes 22 = .ok (.ifCond .ne 5, 3) := by decide +kernel
theorem dX11_minutes_25 : decode cX11_minutes 25 = .ok (.iconst (-1), 1) := by decide +kernel
theorem dX11_minutes_26 : decode cX11_minutes 26 = .ok (.ireturn, 1) := by decide +kernel
theorem dX11_minutes_27 : decode cX11_minutes 27 = .ok (.aload_n 0, 1) := by decide +kernel
theorem dX11_minutes_28 : decode cX11_minutes 28 = .ok (.invokevirtual 201, 3) := by decide +kernel
theorem dX11_minutes_31 : decode cX11_minutes 31 = .ok (.aload_n 0, 1) := by decide +kernel
theorem dX11_minutes_32 : decode cX11_minutes 32 = .ok (.getfield 22, 3) := by decide +kernel
theorem dX11_minutes_35 : decode cX11_minutes 35 = .ok (.iload_n 1, 1) := by decide +kernel
theorem dX11_minutes_36 : decode cX11_minutes 36 = .ok (.iload_n 2, 1) := by decide +kernel
theorem dX11_minutes_37 : decode cX11_minutes 37 = .ok (.iload_n 3, 1) := by decide +kernel
theorem dX11_minutes_38 : decode cX11_minutes 38 = .ok (.invokevirtual 221, 3) := by decide +kernel
theorem dX11_minutes_41 : decode cX11_minutes 41 = .ok (.ireturn, 1) := by decide +kernel
theorem dX11_days_0 : decode cX11_days 0 = .ok (.iload_n 1, 1) := by decide +kernel
theorem dX11_days_1 : decode cX11_days 1 = .ok (.ifCond .lt 18, 3) := by decide +kernel
theorem dX11_days_4 : decode cX11_days 4 = .ok (.iload_n 1, 1) := by decide +kernel
theorem dX11_days_5 : decode cX11_days 5 = .ok (.sipush 200, 3) := by decide +kernel
theorem dX11_days_8 : decode cX11_days 8 = .ok (.aload_n 0, 1) := by decide +kernel
theorem dX11_days_9 : decode cX11_days 9 = .ok (.getfield 41, 3) := by decide +kernel
theorem dX11_days_12 : decode cX11_days 12 = .ok (.getfield 224, 3) := by decide +kernel
theorem dX11_days_15 : decode cX11_days 15 = .ok (.isub, 1) := by decide +kernel
theorem dX11_days_16 : decode cX11_days 16 = .ok (.if_icmp .le 5, 3) := by decide +kernel
theorem dX11_days_19 : decode cX11_days 19 = .ok (.iconst (-1), 1) := by decide +kernel
theorem dX11_days_20 : decode cX11_days 20 = .ok (.ireturn, 1) := by decide +kernel
theorem dX11_days_21 : decode cX11_days 21 = .ok (.iload_n 1, 1) := by decide +kernel
theorem dX11_days_22 : decode cX11_days 22 = .ok (.ifCond .le 15, 3) := by decide +kernel
theorem dX11_days_25 : decode cX11_days 25 = .ok (.aload_n 0, 1) := by decide +kernel
theorem dX11_days_26 : decode cX11_days 26 = .ok (.invokevirtual 227, 3) := by decide +kernel
theorem dX11_days_29 : decode cX11_days 29 = .ok (.aload_n 0, 1) := by decide +kernel
theorem dX11_days_30 : decode cX11_days 30 = .ok (.getfield 22, 3) := by decide +kernel
theorem dX11_days_33 : decode cX11_days 33 = .ok (.iload_n 1, 1) := by decide +kernel
theorem dX11_days_34 : decode cX11_days 34 = .ok (.invokevirtual 231, 3) := by decide +kernel
theorem dX11_days_37 : decode cX11_days 37 = .ok (.aload_n 0, 1) := by decide +kernel
theorem dX11_days_38 : decode cX11_days 38 = .ok (.getfield 41, 3) := by decide +kernel
theorem dX11_days_41 : decode cX11_days 41 = .ok (.getfield 224, 3) := by decide +kernel
theorem dX11_days_44 : decode cX11_days 44 = .ok (.ireturn, 1) := by decide +kernel
theorem dX11_now_0 : decode cX11_now 0 = .ok (.aload_n 0, 1) := by decide +kernel
theorem dX11_now_1 : decode cX11_now 1 = .ok (.getfield 22, 3) := by decide +kernel
theorem dX11_now_4 : decode cX11_now 4 = .ok (.iload_n 1, 1) := by decide +kernel
theorem dX11_now_5 : decode cX11_now 5 = .ok (.invokevirtual 105, 3) := by decide +kernel
theorem dX11_now_8 : decode cX11_now 8 = .ok (.ifCond .ne 6, 3) := by decide +kernel
theorem dX11_now_11 : decode cX11_now 11 = .ok (.ldc 239, 2) := by decide +kernel
theorem dX11_now_13 : decode cX11_now 13 = .ok (.ireturn, 1) := by decide +kernel
theorem dX11_now_14 : decode cX11_now 14 = .ok (.iload_n 2, 1) := by decide +kernel
theorem dX11_now_15 : decode cX11_now 15 = .ok (.tableswitch 119 0 6 #[41, 51, 61, 71, 81, 99, 109], 41) := by decide +kernel
theorem dX11_now_56 : decode cX11_now 56 = .ok (.aload_n 0, 1) := by decide +kernel
theorem dX11_now_57 : decode cX11_now 57 = .ok (.getfield 41, 3) := by decide +kernel
theorem dX11_now_60 : decode cX11_now 60 = .ok (.getfield 240, 3) := by decide +kernel
theorem dX11_now_63 : decode cX11_now 63 = .ok (.iload_n 1, 1) := by decide +kernel
theorem dX11_now_64 : decode cX11_now 64 = .ok (.iaload, 1) := by decide +kernel
theorem dX11_now_65 : decode cX11_now 65 = .ok (.ireturn, 1) := by decide +kernel
theorem dX11_now_66 : decode cX11_now 66 = .ok (.aload_n 0, 1) := by decide +kernel
theorem dX11_now_67 : decode cX11_now 67 = .ok (.getfield 41, 3) := by decide +kernel
theorem dX11_now_70 : decode cX11_now 70 = .ok (.getfield 243, 3) := by decide +kernel
theorem dX11_now_73 : decode cX11_now 73 = .ok (.iload_n 1, 1) := by decide +kernel
theorem dX11_now_74 : decode cX11_now 74 = .ok (.iaload, 1) := by decide +kernel
theorem dX11_now_75 : decode cX11_now 75 = .ok (.ireturn, 1) := by decide +kernel
theorem dX11_now_76 : decode cX11_now 76 = .ok (.aload_n 0, 1) := by decide +kernel
theorem dX11_now_77 : decode cX11_now 77 = .ok (.getfield 41, 3) := by decide +kernel
theorem dX11_now_80 : decode cX11_now 80 = .ok (.getfield 246, 3) := by decide +kernel
theorem dX11_now_83 : decode cX11_now 83 = .ok (.iload_n 1, 1) := by decide +kernel
theorem dX11_now_84 : decode cX11_now 84 = .ok (.iaload, 1) := by decide +kernel
theorem dX11_now_85 : decode cX11_now 85 = .ok (.ireturn, 1) := by decide +kernel
theorem dX11_now_86 : decode cX11_now 86 = .ok (.aload_n 0, 1) := by decide +kernel
theorem dX11_now_87 : decode cX11_now 87 = .ok (.getfield 41, 3) := by decide +kernel
theorem dX11_now_90 : decode cX11_now 90 = .ok (.getfield 249, 3) := by decide +kernel
theorem dX11_now_93 : decode cX11_now 93 = .ok (.iload_n 1, 1) := by decide +kernel
theorem dX11_now_94 : decode cX11_now 94 = .ok (.iaload, 1) := by decide +kernel
theorem dX11_now_95 : decode cX11_now 95 = .ok (.ireturn, 1) := by decide +kernel
theorem dX11_now_96 : decode cX11_now 96 = .ok (.aload_n 0, 1) := by decide +kernel
theorem dX11_now_97 : decode cX11_now 97 = .ok (.getfield 41, 3) := by decide +kernel
theorem dX11_now_100 : decode cX11_now 100 = .ok (.getfield 252, 3) := by decide +kernel
theorem dX11_now_103 : decode cX11_now 103 = .ok (.iload_n 1, 1) := by decide +kernel
theorem dX11_now_104 : decode cX11_now 104 = .ok (.baload, 1) := by decide +kernel
theorem dX11_now_105 : decode cX11_now 105 = .ok (.ifCond .eq 7, 3) := by decide +kernel
theorem dX11_now_108 : decode cX11_now 108 = .ok (.iconst 1, 1) := by decide +kernel
theorem dX11_now_109 : decode cX11_now 109 = .ok (.goto 4, 3) := by decide +kernel
theorem dX11_now_112 : decode cX11_now 112 = .ok (.iconst 0, 1) := by decide +kernel
theorem dX11_now_113 : decode cX11_now 113 = .ok (.ireturn, 1) := by decide +kernel
theorem dX11_now_114 : decode cX11_now 114 = .ok (.aload_n 0, 1) := by decide +kernel
theorem dX11_now_115 : decode cX11_now 115 = .ok (.getfield 41, 3) := by decide +kernel
theorem dX11_now_118 : decode cX11_now 118 = .ok (.getfield 256, 3) := by decide +kernel
theorem dX11_now_121 : decode cX11_now 121 = .ok (.iload_n 1, 1) := by decide +kernel
theorem dX11_now_122 : decode cX11_now 122 = .ok (.iaload, 1) := by decide +kernel
theorem dX11_now_123 : decode cX11_now 123 = .ok (.ireturn, 1) := by decide +kernel
theorem dX11_now_124 : decode cX11_now 124 = .ok (.aload_n 0, 1) := by decide +kernel
theorem dX11_now_125 : decode cX11_now 125 = .ok (.getfield 41, 3) := by decide +kernel
theorem dX11_now_128 : decode cX11_now 128 = .ok (.getfield 259, 3) := by decide +kernel
theorem dX11_now_131 : decode cX11_now 131 = .ok (.iload_n 1, 1) := by decide +kernel
theorem dX11_now_132 : decode cX11_now 132 = .ok (.iaload, 1) := by decide +kernel
theorem dX11_now_133 : decode cX11_now 133 = .ok (.ireturn, 1) := by decide +kernel
theorem dX11_now_134 : decode cX11_now 134 = .ok (.ldc 239, 2) := by decide +kernel
theorem dX11_now_136 : decode cX11_now 136 = .ok (.ireturn, 1) := by decide +kernel
theorem dX11_wet_0 : decode cX11_wet 0 = .ok (.iload_n 1, 1) := by decide +kernel
theorem dX11_wet_1 : decode cX11_wet 1 = .ok (.ifCond .lt 10, 3) := by decide +kernel
theorem dX11_wet_4 : decode cX11_wet 4 = .ok (.iload_n 1, 1) := by decide +kernel
theorem dX11_wet_5 : decode cX11_wet 5 = .ok (.sipush 200, 3) := by decide +kernel
theorem dX11_wet_8 : decode cX11_wet 8 = .ok (.if_icmp .lt 5, 3) := by decide +kernel
theorem dX11_wet_11 : decode cX11_wet 11 = .ok (.iconst (-1), 1) := by decide +kernel
theorem dX11_wet_12 : decode cX11_wet 12 = .ok (.ireturn, 1) := by decide +kernel
theorem dX11_wet_13 : decode cX11_wet 13 = .ok (.aload_n 0, 1) := by decide +kernel
theorem dX11_wet_14 : decode cX11_wet 14 = .ok (.getfield 22, 3) := by decide +kernel
theorem dX11_wet_17 : decode cX11_wet 17 = .ok (.getfield 262, 3) := by decide +kernel
theorem dX11_wet_20 : decode cX11_wet 20 = .ok (.iload_n 1, 1) := by decide +kernel
theorem dX11_wet_21 : decode cX11_wet 21 = .ok (.baload, 1) := by decide +kernel
theorem dX11_wet_22 : decode cX11_wet 22 = .ok (.ifCond .eq 7, 3) := by decide +kernel
theorem dX11_wet_25 : decode cX11_wet 25 = .ok (.iconst 1, 1) := by decide +kernel
theorem dX11_wet_26 : decode cX11_wet 26 = .ok (.goto 4, 3) := by decide +kernel
theorem dX11_wet_29 : decode cX11_wet 29 = .ok (.iconst 0, 1) := by decide +kernel
theorem dX11_wet_30 : decode cX11_wet 30 = .ok (.ireturn, 1) := by decide +kernel
theorem dX11_wiped_0 : decode cX11_wiped 0 = .ok (.aload_n 0, 1) := by decide +kernel
theorem dX11_wiped_1 : decode cX11_wiped 1 = .ok (.getfield 41, 3) := by decide +kernel
theorem dX11_wiped_4 : decode cX11_wiped 4 = .ok (.iload_n 1, 1) := by decide +kernel
theorem dX11_wiped_5 : decode cX11_wiped 5 = .ok (.invokevirtual 265, 3) := by decide +kernel
theorem dX11_wiped_8 : decode cX11_wiped 8 = .ok (.ifCond .eq 15, 3) := by decide +kernel
theorem dX11_wiped_11 : decode cX11_wiped 11 = .ok (.aload_n 0, 1) := by decide +kernel
theorem dX11_wiped_12 : decode cX11_wiped 12 = .ok (.getfield 41, 3) := by decide +kernel
theorem dX11_wiped_15 : decode cX11_wiped 15 = .ok (.getfield 268, 3) := by decide +kernel
theorem dX11_wiped_18 : decode cX11_wiped 18 = .ok (.iload_n 1, 1) := by decide +kernel
theorem dX11_wiped_19 : decode cX11_wiped 19 = .ok (.iaload, 1) := by decide +kernel
theorem dX11_wiped_20 : decode cX11_wiped 20 = .ok (.goto 4, 3) := by decide +kernel
theorem dX11_wiped_23 : decode cX11_wiped 23 = .ok (.iconst (-1), 1) := by decide +kernel
theorem dX11_wiped_24 : decode cX11_wiped 24 = .ok (.ireturn, 1) := by decide +kernel
theorem dX11_way_0 : decode cX11_way 0 = .ok (.aload_n 0, 1) := by decide +kernel
theorem dX11_way_1 : decode cX11_way 1 = .ok (.getfield 22, 3) := by decide +kernel
theorem dX11_way_4 : decode cX11_way 4 = .ok (.iload_n 1, 1) := by decide +kernel
theorem dX11_way_5 : decode cX11_way 5 = .ok (.invokevirtual 271, 3) := by decide +kernel
theorem dX11_way_8 : decode cX11_way 8 = .ok (.ifCond .eq 18, 3) := by decide +kernel
theorem dX11_way_11 : decode cX11_way 11 = .ok (.aload_n 0, 1) := by decide +kernel
theorem dX11_way_12 : decode cX11_way 12 = .ok (.getfield 41, 3) := by decide +kernel
theorem dX11_way_15 : decode cX11_way 15 = .ok (.iload_n 2, 1) := by decide +kernel
theorem dX11_way_16 : decode cX11_way 16 = .ok (.invokevirtual 265, 3) := by decide +kernel
theorem dX11_way_19 : decode cX11_way 19 = .ok (.ifCond .eq 7, 3) := by decide +kernel
theorem dX11_way_22 : decode cX11_way 22 = .ok (.iload_n 3, 1) := by decide +kernel
theorem dX11_way_23 : decode cX11_way 23 = .ok (.ifCond .ge 5, 3) := by decide +kernel
theorem dX11_way_26 : decode cX11_way 26 = .ok (.iconst (-1), 1) := by decide +kernel
theorem dX11_way_27 : decode cX11_way 27 = .ok (.ireturn, 1) := by decide +kernel
theorem dX11_way_28 : decode cX11_way 28 = .ok (.iload_n 3, 1) := by decide +kernel
theorem dX11_way_29 : decode cX11_way 29 = .ok (.tableswitch 79 0 2 #[27, 37, 51], 27) := by decide +kernel
theorem dX11_way_56 : decode cX11_way 56 = .ok (.aload_n 0, 1) := by decide +kernel
theorem dX11_way_57 : decode cX11_way 57 = .ok (.getfield 41, 3) := by decide +kernel
theorem dX11_way_60 : decode cX11_way 60 = .ok (.iload_n 2, 1) := by decide +kernel
theorem dX11_way_61 : decode cX11_way 61 = .ok (.iload_n 1, 1) := by decide +kernel
theorem dX11_way_62 : decode cX11_way 62 = .ok (.invokevirtual 274, 3) := by decide +kernel
theorem dX11_way_65 : decode cX11_way 65 = .ok (.ireturn, 1) := by decide +kernel
theorem dX11_way_66 : decode cX11_way 66 = .ok (.aload_n 0, 1) := by decide +kernel
theorem dX11_way_67 : decode cX11_way 67 = .ok (.invokevirtual 277, 3) := by decide +kernel
theorem dX11_way_70 : decode cX11_way 70 = .ok (.aload_n 0, 1) := by decide +kernel
theorem dX11_way_71 : decode cX11_way 71 = .ok (.getfield 22, 3) := by decide +kernel
theorem dX11_way_74 : decode cX11_way 74 = .ok (.iload_n 1, 1) := by decide +kernel
theorem dX11_way_75 : decode cX11_way 75 = .ok (.iload_n 2, 1) := by decide +kernel
theorem dX11_way_76 : decode cX11_way 76 = .ok (.invokevirtual 281, 3) := by decide +kernel
theorem dX11_way_79 : decode cX11_way 79 = .ok (.ireturn, 1) := by decide +kernel
theorem dX11_way_80 : decode cX11_way 80 = .ok (.aload_n 0, 1) := by decide +kernel
theorem dX11_way_81 : decode cX11_way 81 = .ok (.invokevirtual 277, 3) := by decide +kernel
theorem dX11_way_84 : decode cX11_way 84 = .ok (.aload_n 0, 1) := by decide +kernel
theorem dX11_way_85 : decode cX11_way 85 = .ok (.getfield 22, 3) := by decide +kernel
theorem dX11_way_88 : decode cX11_way 88 = .ok (.iload_n 1, 1) := by decide +kernel
theorem dX11_way_89 : decode cX11_way 89 = .ok (.iload_n 2, 1) := by decide +kernel
theorem dX11_way_90 : decode cX11_way 90 = .ok (.invokevirtual 281, 3) := by decide +kernel
theorem dX11_way_93 : decode cX11_way 93 = .ok (.aload_n 0, 1) := by decide +kernel
theorem dX11_way_94 : decode cX11_way 94 = .ok (.invokevirtual 227, 3) := by decide +kernel
theorem dX11_way_97 : decode cX11_way 97 = .ok (.aload_n 0, 1) := by decide +kernel
theorem dX11_way_98 : decode cX11_way 98 = .ok (.getfield 22, 3) := by decide +kernel
theorem dX11_way_101 : decode cX11_way 101 = .ok (.iload_n 1, 1) := by decide +kernel
theorem dX11_way_102 : decode cX11_way 102 = .ok (.iload_n 2, 1) := by decide +kernel
theorem dX11_way_103 : decode cX11_way 103 = .ok (.invokevirtual 287, 3) := by decide +kernel
theorem dX11_way_106 : decode cX11_way 106 = .ok (.iadd, 1) := by decide +kernel
theorem dX11_way_107 : decode cX11_way 107 = .ok (.ireturn, 1) := by decide +kernel
theorem dX11_way_108 : decode cX11_way 108 = .ok (.aload_n 0, 1) := by decide +kernel
theorem dX11_way_109 : decode cX11_way 109 = .ok (.getfield 41, 3) := by decide +kernel
theorem dX11_way_112 : decode cX11_way 112 = .ok (.iload_n 2, 1) := by decide +kernel
theorem dX11_way_113 : decode cX11_way 113 = .ok (.iload_n 1, 1) := by decide +kernel
theorem dX11_way_114 : decode cX11_way 114 = .ok (.iload_n 3, 1) := by decide +kernel
theorem dX11_way_115 : decode cX11_way 115 = .ok (.iconst 3, 1) := by decide +kernel
theorem dX11_way_116 : decode cX11_way 116 = .ok (.isub, 1) := by decide +kernel
theorem dX11_way_117 : decode cX11_way 117 = .ok (.invokevirtual 290, 3) := by decide +kernel
theorem dX11_way_120 : decode cX11_way 120 = .ok (.ireturn, 1) := by decide +kernel
theorem dX11_shortest_0 : decode cX11_shortest 0 = .ok (.aload_n 0, 1) := by decide +kernel
theorem dX11_shortest_1 : decode cX11_shortest 1 = .ok (.getfield 22, 3) := by decide +kernel
theorem dX11_shortest_4 : decode cX11_shortest 4 = .ok (.iload_n 1, 1) := by decide +kernel
theorem dX11_shortest_5 : decode cX11_shortest 5 = .ok (.invokevirtual 271, 3) := by decide +kernel
theorem dX11_shortest_8 : decode cX11_shortest 8 = .ok (.ifCond .eq 18, 3) := by decide +kernel
theorem dX11_shortest_11 : decode cX11_shortest 11 = .ok (.aload_n 0, 1) := by decide +kernel
theorem dX11_shortest_12 : decode cX11_shortest 12 = .ok (.getfield 41, 3) := by decide +kernel
theorem dX11_shortest_15 : decode cX11_shortest 15 = .ok (.iload_n 2, 1) := by decide +kernel
theorem dX11_shortest_16 : decode cX11_shortest 16 = .ok (.invokevirtual 265, 3) := by decide +kernel
theorem dX11_shortest_19 : decode cX11_shortest 19 = .ok (.ifCond .eq 7, 3) := by decide +kernel
theorem dX11_shortest_22 : decode cX11_shortest 22 = .ok (.iload_n 3, 1) := by decide +kernel
theorem dX11_shortest_23 : decode cX11_shortest 23 = .ok (.ifCond .ge 5, 3) := by decide +kernel
theorem dX11_shortest_26 : decode cX11_shortest 26 = .ok (.iconst (-1), 1) := by decide +kernel
theorem dX11_shortest_27 : decode cX11_shortest 27 = .ok (.ireturn, 1) := by decide +kernel
theorem dX11_shortest_28 : decode cX11_shortest 28 = .ok (.aload_n 0, 1) := by decide +kernel
theorem dX11_shortest_29 : decode cX11_shortest 29 = .ok (.getfield 41, 3) := by decide +kernel
theorem dX11_shortest_32 : decode cX11_shortest 32 = .ok (.iload_n 2, 1) := by decide +kernel
theorem dX11_shortest_33 : decode cX11_shortest 33 = .ok (.iload_n 1, 1) := by decide +kernel
theorem dX11_shortest_34 : decode cX11_shortest 34 = .ok (.invokevirtual 274, 3) := by decide +kernel
theorem dX11_shortest_37 : decode cX11_shortest 37 = .ok (.bipush 7, 2) := by decide +kernel
theorem dX11_shortest_39 : decode cX11_shortest 39 = .ok (.if_icmp .gt 16, 3) := by decide +kernel
theorem dX11_shortest_42 : decode cX11_shortest 42 = .ok (.iload_n 3, 1) := by decide +kernel
theorem dX11_shortest_43 : decode cX11_shortest 43 = .ok (.aload_n 0, 1) := by decide +kernel
theorem dX11_shortest_44 : decode cX11_shortest 44 = .ok (.getfield 41, 3) := by decide +kernel
theorem dX11_shortest_47 : decode cX11_shortest 47 = .ok (.iload_n 2, 1) := by decide +kernel
theorem dX11_shortest_48 : decode cX11_shortest 48 = .ok (.iload_n 1, 1) := by decide +kernel
theorem dX11_shortest_49 : decode cX11_shortest 49 = .ok (.invokevirtual 274, 3) := by decide +kernel
theorem dX11_shortest_52 : decode cX11_shortest 52 = .ok (.if_icmp .le 5, 3) := by decide +kernel
theorem dX11_shortest_55 : decode cX11_shortest 55 = .ok (.iconst (-1), 1) := by decide +kernel
theorem dX11_shortest_56 : decode cX11_shortest 56 = .ok (.ireturn, 1) := by decide +kernel
theorem dX11_shortest_57 : decode cX11_shortest 57 = .ok (.aload_n 0, 1) := by decide +kernel
theorem dX11_shortest_58 : decode cX11_shortest 58 = .ok (.invokevirtual 277, 3) := by decide +kernel
theorem dX11_shortest_61 : decode cX11_shortest 61 = .ok (.aload_n 0, 1) := by decide +kernel
theorem dX11_shortest_62 : decode cX11_shortest 62 = .ok (.getfield 22, 3) := by decide +kernel
theorem dX11_shortest_65 : decode cX11_shortest 65 = .ok (.iload_n 1, 1) := by decide +kernel
theorem dX11_shortest_66 : decode cX11_shortest 66 = .ok (.iload_n 2, 1) := by decide +kernel
theorem dX11_shortest_67 : decode cX11_shortest 67 = .ok (.invokevirtual 294, 3) := by decide +kernel
theorem dX11_shortest_70 : decode cX11_shortest 70 = .ok (.istore 4, 2) := by decide +kernel
theorem dX11_shortest_72 : decode cX11_shortest 72 = .ok (.iload_n 3, 1) := by decide +kernel
theorem dX11_shortest_73 : decode cX11_shortest 73 = .ok (.ifCond .ne 8, 3) := by decide +kernel
theorem dX11_shortest_76 : decode cX11_shortest 76 = .ok (.iload 4, 2) := by decide +kernel
theorem dX11_shortest_78 : decode cX11_shortest 78 = .ok (.goto 13, 3) := by decide +kernel
theorem dX11_shortest_81 : decode cX11_shortest 81 = .ok (.aload_n 0, 1) := by decide +kernel
theorem dX11_shortest_82 : decode cX11_shortest 82 = .ok (.getfield 60, 3) := by decide +kernel
theorem dX11_shortest_85 : decode cX11_shortest 85 = .ok (.iload_n 3, 1) := by decide +kernel
theorem dX11_shortest_86 : decode cX11_shortest 86 = .ok (.iconst 1, 1) := by decide +kernel
theorem dX11_shortest_87 : decode cX11_shortest 87 = .ok (.isub, 1) := by decide +kernel
theorem dX11_shortest_88 : decode cX11_shortest 88 = .ok (.invokevirtual 297, 3) := by decide +kernel
theorem dX11_shortest_91 : decode cX11_shortest 91 = .ok (.ireturn, 1) := by decide +kernel
theorem dX11_walk_0 : decode cX11_walk 0 = .ok (.aload_n 0, 1) := by decide +kernel
theorem dX11_walk_1 : decode cX11_walk 1 = .ok (.getfield 22, 3) := by decide +kernel
theorem dX11_walk_4 : decode cX11_walk 4 = .ok (.iload_n 1, 1) := by decide +kernel
theorem dX11_walk_5 : decode cX11_walk 5 = .ok (.invokevirtual 105, 3) := by decide +kernel
theorem dX11_walk_8 : decode cX11_walk 8 = .ok (.ifCond .eq 14, 3) := by decide +kernel
theorem dX11_walk_11 : decode cX11_walk 11 = .ok (.aload_n 0, 1) := by decide +kernel
theorem dX11_walk_12 : decode cX11_walk 12 = .ok (.getfield 22, 3) := by decide +kernel
theorem dX11_walk_15 : decode cX11_walk 15 = .ok (.iload_n 2, 1) := by decide +kernel
theorem dX11_walk_16 : decode cX11_walk 16 = .ok (.invokevirtual 105, 3) := by decide +kernel
theorem dX11_walk_19 : decode cX11_walk 19 = .ok (.ifCond .ne 5, 3) := by decide +kernel
theorem dX11_walk_22 : decode cX11_walk 22 = .ok (.iconst (-1), 1) := by decide +kernel
theorem dX11_walk_23 : decode cX11_walk 23 = .ok (.ireturn, 1) := by decide +kernel
theorem dX11_walk_24 : decode cX11_walk 24 = .ok (.aload_n 0, 1) := by decide +kernel
theorem dX11_walk_25 : decode cX11_walk 25 = .ok (.getfield 22, 3) := by decide +kernel
theorem dX11_walk_28 : decode cX11_walk 28 = .ok (.iload_n 1, 1) := by decide +kernel
theorem dX11_walk_29 : decode cX11_walk 29 = .ok (.iload_n 2, 1) := by decide +kernel
theorem dX11_walk_30 : decode cX11_walk 30 = .ok (.invokevirtual 300, 3) := by decide +kernel
theorem dX11_walk_33 : decode cX11_walk 33 = .ok (.ireturn, 1) := by decide +kernel
theorem dX11_pay_0 : decode cX11_pay 0 = .ok (.aload_n 0, 1) := by decide +kernel
theorem dX11_pay_1 : decode cX11_pay 1 = .ok (.getfield 22, 3) := by decide +kernel
theorem dX11_pay_4 : decode cX11_pay 4 = .ok (.iload_n 1, 1) := by decide +kernel
theorem dX11_pay_5 : decode cX11_pay 5 = .ok (.invokevirtual 105, 3) := by decide +kernel
theorem dX11_pay_8 : decode cX11_pay 8 = .ok (.ifCond .eq 25, 3) := by decide +kernel
theorem dX11_pay_11 : decode cX11_pay 11 = .ok (.iload_n 2, 1) := by decide +kernel
theorem dX11_pay_12 : decode cX11_pay 12 = .ok (.ifCond .lt 21, 3) := by decide +kernel
theorem dX11_pay_15 : decode cX11_pay 15 = .ok (.iload_n 2, 1) := by decide +kernel
theorem dX11_pay_16 : decode cX11_pay 16 = .ok (.sipush 200, 3) := by decide +kernel
theorem dX11_pay_19 : decode cX11_pay 19 = .ok (.if_icmp .ge 14, 3) := by decide +kernel
theorem dX11_pay_22 : decode cX11_pay 22 = .ok (.iload_n 3, 1) := by decide +kernel
theorem dX11_pay_23 : decode cX11_pay 23 = .ok (.ifCond .lt 10, 3) := by decide +kernel
theorem dX11_pay_26 : decode cX11_pay 26 = .ok (.iload_n 3, 1) := by decide +kernel
theorem dX11_pay_27 : decode cX11_pay 27 = .ok (.sipush 9999, 3) := by decide +kernel
theorem dX11_pay_30 : decode cX11_pay 30 = .ok (.if_icmp .le 5, 3) := by decide +kernel
theorem dX11_pay_33 : decode cX11_pay 33 = .ok (.iconst (-1), 1) := by decide +kernel
theorem dX11_pay_34 : decode cX11_pay 34 = .ok (.ireturn, 1) := by decide +kernel
theorem dX11_pay_35 : decode cX11_pay 35 = .ok (.aload_n 0, 1) := by decide +kernel
theorem dX11_pay_36 : decode cX11_pay 36 = .ok (.getfield 41, 3) := by decide +kernel
theorem dX11_pay_39 : decode cX11_pay 39 = .ok (.iload_n 1, 1) := by decide +kernel
theorem dX11_pay_40 : decode cX11_pay 40 = .ok (.iload_n 3, 1) := by decide +kernel
theorem dX11_pay_41 : decode cX11_pay 41 = .ok (.iconst (-1), 1) := by decide +kernel
theorem dX11_pay_42 : decode cX11_pay 42 = .ok (.invokevirtual 303, 3) := by decide +kernel
theorem dX11_pay_45 : decode cX11_pay 45 = .ok (.ireturn, 1) := by decide +kernel
theorem dX11_strike_0 : decode cX11_strike 0 = .ok (.iload_n 1, 1) := by decide +kernel
theorem dX11_strike_1 : decode cX11_strike 1 = .ok (.ifCond .lt 14, 3) := by decide +kernel
theorem dX11_strike_4 : decode cX11_strike 4 = .ok (.iload_n 1, 1) := by decide +kernel
theorem dX11_strike_5 : decode cX11_strike 5 = .ok (.aload_n 0, 1) := by decide +kernel
theorem dX11_strike_6 : decode cX11_strike 6 = .ok (.getfield 41, 3) := by decide +kernel
theorem dX11_strike_9 : decode cX11_strike 9 = .ok (.getfield 306, 3) := by decide +kernel
theorem dX11_strike_12 : decode cX11_strike 12 = .ok (.if_icmp .lt 5, 3) := by decide +kernel
theorem dX11_strike_15 : decode cX11_strike 15 = .ok (.iconst (-1), 1) := by decide +kernel
theorem dX11_strike_16 : decode cX11_strike 16 = .ok (.ireturn, 1) := by decide +kernel
theorem dX11_strike_17 : decode cX11_strike 17 = .ok (.aload_n 0, 1) := by decide +kernel
theorem dX11_strike_18 : decode cX11_strike 18 = .ok (.getfield 41, 3) := by decide +kernel
theorem dX11_strike_21 : decode cX11_strike 21 = .ok (.iconst (-1), 1) := by decide +kernel
theorem dX11_strike_22 : decode cX11_strike 22 = .ok (.iconst 0, 1) := by decide +kernel
theorem dX11_strike_23 : decode cX11_strike 23 = .ok (.iload_n 1, 1) := by decide +kernel
theorem dX11_strike_24 : decode cX11_strike 24 = .ok (.invokevirtual 303, 3) := by decide +kernel
theorem dX11_strike_27 : decode cX11_strike 27 = .ok (.ireturn, 1) := by decide +kernel
theorem dX11_balance_0 : decode cX11_balance 0 = .ok (.aload_n 0, 1) := by decide +kernel
theorem dX11_balance_1 : decode cX11_balance 1 = .ok (.getfield 22, 3) := by decide +kernel
theorem dX11_balance_4 : decode cX11_balance 4 = .ok (.iload_n 1, 1) := by decide +kernel
theorem dX11_balance_5 : decode cX11_balance 5 = .ok (.invokevirtual 105, 3) := by decide +kernel
theorem dX11_balance_8 : decode cX11_balance 8 = .ok (.ifCond .eq 19, 3) := by decide +kernel
theorem dX11_balance_11 : decode cX11_balance 11 = .ok (.iload_n 2, 1) := by decide +kernel
theorem dX11_balance_12 : decode cX11_balance 12 = .ok (.iconst (-1), 1) := by decide +kernel
theorem dX11_balance_13 : decode cX11_balance 13 = .ok (.if_icmp .lt 14, 3) := by decide +kernel
theorem dX11_balance_16 : decode cX11_balance 16 = .ok (.iload_n 2, 1) := by decide +kernel
theorem dX11_balance_17 : decode cX11_balance 17 = .ok (.aload_n 0, 1) := by decide +kernel
theorem dX11_balance_18 : decode cX11_balance 18 = .ok (.getfield 41, 3) := by decide +kernel
theorem dX11_balance_21 : decode cX11_balance 21 = .ok (.getfield 306, 3) := by decide +kernel
theorem dX11_balance_24 : decode cX11_balance 24 = .ok (.if_icmp .le 6, 3) := by decide +kernel
theorem dX11_balance_27 : decode cX11_balance 27 = .ok (.ldc 239, 2) := by decide +kernel
theorem dX11_balance_29 : decode cX11_balance 29 = .ok (.ireturn, 1) := by decide +kernel
theorem dX11_balance_30 : decode cX11_balance 30 = .ok (.aload_n 0, 1) := by decide +kernel
theorem dX11_balance_31 : decode cX11_balance 31 = .ok (.getfield 41, 3) := by decide +kernel
theorem dX11_balance_34 : decode cX11_balance 34 = .ok (.aload_n 0, 1) := by decide +kernel
theorem dX11_balance_35 : decode cX11_balance 35 = .ok (.getfield 22, 3) := by decide +kernel
theorem dX11_balance_38 : decode cX11_balance 38 = .ok (.iload_n 1, 1) := by decide +kernel
theorem dX11_balance_39 : decode cX11_balance 39 = .ok (.iload_n 2, 1) := by decide +kernel
theorem dX11_balance_40 : decode cX11_balance 40 = .ok (.iconst (-1), 1) := by decide +kernel
theorem dX11_balance_41 : decode cX11_balance 41 = .ok (.if_icmp .ne 13, 3) := by decide +kernel
theorem dX11_balance_44 : decode cX11_balance 44 = .ok (.aload_n 0, 1) := by decide +kernel
theorem dX11_balance_45 : decode cX11_balance 45 = .ok (.getfield 41, 3) := by decide +kernel
theorem dX11_balance_48 : decode cX11_balance 48 = .ok (.getfield 306, 3) := by decide +kernel
theorem dX11_balance_51 : decode cX11_balance 51 = .ok (.goto 4, 3) := by decide +kernel
theorem dX11_balance_54 : decode cX11_balance 54 = .ok (.iload_n 2, 1) := by decide +kernel
theorem dX11_balance_55 : decode cX11_balance 55 = .ok (.invokevirtual 309, 3) := by decide +kernel
theorem dX11_balance_58 : decode cX11_balance 58 = .ok (.ireturn, 1) := by decide +kernel
theorem dX11_oldest_0 : decode cX11_oldest 0 = .ok (.aload_n 0, 1) := by decide +kernel
theorem dX11_oldest_1 : decode cX11_oldest 1 = .ok (.getfield 22, 3) := by decide +kernel
theorem dX11_oldest_4 : decode cX11_oldest 4 = .ok (.iload_n 1, 1) := by decide +kernel
theorem dX11_oldest_5 : decode cX11_oldest 5 = .ok (.invokevirtual 105, 3) := by decide +kernel
theorem dX11_oldest_8 : decode cX11_oldest 8 = .ok (.ifCond .eq 19, 3) := by decide +kernel
theorem dX11_oldest_11 : decode cX11_oldest 11 = .ok (.iload_n 2, 1) := by decide +kernel
theorem dX11_oldest_12 : decode cX11_oldest 12 = .ok (.iconst (-1), 1) := by decide +kernel
theorem dX11_oldest_13 : decode cX11_oldest 13 = .ok (.if_icmp .lt 14, 3) := by decide +kernel
theorem dX11_oldest_16 : decode cX11_oldest 16 = .ok (.iload_n 2, 1) := by decide +kernel
theorem dX11_oldest_17 : decode cX11_oldest 17 = .ok (.aload_n 0, 1) := by decide +kernel
theorem dX11_oldest_18 : decode cX11_oldest 18 = .ok (.getfield 41, 3) := by decide +kernel
theorem dX11_oldest_21 : decode cX11_oldest 21 = .ok (.getfield 306, 3) := by decide +kernel
theorem dX11_oldest_24 : decode cX11_oldest 24 = .ok (.if_icmp .le 6, 3) := by decide +kernel
theorem dX11_oldest_27 : decode cX11_oldest 27 = .ok (.bipush (-2), 2) := by decide +kernel
theorem dX11_oldest_29 : decode cX11_oldest 29 = .ok (.ireturn, 1) := by decide +kernel
theorem dX11_oldest_30 : decode cX11_oldest 30 = .ok (.aload_n 0, 1) := by decide +kernel
theorem dX11_oldest_31 : decode cX11_oldest 31 = .ok (.getfield 41, 3) := by decide +kernel
theorem dX11_oldest_34 : decode cX11_oldest 34 = .ok (.aload_n 0, 1) := by decide +kernel
theorem dX11_oldest_35 : decode cX11_oldest 35 = .ok (.getfield 22, 3) := by decide +kernel
theorem dX11_oldest_38 : decode cX11_oldest 38 = .ok (.iload_n 1, 1) := by decide +kernel
theorem dX11_oldest_39 : decode cX11_oldest 39 = .ok (.iload_n 2, 1) := by decide +kernel
theorem dX11_oldest_40 : decode cX11_oldest 40 = .ok (.iconst (-1), 1) := by decide +kernel
theorem dX11_oldest_41 : decode cX11_oldest 41 = .ok (.if_icmp .ne 13, 3) := by decide +kernel
theorem dX11_oldest_44 : decode cX11_oldest 44 = .ok (.aload_n 0, 1) := by decide +kernel
theorem dX11_oldest_45 : decode cX11_oldest 45 = .ok (.getfield 41, 3) := by decide +kernel
theorem dX11_oldest_48 : decode cX11_oldest 48 = .ok (.getfield 306, 3) := by decide +kernel
theorem dX11_oldest_51 : decode cX11_oldest 51 = .ok (.goto 4, 3) := by decide +kernel
theorem dX11_oldest_54 : decode cX11_oldest 54 = .ok (.iload_n 2, 1) := by decide +kernel
theorem dX11_oldest_55 : decode cX11_oldest 55 = .ok (.invokevirtual 312, 3) := by decide +kernel
theorem dX11_oldest_58 : decode cX11_oldest 58 = .ok (.ireturn, 1) := by decide +kernel
theorem dX11_owed_0 : decode cX11_owed 0 = .ok (.aload_n 0, 1) := by decide +kernel
theorem dX11_owed_1 : decode cX11_owed 1 = .ok (.getfield 22, 3) := by decide +kernel
theorem dX11_owed_4 : decode cX11_owed 4 = .ok (.iload_n 1, 1) := by decide +kernel
theorem dX11_owed_5 : decode cX11_owed 5 = .ok (.invokevirtual 271, 3) := by decide +kernel
theorem dX11_owed_8 : decode cX11_owed 8 = .ok (.ifCond .ne 5, 3) := by decide +kernel
theorem dX11_owed_11 : decode cX11_owed 11 = .ok (.iconst (-1), 1) := by decide +kernel
theorem dX11_owed_12 : decode cX11_owed 12 = .ok (.ireturn, 1) := by decide +kernel
theorem dX11_owed_13 : decode cX11_owed 13 = .ok (.iconst 0, 1) := by decide +kernel
theorem dX11_owed_14 : decode cX11_owed 14 = .ok (.istore_n 2, 1) := by decide +kernel
theorem dX11_owed_15 : decode cX11_owed 15 = .ok (.iconst 0, 1) := by decide +kernel
theorem dX11_owed_16 : decode cX11_owed 16 = .ok (.istore_n 3, 1) := by decide +kernel
theorem dX11_owed_17 : decode cX11_owed 17 = .ok (.iload_n 3, 1) := by decide +kernel
theorem dX11_owed_18 : decode cX11_owed 18 = .ok (.aload_n 0, 1) := by decide +kernel
theorem dX11_owed_19 : decode cX11_owed 19 = .ok (.getfield 22, 3) := by decide +kernel
theorem dX11_owed_22 : decode cX11_owed 22 = .ok (.getfield 315, 3) := by decide +kernel
theorem dX11_owed_25 : decode cX11_owed 25 = .ok (.if_icmp .ge 48, 3) := by decide +kernel
theorem dX11_owed_28 : decode cX11_owed 28 = .ok (.aload_n 0, 1) := by decide +kernel
theorem dX11_owed_29 : decode cX11_owed 29 = .ok (.getfield 41, 3) := by decide +kernel
theorem dX11_owed_32 : decode cX11_owed 32 = .ok (.getfield 121, 3) := by decide +kernel
theorem dX11_owed_35 : decode cX11_owed 35 = .ok (.iload_n 3, 1) := by decide +kernel
theorem dX11_owed_36 : decode cX11_owed 36 = .ok (.iaload, 1) := by decide +kernel
theorem dX11_owed_37 : decode cX11_owed 37 = .ok (.iload_n 1, 1) := by decide +kernel
theorem dX11_owed_38 : decode cX11_owed 38 = .ok (.if_icmp .ne 29, 3) := by decide +kernel
theorem dX11_owed_41 : decode cX11_owed 41 = .ok (.iload_n 2, 1) := by decide +kernel
theorem dX11_owed_42 : decode cX11_owed 42 = .ok (.iconst 0, 1) := by decide +kernel
theorem dX11_owed_43 : decode cX11_owed 43 = .ok (.aload_n 0, 1) := by decide +kernel
theorem dX11_owed_44 : decode cX11_owed 44 = .ok (.getfield 41, 3) := by decide +kernel
theorem dX11_owed_47 : decode cX11_owed 47 = .ok (.aload_n 0, 1) := by decide +kernel
theorem dX11_owed_48 : decode cX11_owed 48 = .ok (.getfield 22, 3) := by decide +kernel
theorem dX11_owed_51 : decode cX11_owed 51 = .ok (.iload_n 3, 1) := by decide +kernel
theorem dX11_owed_52 : decode cX11_owed 52 = .ok (.aload_n 0, 1) := by decide +kernel
theorem dX11_owed_53 : decode cX11_owed 53 = .ok (.getfield 41, 3) := by decide +kernel
theorem dX11_owed_56 : decode cX11_owed 56 = .ok (.getfield 306, 3) := by decide +kernel
theorem dX11_owed_59 : decode cX11_owed 59 = .ok (.invokevirtual 309, 3) := by decide +kernel
theorem dX11_owed_62 : decode cX11_owed 62 = .ok (.invokestatic 318, 3) := by decide +kernel
theorem dX11_owed_65 : decode cX11_owed 65 = .ok (.iadd, 1) := by decide +kernel
theorem dX11_owed_66 : decode cX11_owed 66 = .ok (.istore_n 2, 1) := by decide +kernel
theorem dX11_owed_67 : decode cX11_owed 67 = .ok (.iinc 3 1, 3) := by decide +kernel
theorem dX11_owed_70 : decode cX11_owed 70 = .ok (.goto (-53), 3) := by decide +kernel
theorem dX11_owed_73 : decode cX11_owed 73 = .ok (.iload_n 2, 1) := by decide +kernel
theorem dX11_owed_74 : decode cX11_owed 74 = .ok (.ireturn, 1) := by decide +kernel
theorem dX11_worth_0 : decode cX11_worth 0 = .ok (.aload_n 0, 1) := by decide +kernel
theorem dX11_worth_1 : decode cX11_worth 1 = .ok (.getfield 22, 3) := by decide +kernel
theorem dX11_worth_4 : decode cX11_worth 4 = .ok (.iload_n 1, 1) := by decide +kernel
theorem dX11_worth_5 : decode cX11_worth 5 = .ok (.invokevirtual 271, 3) := by decide +kernel
theorem dX11_worth_8 : decode cX11_worth 8 = .ok (.ifCond .eq 18, 3) := by decide +kernel
theorem dX11_worth_11 : decode cX11_worth 11 = .ok (.aload_n 0, 1) := by decide +kernel
theorem dX11_worth_12 : decode cX11_worth 12 = .ok (.getfield 41, 3) := by decide +kernel
theorem dX11_worth_15 : decode cX11_worth 15 = .ok (.aload_n 0, 1) := by decide +kernel
theorem dX11_worth_16 : decode cX11_worth 16 = .ok (.getfield 22, 3) := by decide +kernel
theorem dX11_worth_19 : decode cX11_worth 19 = .ok (.iload_n 1, 1) := by decide +kernel
theorem dX11_worth_20 : decode cX11_worth 20 = .ok (.invokevirtual 323, 3) := by decide +kernel
theorem dX11_worth_23 : decode cX11_worth 23 = .ok (.goto 4, 3) := by decide +kernel
theorem dX11_worth_26 : decode cX11_worth 26 = .ok (.iconst (-1), 1) := by decide +kernel
theorem dX11_worth_27 : decode cX11_worth 27 = .ok (.ireturn, 1) := by decide +kernel
theorem dX11_tour_0 : decode cX11_tour 0 = .ok (.aload_n 0, 1) := by decide +kernel
theorem dX11_tour_1 : decode cX11_tour 1 = .ok (.getfield 22, 3) := by decide +kernel
theorem dX11_tour_4 : decode cX11_tour 4 = .ok (.iload_n 1, 1) := by decide +kernel
theorem dX11_tour_5 : decode cX11_tour 5 = .ok (.invokevirtual 271, 3) := by decide +kernel
theorem dX11_tour_8 : decode cX11_tour 8 = .ok (.ifCond .eq 18, 3) := by decide +kernel
theorem dX11_tour_11 : decode cX11_tour 11 = .ok (.aload_n 0, 1) := by decide +kernel
theorem dX11_tour_12 : decode cX11_tour 12 = .ok (.invokevirtual 277, 3) := by decide +kernel
theorem dX11_tour_15 : decode cX11_tour 15 = .ok (.aload_n 0, 1) := by decide +kernel
theorem dX11_tour_16 : decode cX11_tour 16 = .ok (.getfield 22, 3) := by decide +kernel
theorem dX11_tour_19 : decode cX11_tour 19 = .ok (.iload_n 1, 1) := by decide +kernel
theorem dX11_tour_20 : decode cX11_tour 20 = .ok (.invokevirtual 327, 3) := by decide +kernel
theorem dX11_tour_23 : decode cX11_tour 23 = .ok (.goto 4, 3) := by decide +kernel
theorem dX11_tour_26 : decode cX11_tour 26 = .ok (.iconst (-1), 1) := by decide +kernel
theorem dX11_tour_27 : decode cX11_tour 27 = .ok (.ireturn, 1) := by decide +kernel
theorem dX11_swap_0 : decode cX11_swap 0 = .ok (.aload_n 0, 1) := by decide +kernel
theorem dX11_swap_1 : decode cX11_swap 1 = .ok (.getfield 22, 3) := by decide +kernel
theorem dX11_swap_4 : decode cX11_swap 4 = .ok (.getfield 330, 3) := by decide +kernel
theorem dX11_swap_7 : decode cX11_swap 7 = .ok (.ifCond .eq 29, 3) := by decide +kernel
theorem dX11_swap_10 : decode cX11_swap 10 = .ok (.iload_n 1, 1) := by decide +kernel
theorem dX11_swap_11 : decode cX11_swap 11 = .ok (.ifCond .lt 25, 3) := by decide +kernel
theorem dX11_swap_14 : decode cX11_swap 14 = .ok (.iload_n 1, 1) := by decide +kernel
theorem dX11_swap_15 : decode cX11_swap 15 = .ok (.sipush 9999, 3) := by decide +kernel
theorem dX11_swap_18 : decode cX11_swap 18 = .ok (.if_icmp .gt 18, 3) := by decide +kernel
theorem dX11_swap_21 : decode cX11_swap 21 = .ok (.iload_n 2, 1) := by decide +kernel
theorem dX11_swap_22 : decode cX11_swap 22 = .ok (.ifCond .lt 14, 3) := by decide +kernel
theorem dX11_swap_25 : decode cX11_swap 25 = .ok (.iload_n 2, 1) := by decide +kernel
theorem dX11_swap_26 : decode cX11_swap 26 = .ok (.aload_n 0, 1) := by decide +kernel
theorem dX11_swap_27 : decode cX11_swap 27 = .ok (.getfield 22, 3) := by decide +kernel
theorem dX11_swap_30 : decode cX11_swap 30 = .ok (.getfield 315, 3) := by decide +kernel
theorem dX11_swap_33 : decode cX11_swap 33 = .ok (.if_icmp .le 5, 3) := by decide +kernel
theorem dX11_swap_36 : decode cX11_swap 36 = .ok (.iconst (-1), 1) := by decide +kernel
theorem dX11_swap_37 : decode cX11_swap 37 = .ok (.ireturn, 1) := by decide +kernel
theorem dX11_swap_38 : decode cX11_swap 38 = .ok (.aload_n 0, 1) := by decide +kernel
theorem dX11_swap_39 : decode cX11_swap 39 = .ok (.invokevirtual 277, 3) := by decide +kernel
theorem dX11_swap_42 : decode cX11_swap 42 = .ok (.aload_n 0, 1) := by decide +kernel
theorem dX11_swap_43 : decode cX11_swap 43 = .ok (.getfield 22, 3) := by decide +kernel
theorem dX11_swap_46 : decode cX11_swap 46 = .ok (.iload_n 1, 1) := by decide +kernel
theorem dX11_swap_47 : decode cX11_swap 47 = .ok (.invokevirtual 333, 3) := by decide +kernel
theorem dX11_swap_50 : decode cX11_swap 50 = .ok (.istore_n 3, 1) := by decide +kernel
theorem dX11_swap_51 : decode cX11_swap 51 = .ok (.iload_n 2, 1) := by decide +kernel
theorem dX11_swap_52 : decode cX11_swap 52 = .ok (.ifCond .ne 7, 3) := by decide +kernel
theorem dX11_swap_55 : decode cX11_swap 55 = .ok (.iload_n 3, 1) := by decide +kernel
theorem dX11_swap_56 : decode cX11_swap 56 = .ok (.goto 13, 3) := by decide +kernel
theorem dX11_swap_59 : decode cX11_swap 59 = .ok (.aload_n 0, 1) := by decide +kernel
theorem dX11_swap_60 : decode cX11_swap 60 = .ok (.getfield 60, 3) := by decide +kernel
theorem dX11_swap_63 : decode cX11_swap 63 = .ok (.iload_n 2, 1) := by decide +kernel
theorem dX11_swap_64 : decode cX11_swap 64 = .ok (.iconst 1, 1) := by decide +kernel
theorem dX11_swap_65 : decode cX11_swap 65 = .ok (.isub, 1) := by decide +kernel
theorem dX11_swap_66 : decode cX11_swap 66 = .ok (.invokevirtual 336, 3) := by decide +kernel
theorem dX11_swap_69 : decode cX11_swap 69 = .ok (.ireturn, 1) := by decide +kernel
theorem dX11_sell_0 : decode cX11_sell 0 = .ok (.aload_n 0, 1) := by decide +kernel
theorem dX11_sell_1 : decode cX11_sell 1 = .ok (.getfield 22, 3) := by decide +kernel
theorem dX11_sell_4 : decode cX11_sell 4 = .ok (.iload_n 1, 1) := by decide +kernel
theorem dX11_sell_5 : decode cX11_sell 5 = .ok (.invokevirtual 105, 3) := by decide +kernel
theorem dX11_sell_8 : decode cX11_sell 8 = .ok (.ifCond .eq 27, 3) := by decide +kernel
theorem dX11_sell_11 : decode cX11_sell 11 = .ok (.aload_n 0, 1) := by decide +kernel
theorem dX11_sell_12 : decode cX11_sell 12 = .ok (.getfield 22, 3) := by decide +kernel
theorem dX11_sell_15 : decode cX11_sell 15 = .ok (.iload_n 2, 1) := by decide +kernel
theorem dX11_sell_16 : decode cX11_sell 16 = .ok (.invokevirtual 271, 3) := by decide +kernel
theorem dX11_sell_19 : decode cX11_sell 19 = .ok (.ifCond .eq 16, 3) := by decide +kernel
theorem dX11_sell_22 : decode cX11_sell 22 = .ok (.aload_n 0, 1) := by decide +kernel
theorem dX11_sell_23 : decode cX11_sell 23 = .ok (.getfield 41, 3) := by decide +kernel
theorem dX11_sell_26 : decode cX11_sell 26 = .ok (.getfield 121, 3) := by decide +kernel
theorem dX11_sell_29 : decode cX11_sell 29 = .ok (.iload_n 1, 1) := by decide +kernel
theorem dX11_sell_30 : decode cX11_sell 30 = .ok (.iaload, 1) := by decide +kernel
theorem dX11_sell_31 : decode cX11_sell 31 = .ok (.iload_n 2, 1) := by decide +kernel
theorem dX11_sell_32 : decode cX11_sell 32 = .ok (.if_icmp .ne 5, 3) := by decide +kernel
theorem dX11_sell_35 : decode cX11_sell 35 = .ok (.iconst 0, 1) := by decide +kernel
theorem dX11_sell_36 : decode cX11_sell 36 = .ok (.ireturn, 1) := by decide +kernel
theorem dX11_sell_37 : decode cX11_sell 37 = .ok (.aload_n 0, 1) := by decide +kernel
theorem dX11_sell_38 : decode cX11_sell 38 = .ok (.getfield 41, 3) := by decide +kernel
theorem dX11_sell_41 : decode cX11_sell 41 = .ok (.getfield 121, 3) := by decide +kernel
theorem dX11_sell_44 : decode cX11_sell 44 = .ok (.iload_n 1, 1) := by decide +kernel
theorem dX11_sell_45 : decode cX11_sell 45 = .ok (.iload_n 2, 1) := by decide +kernel
theorem dX11_sell_46 : decode cX11_sell 46 = .ok (.iastore, 1) := by decide +kernel
theorem dX11_sell_47 : decode cX11_sell 47 = .ok (.aload_n 0, 1) := by decide +kernel
theorem dX11_sell_48 : decode cX11_sell 48 = .ok (.invokevirtual 277, 3) := by decide +kernel
theorem dX11_sell_51 : decode cX11_sell 51 = .ok (.invokevirtual 339, 3) := by decide +kernel
theorem dX11_sell_54 : decode cX11_sell 54 = .ok (.iconst 1, 1) := by decide +kernel
theorem dX11_sell_55 : decode cX11_sell 55 = .ok (.ireturn, 1) := by decide +kernel
theorem dX11_instead_0 : decode cX11_instead 0 = .ok (.aload_n 0, 1) := by decide +kernel
theorem dX11_instead_1 : decode cX11_instead 1 = .ok (.getfield 22, 3) := by decide +kernel
theorem dX11_instead_4 : decode cX11_instead 4 = .ok (.getfield 86, 3) := by decide +kernel
theorem dX11_instead_7 : decode cX11_instead 7 = .ok (.iload_n 1, 1) := by decide +kernel
theorem dX11_instead_8 : decode cX11_instead 8 = .ok (.invokevirtual 198, 3) := by decide +kernel
theorem dX11_instead_11 : decode cX11_instead 11 = .ok (.ifCond .ne 5, 3) := by decide +kernel
theorem dX11_instead_14 : decode cX11_instead 14 = .ok (.iconst (-1), 1) := by decide +kernel
theorem dX11_instead_15 : decode cX11_instead 15 = .ok (.ireturn, 1) := by decide +kernel
theorem dX11_instead_16 : decode cX11_instead 16 = .ok (.iconst 0, 1) := by decide +kernel
theorem dX11_instead_17 : decode cX11_instead 17 = .ok (.istore_n 2, 1) := by decide +kernel
theorem dX11_instead_18 : decode cX11_instead 18 = .ok (.iconst 0, 1) := by decide +kernel
theorem dX11_instead_19 : decode cX11_instead 19 = .ok (.istore_n 3, 1) := by decide +kernel
theorem dX11_instead_20 : decode cX11_instead 20 = .ok (.iload_n 3, 1) := by decide +kernel
theorem dX11_instead_21 : decode cX11_instead 21 = .ok (.aload_n 0, 1) := by decide +kernel
theorem dX11_instead_22 : decode cX11_instead 22 = .ok (.getfield 22, 3) := by decide +kernel
theorem dX11_instead_25 : decode cX11_instead 25 = .ok (.getfield 315, 3) := by decide +kernel
theorem dX11_instead_28 : decode cX11_instead 28 = .ok (.if_icmp .ge 65, 3) := by decide +kernel
theorem dX11_instead_31 : decode cX11_instead 31 = .ok (.aload_n 0, 1) := by decide +kernel
theorem dX11_instead_32 : decode cX11_instead 32 = .ok (.getfield 22, 3) := by decide +kernel
theorem dX11_instead_35 : decode cX11_instead 35 = .ok (.getfield 112, 3) := by decide +kernel
theorem dX11_instead_38 : decode cX11_instead 38 = .ok (.iload_n 3, 1) := by decide +kernel
theorem dX11_instead_39 : decode cX11_instead 39 = .ok (.aaload, 1) := by decide +kernel
theorem dX11_instead_40 : decode cX11_instead 40 = .ok (.getfield 116, 3) := by decide +kernel
theorem dX11_instead_43 : decode cX11_instead 43 = .ok (.istore 4, 2) := by decide +kernel
theorem dX11_instead_45 : decode cX11_instead 45 = .ok (.iload_n 2, 1) := by decide +kernel
theorem dX11_instead_46 : decode cX11_instead 46 = .ok (.aload_n 0, 1) := by decide +kernel
theorem dX11_instead_47 : decode cX11_instead 47 = .ok (.invokevirtual 201, 3) := by decide +kernel
theorem dX11_instead_50 : decode cX11_instead 50 = .ok (.aload_n 0, 1) := by decide +kernel
theorem dX11_instead_51 : decode cX11_instead 51 = .ok (.getfield 22, 3) := by decide +kernel
theorem dX11_instead_54 : decode cX11_instead 54 = .ok (.iload 4, 2) := by decide +kernel
theorem dX11_instead_56 : decode cX11_instead 56 = .ok (.iload_n 1, 1) := by decide +kernel
theorem dX11_instead_57 : decode cX11_instead 57 = .ok (.iconst 0, 1) := by decide +kernel
theorem dX11_instead_58 : decode cX11_instead 58 = .ok (.invokevirtual 221, 3) := by decide +kernel
theorem dX11_instead_61 : decode cX11_instead 61 = .ok (.iadd, 1) := by decide +kernel
theorem dX11_instead_62 : decode cX11_instead 62 = .ok (.istore_n 2, 1) := by decide +kernel
theorem dX11_instead_63 : decode cX11_instead 63 = .ok (.iload_n 2, 1) := by decide +kernel
theorem dX11_instead_64 : decode cX11_instead 64 = .ok (.bipush 50, 2) := by decide +kernel
theorem dX11_instead_66 : decode cX11_instead 66 = .ok (.aload_n 0, 1) := by decide +kernel
theorem dX11_instead_67 : decode cX11_instead 67 = .ok (.invokevirtual 201, 3) := by decide +kernel
theorem dX11_instead_70 : decode cX11_instead 70 = .ok (.aload_n 0, 1) := by decide +kernel
theorem dX11_instead_71 : decode cX11_instead 71 = .ok (.getfield 22, 3) := by decide +kernel
theorem dX11_instead_74 : decode cX11_instead 74 = .ok (.iload 4, 2) := by decide +kernel
theorem dX11_instead_76 : decode cX11_instead 76 = .ok (.iload_n 1, 1) := by decide +kernel
theorem dX11_instead_77 : decode cX11_instead 77 = .ok (.iconst 0, 1) := by decide +kernel
theorem dX11_instead_78 : decode cX11_instead 78 = .ok (.invokevirtual 205, 3) := by decide +kernel
theorem dX11_instead_81 : decode cX11_instead 81 = .ok (.invokestatic 342, 3) := by decide +kernel
theorem dX11_instead_84 : decode cX11_instead 84 = .ok (.imul, 1) := by decide +kernel
theorem dX11_instead_85 : decode cX11_instead 85 = .ok (.iadd, 1) := by decide +kernel
theorem dX11_instead_86 : decode cX11_instead 86 = .ok (.istore_n 2, 1) := by decide +kernel
theorem dX11_instead_87 : decode cX11_instead 87 = .ok (.iinc 3 1, 3) := by decide +kernel
theorem dX11_instead_90 : decode cX11_instead 90 = .ok (.goto (-70), 3) := by decide +kernel
theorem dX11_instead_93 : decode cX11_instead 93 = .ok (.iload_n 2, 1) := by decide +kernel
theorem dX11_instead_94 : decode cX11_instead 94 = .ok (.ireturn, 1) := by decide +kernel
theorem dX11_tanks_0 : decode cX11_tanks 0 = .ok (.aload_n 0, 1) := by decide +kernel
theorem dX11_tanks_1 : decode cX11_tanks 1 = .ok (.getfield 22, 3) := by decide +kernel
theorem dX11_tanks_4 : decode cX11_tanks 4 = .ok (.iload_n 1, 1) := by decide +kernel
theorem dX11_tanks_5 : decode cX11_tanks 5 = .ok (.invokevirtual 271, 3) := by decide +kernel
theorem dX11_tanks_8 : decode cX11_tanks 8 = .ok (.ifCond .eq 14, 3) := by decide +kernel
theorem dX11_tanks_11 : decode cX11_tanks 11 = .ok (.aload_n 0, 1) := by decide +kernel
theorem dX11_tanks_12 : decode cX11_tanks 12 = .ok (.getfield 41, 3) := by decide +kernel
theorem dX11_tanks_15 : decode cX11_tanks 15 = .ok (.iload_n 2, 1) := by decide +kernel
theorem dX11_tanks_16 : decode cX11_tanks 16 = .ok (.invokevirtual 265, 3) := by decide +kernel
theorem dX11_tanks_19 : decode cX11_tanks 19 = .ok (.ifCond .ne 5, 3) := by decide +kernel
theorem dX11_tanks_22 : decode cX11_tanks 22 = .ok (.iconst (-1), 1) := by decide +kernel
theorem dX11_tanks_23 : decode cX11_tanks 23 = .ok (.ireturn, 1) := by decide +kernel
theorem dX11_tanks_24 : decode cX11_tanks 24 = .ok (.aload_n 0, 1) := by decide +kernel
theorem dX11_tanks_25 : decode cX11_tanks 25 = .ok (.getfield 22, 3) := by decide +kernel
theorem dX11_tanks_28 : decode cX11_tanks 28 = .ok (.getfield 345, 3) := by decide +kernel
theorem dX11_tanks_31 : decode cX11_tanks 31 = .ok (.ifCond .gt 5, 3) := by decide +kernel
theorem dX11_tanks_34 : decode cX11_tanks 34 = .ok (.iconst 0, 1) := by decide +kernel
theorem dX11_tanks_35 : decode cX11_tanks 35 = .ok (.ireturn, 1) := by decide +kernel
theorem dX11_tanks_36 : decode cX11_tanks 36 = .ok (.aload_n 0, 1) := by decide +kernel
theorem dX11_tanks_37 : decode cX11_tanks 37 = .ok (.invokevirtual 227, 3) := by decide +kernel
theorem dX11_tanks_40 : decode cX11_tanks 40 = .ok (.aload_n 0, 1) := by decide +kernel
theorem dX11_tanks_41 : decode cX11_tanks 41 = .ok (.getfield 22, 3) := by decide +kernel
theorem dX11_tanks_44 : decode cX11_tanks 44 = .ok (.iload_n 1, 1) := by decide +kernel
theorem dX11_tanks_45 : decode cX11_tanks 45 = .ok (.iload_n 2, 1) := by decide +kernel
theorem dX11_tanks_46 : decode cX11_tanks 46 = .ok (.invokevirtual 348, 3) := by decide +kernel
theorem dX11_tanks_49 : decode cX11_tanks 49 = .ok (.aload_n 0, 1) := by decide +kernel
theorem dX11_tanks_50 : decode cX11_tanks 50 = .ok (.getfield 22, 3) := by decide +kernel
theorem dX11_tanks_53 : decode cX11_tanks 53 = .ok (.getfield 351, 3) := by decide +kernel
theorem dX11_tanks_56 : decode cX11_tanks 56 = .ok (.imul, 1) := by decide +kernel
theorem dX11_tanks_57 : decode cX11_tanks 57 = .ok (.istore_n 3, 1) := by decide +kernel
theorem dX11_tanks_58 : decode cX11_tanks 58 = .ok (.iload_n 3, 1) := by decide +kernel
theorem dX11_tanks_59 : decode cX11_tanks 59 = .ok (.aload_n 0, 1) := by decide +kernel
theorem dX11_tanks_60 : decode cX11_tanks 60 = .ok (.getfield 22, 3) := by decide +kernel
theorem dX11_tanks_63 : decode cX11_tanks 63 = .ok (.getfield 345, 3) := by decide +kernel
theorem dX11_tanks_66 : decode cX11_tanks 66 = .ok (.iadd, 1) := by decide +kernel
theorem dX11_tanks_67 : decode cX11_tanks 67 = .ok (.iconst 1, 1) := by decide +kernel
theorem dX11_tanks_68 : decode cX11_tanks 68 = .ok (.isub, 1) := by decide +kernel
theorem dX11_tanks_69 : decode cX11_tanks 69 = .ok (.aload_n 0, 1) := by decide +kernel
theorem dX11_tanks_70 : decode cX11_tanks 70 = .ok (.getfield 22, 3) := by decide +kernel
theorem dX11_tanks_73 : decode cX11_tanks 73 = .ok (.getfield 345, 3) := by decide +kernel
theorem dX11_tanks_76 : decode cX11_tanks 76 = .ok (.idiv, 1) := by decide +kernel
theorem dX11_tanks_77 : decode cX11_tanks 77 = .ok (.ireturn, 1) := by decide +kernel
theorem dX11_keep_0 : decode cX11_keep 0 = .ok (.aload_n 0, 1) := by decide +kernel
theorem dX11_keep_1 : decode cX11_keep 1 = .ok (.getfield 45, 3) := by decide +kernel
theorem dX11_keep_4 : decode cX11_keep 4 = .ok (.ifnonnull 18, 3) := by decide +kernel
theorem dX11_keep_7 : decode cX11_keep 7 = .ok (.aload_n 0, 1) := by decide +kernel
theorem dX11_keep_8 : decode cX11_keep 8 = .ok (.new 36, 3) := by decide +kernel
theorem dX11_keep_11 : decode cX11_keep 11 = .ok (.dup, 1) := by decide +kernel
theorem dX11_keep_12 : decode cX11_keep 12 = .ok (.aload_n 0, 1) := by decide +kernel
theorem dX11_keep_13 : decode cX11_keep 13 = .ok (.getfield 41, 3) := by decide +kernel
theorem dX11_keep_16 : decode cX11_keep 16 = .ok (.invokespecial 38, 3) := by decide +kernel
theorem dX11_keep_19 : decode cX11_keep 19 = .ok (.putfield 45, 3) := by decide +kernel
theorem dX11_keep_22 : decode cX11_keep 22 = .ok (.aload_n 0, 1) := by decide +kernel
theorem dX11_keep_23 : decode cX11_keep 23 = .ok (.getfield 45, 3) := by decide +kernel
theorem dX11_keep_26 : decode cX11_keep 26 = .ok (.aload_n 0, 1) := by decide +kernel
theorem dX11_keep_27 : decode cX11_keep 27 = .ok (.getfield 41, 3) := by decide +kernel
theorem dX11_keep_30 : decode cX11_keep 30 = .ok (.invokevirtual 354, 3) := by decide +kernel
theorem dX11_keep_33 : decode cX11_keep 33 = .ok (.aload_n 0, 1) := by decide +kernel
theorem dX11_keep_34 : decode cX11_keep 34 = .ok (.iconst 1, 1) := by decide +kernel
theorem dX11_keep_35 : decode cX11_keep 35 = .ok (.putfield 48, 3) := by decide +kernel
theorem dX11_keep_38 : decode cX11_keep 38 = .ok (.aload_n 0, 1) := by decide +kernel
theorem dX11_keep_39 : decode cX11_keep 39 = .ok (.getfield 41, 3) := by decide +kernel
theorem dX11_keep_42 : decode cX11_keep 42 = .ok (.getfield 224, 3) := by decide +kernel
theorem dX11_keep_45 : decode cX11_keep 45 = .ok (.ireturn, 1) := by decide +kernel
theorem dX11_back_0 : decode cX11_back 0 = .ok (.aload_n 0, 1) := by decide +kernel
theorem dX11_back_1 : decode cX11_back 1 = .ok (.getfield 48, 3) := by decide +kernel
theorem dX11_back_4 : decode cX11_back 4 = .ok (.ifCond .eq 10, 3) := by decide +kernel
theorem dX11_back_7 : decode cX11_back 7 = .ok (.aload_n 0, 1) := by decide +kernel
theorem dX11_back_8 : decode cX11_back 8 = .ok (.getfield 45, 3) := by decide +kernel
theorem dX11_back_11 : decode cX11_back 11 = .ok (.ifnonnull 5, 3) := by decide +kernel
theorem dX11_back_14 : decode cX11_back 14 = .ok (.iconst (-1), 1) := by decide +kernel
theorem dX11_back_15 : decode cX11_back 15 = .ok (.ireturn, 1) := by decide +kernel
theorem dX11_back_16 : decode cX11_back 16 = .ok (.aload_n 0, 1) := by decide +kernel
theorem dX11_back_17 : decode cX11_back 17 = .ok (.getfield 41, 3) := by decide +kernel
theorem dX11_back_20 : decode cX11_back 20 = .ok (.aload_n 0, 1) := by decide +kernel
theorem dX11_back_21 : decode cX11_back 21 = .ok (.getfield 45, 3) := by decide +kernel
theorem dX11_back_24 : decode cX11_back 24 = .ok (.invokevirtual 354, 3) := by decide +kernel
theorem dX11_back_27 : decode cX11_back 27 = .ok (.aload_n 0, 1) := by decide +kernel
theorem dX11_back_28 : decode cX11_back 28 = .ok (.invokevirtual 277, 3) := by decide +kernel
theorem dX11_back_31 : decode cX11_back 31 = .ok (.invokevirtual 339, 3) := by decide +kernel
theorem dX11_back_34 : decode cX11_back 34 = .ok (.aload_n 0, 1) := by decide +kernel
theorem dX11_back_35 : decode cX11_back 35 = .ok (.getfield 41, 3) := by decide +kernel
theorem dX11_back_38 : decode cX11_back 38 = .ok (.getfield 224, 3) := by decide +kernel
theorem dX11_back_41 : decode cX11_back 41 = .ok (.ireturn, 1) := by decide +kernel
theorem dX11_count_0 : decode cX11_count 0 = .ok (.iload_n 1, 1) := by decide +kernel
theorem dX11_count_1 : decode cX11_count 1 = .ok (.tableswitch 205 0 12 #[67, 78, 89, 97, 105, 113, 121, 129, 137, 145, 153, 161, 183], 67) := by decide +kernel
theorem dX11_count_68 : decode cX11_count 68 = .ok (.aload_n 0, 1) := by decide +kernel
theorem dX11_count_69 : decode cX11_count 69 = .ok (.getfield 22, 3) := by decide +kernel
theorem dX11_count_72 : decode cX11_count 72 = .ok (.getfield 86, 3) := by decide +kernel
theorem dX11_count_75 : decode cX11_count 75 = .ok (.getfield 357, 3) := by decide +kernel
theorem dX11_count_78 : decode cX11_count 78 = .ok (.ireturn, 1) := by decide +kernel
theorem dX11_count_79 : decode cX11_count 79 = .ok (.aload_n 0, 1) := by decide +kernel
theorem dX11_count_80 : decode cX11_count 80 = .ok (.getfield 22, 3) := by decide +kernel
theorem dX11_count_83 : decode cX11_count 83 = .ok (.getfield 86, 3) := by decide +kernel
theorem dX11_count_86 : decode cX11_count 86 = .ok (.getfield 360, 3) := by decide +kernel
theorem dX11_count_89 : decode cX11_count 89 = .ok (.ireturn, 1) := by decide +kernel
theorem dX11_count_90 : decode cX11_count 90 = .ok (.aload_n 0, 1) := by decide +kernel
theorem dX11_count_91 : decode cX11_count 91 = .ok (.getfield 22, 3) := by decide +kernel
theorem dX11_count_94 : decode cX11_count 94 = .ok (.getfield 363, 3) := by decide +kernel
theorem dX11_count_97 : decode cX11_count 97 = .ok (.ireturn, 1) := by decide +kernel
theorem dX11_count_98 : decode cX11_count 98 = .ok (.aload_n 0, 1) := by decide +kernel
theorem dX11_count_99 : decode cX11_count 99 = .ok (.getfield 22, 3) := by decide +kernel
theorem dX11_count_102 : decode cX11_count 102 = .ok (.getfield 330, 3) := by decide +kernel
theorem dX11_count_105 : decode cX11_count 105 = .ok (.ireturn, 1) := by decide +kernel
theorem dX11_count_106 : decode cX11_count 106 = .ok (.aload_n 0, 1) := by decide +kernel
theorem dX11_count_107 : decode cX11_count 107 = .ok (.getfield 22, 3) := by decide +kernel
theorem dX11_count_110 : decode cX11_count 110 = .ok (.getfield 315, 3) := by decide +kernel
theorem dX11_count_113 : decode cX11_count 113 = .ok (.ireturn, 1) := by decide +kernel
theorem dX11_count_114 : decode cX11_count 114 = .ok (.aload_n 0, 1) := by decide +kernel
theorem dX11_count_115 : decode cX11_count 115 = .ok (.getfield 41, 3) := by decide +kernel
theorem dX11_count_118 : decode cX11_count 118 = .ok (.getfield 306, 3) := by decide +kernel
theorem dX11_count_121 : decode cX11_count 121 = .ok (.ireturn, 1) := by decide +kernel
theorem dX11_count_122 : decode cX11_count 122 = .ok (.aload_n 0, 1) := by decide +kernel
theorem dX11_count_123 : decode cX11_count 123 = .ok (.getfield 41, 3) := by decide +kernel
theorem dX11_count_126 : decode cX11_count 126 = .ok (.getfield 224, 3) := by decide +kernel
theorem dX11_count_129 : decode cX11_count 129 = .ok (.ireturn, 1) := by decide +kernel
theorem dX11_count_130 : decode cX11_count 130 = .ok (.aload_n 0, 1) := by decide +kernel
theorem dX11_count_131 : decode cX11_count 131 = .ok (.getfield 22, 3) := by decide +kernel
theorem dX11_count_134 : decode cX11_count 134 = .ok (.invokevirtual 366, 3) := by decide +kernel
theorem dX11_count_137 : decode cX11_count 137 = .ok (.ireturn, 1) := by decide +kernel
theorem dX11_count_138 : decode cX11_count 138 = .ok (.aload_n 0, 1) := by decide +kernel
theorem dX11_count_139 : decode cX11_count 139 = .ok (.getfield 22, 3) := by decide +kernel
theorem dX11_count_142 : decode cX11_count 142 = .ok (.invokevirtual 370, 3) := by decide +kernel
theorem dX11_count_145 : decode cX11_count 145 = .ok (.ireturn, 1) := by decide +kernel
theorem dX11_count_146 : decode cX11_count 146 = .ok (.aload_n 0, 1) := by decide +kernel
theorem dX11_count_147 : decode cX11_count 147 = .ok (.getfield 22, 3) := by decide +kernel
theorem dX11_count_150 : decode cX11_count 150 = .ok (.getfield 345, 3) := by decide +kernel
theorem dX11_count_153 : decode cX11_count 153 = .ok (.ireturn, 1) := by decide +kernel
theorem dX11_count_154 : decode cX11_count 154 = .ok (.aload_n 0, 1) := by decide +kernel
theorem dX11_count_155 : decode cX11_count 155 = .ok (.getfield 22, 3) := by decide +kernel
theorem dX11_count_158 : decode cX11_count 158 = .ok (.getfield 351, 3) := by decide +kernel
theorem dX11_count_161 : decode cX11_count 161 = .ok (.ireturn, 1) := by decide +kernel
theorem dX11_count_162 : decode cX11_count 162 = .ok (.aload_n 0, 1) := by decide +kernel
theorem dX11_count_163 : decode cX11_count 163 = .ok (.getfield 41, 3) := by decide +kernel
theorem dX11_count_166 : decode cX11_count 166 = .ok (.aload_n 0, 1) := by decide +kernel
theorem dX11_count_167 : decode cX11_count 167 = .ok (.getfield 41, 3) := by decide +kernel
theorem dX11_count_170 : decode cX11_count 170 = .ok (.getfield 246, 3) := by decide +kernel
theorem dX11_count_173 : decode cX11_count 173 = .ok (.aload_n 0, 1) := by decide +kernel
theorem dX11_count_174 : decode cX11_count 174 = .ok (.getfield 22, 3) := by decide +kernel
theorem dX11_count_177 : decode cX11_count 177 = .ok (.getfield 315, 3) := by decide +kernel
theorem dX11_count_180 : decode cX11_count 180 = .ok (.invokevirtual 373, 3) := by decide +kernel
theorem dX11_count_183 : decode cX11_count 183 = .ok (.ireturn, 1) := by decide +kernel
theorem dX11_count_184 : decode cX11_count 184 = .ok (.aload_n 0, 1) := by decide +kernel
theorem dX11_count_185 : decode cX11_count 185 = .ok (.getfield 41, 3) := by decide +kernel
theorem dX11_count_188 : decode cX11_count 188 = .ok (.aload_n 0, 1) := by decide +kernel
theorem dX11_count_189 : decode cX11_count 189 = .ok (.getfield 41, 3) := by decide +kernel
theorem dX11_count_192 : decode cX11_count 192 = .ok (.getfield 249, 3) := by decide +kernel
theorem dX11_count_195 : decode cX11_count 195 = .ok (.aload_n 0, 1) := by decide +kernel
theorem dX11_count_196 : decode cX11_count 196 = .ok (.getfield 22, 3) := by decide +kernel
theorem dX11_count_199 : decode cX11_count 199 = .ok (.getfield 315, 3) := by decide +kernel
theorem dX11_count_202 : decode cX11_count 202 = .ok (.invokevirtual 373, 3) := by decide +kernel
theorem dX11_count_205 : decode cX11_count 205 = .ok (.ireturn, 1) := by decide +kernel
theorem dX11_count_206 : decode cX11_count 206 = .ok (.iconst (-1), 1) := by decide +kernel
theorem dX11_count_207 : decode cX11_count 207 = .ok (.ireturn, 1) := by decide +kernel
theorem dX11_layOnTape_0 : decode cX11_layOnTape 0 = .ok (.bipush 24, 2) := by decide +kernel
theorem dX11_layOnTape_2 : decode cX11_layOnTape 2 = .ok (.istore_n 2, 1) := by decide +kernel
theorem dX11_layOnTape_3 : decode cX11_layOnTape 3 = .ok (.iload_n 2, 1) := by decide +kernel
theorem dX11_layOnTape_4 : decode cX11_layOnTape 4 = .ok (.ifCond .lt 42, 3) := by decide +kernel
theorem dX11_layOnTape_7 : decode cX11_layOnTape 7 = .ok (.aload_n 0, 1) := by decide +kernel
theorem dX11_layOnTape_8 : decode cX11_layOnTape 8 = .ok (.getfield 15, 3) := by decide +kernel
theorem dX11_layOnTape_11 : decode cX11_layOnTape 11 = .ok (.sipush 900, 3) := by decide +kernel
theorem dX11_layOnTape_14 : decode cX11_layOnTape 14 = .ok (.if_icmp .ge 26, 3) := by decide +kernel
theorem dX11_layOnTape_17 : decode cX11_layOnTape 17 = .ok (.aload_n 0, 1) := by decide +kernel
theorem dX11_layOnTape_18 : decode cX11_layOnTape 18 = .ok (.getfield 11, 3) := by decide +kernel
theorem dX11_layOnTape_21 : decode cX11_layOnTape 21 = .ok (.aload_n 0, 1) := by decide +kernel
theorem dX11_layOnTape_22 : decode cX11_layOnTape 22 = .ok (.getfield 15, 3) := by decide +kernel
theorem dX11_layOnTape_25 : decode cX11_layOnTape 25 = .ok (.iload_n 1, 1) := by decide +kernel
theorem dX11_layOnTape_26 : decode cX11_layOnTape 26 = .ok (.iload_n 2, 1) := by decide +kernel
theorem dX11_layOnTape_27 : decode cX11_layOnTape 27 = .ok (.iushr, 1) := by decide +kernel
theorem dX11_layOnTape_28 : decode cX11_layOnTape 28 = .ok (.i2b, 1) := by decide +kernel
theorem dX11_layOnTape_29 : decode cX11_layOnTape 29 = .ok (.bastore, 1) := by decide +kernel
theorem dX11_layOnTape_30 : decode cX11_layOnTape 30 = .ok (.aload_n 0, 1) := by decide +kernel
theorem dX11_layOnTape_31 : decode cX11_layOnTape 31 = .ok (.dup, 1) := by decide +kernel
theorem dX11_layOnTape_32 : decode cX11_layOnTape 32 = .ok (.getfield 15, 3) := by decide +kernel
theorem dX11_layOnTape_35 : decode cX11_layOnTape 35 = .ok (.iconst 1, 1) := by decide +kernel
theorem dX11_layOnTape_36 : decode cX11_layOnTape 36 = .ok (.iadd, 1) := by decide +kernel
theorem dX11_layOnTape_37 : decode cX11_layOnTape 37 = .ok (.putfield 15, 3) := by decide +kernel
theorem dX11_layOnTape_40 : decode cX11_layOnTape 40 = .ok (.iinc 2 (-8), 3) := by decide +kernel
theorem dX11_layOnTape_43 : decode cX11_layOnTape 43 = .ok (.goto (-40), 3) := by decide +kernel
theorem dX11_layOnTape_46 : decode cX11_layOnTape 46 = .ok (.return_, 1) := by decide +kernel
theorem dX11_startAnew_0 : decode cX11_startAnew 0 = .ok (.aload_n 0, 1) := by decide +kernel
theorem dX11_startAnew_1 : decode cX11_startAnew 1 = .ok (.getfield 41, 3) := by decide +kernel
theorem dX11_startAnew_4 : decode cX11_startAnew 4 = .ok (.aload_n 0, 1) := by decide +kernel
theorem dX11_startAnew_5 : decode cX11_startAnew 5 = .ok (.getfield 22, 3) := by decide +kernel
theorem dX11_startAnew_8 : decode cX11_startAnew 8 = .ok (.invokevirtual 377, 3) := by decide +kernel
theorem dX11_startAnew_11 : decode cX11_startAnew 11 = .ok (.aload_n 0, 1) := by decide +kernel
theorem dX11_startAnew_12 : decode cX11_startAnew 12 = .ok (.iconst 0, 1) := by decide +kernel
theorem dX11_startAnew_13 : decode cX11_startAnew 13 = .ok (.putfield 48, 3) := by decide +kernel
theorem dX11_startAnew_16 : decode cX11_startAnew 16 = .ok (.aload_n 0, 1) := by decide +kernel
theorem dX11_startAnew_17 : decode cX11_startAnew 17 = .ok (.getfield 52, 3) := by decide +kernel
theorem dX11_startAnew_20 : decode cX11_startAnew 20 = .ok (.ifnull 10, 3) := by decide +kernel
theorem dX11_startAnew_23 : decode cX11_startAnew 23 = .ok (.aload_n 0, 1) := by decide +kernel
theorem dX11_startAnew_24 : decode cX11_startAnew 24 = .ok (.getfield 52, 3) := by decide +kernel
theorem dX11_startAnew_27 : decode cX11_startAnew 27 = .ok (.invokevirtual 381, 3) := by decide +kernel
theorem dX11_startAnew_30 : decode cX11_startAnew 30 = .ok (.aload_n 0, 1) := by decide +kernel
theorem dX11_startAnew_31 : decode cX11_startAnew 31 = .ok (.getfield 60, 3) := by decide +kernel
theorem dX11_startAnew_34 : decode cX11_startAnew 34 = .ok (.ifnull 10, 3) := by decide +kernel
theorem dX11_startAnew_37 : decode cX11_startAnew 37 = .ok (.aload_n 0, 1) := by decide +kernel
theorem dX11_startAnew_38 : decode cX11_startAnew 38 = .ok (.getfield 60, 3) := by decide +kernel
theorem dX11_startAnew_41 : decode cX11_startAnew 41 = .ok (.invokevirtual 384, 3) := by decide +kernel
theorem dX11_startAnew_44 : decode cX11_startAnew 44 = .ok (.return_, 1) := by decide +kernel
theorem dX11_maySettle_0 : decode cX11_maySettle 0 = .ok (.aload_n 0, 1) := by decide +kernel
theorem dX11_maySettle_1 : decode cX11_maySettle 1 = .ok (.getfield 22, 3) := by decide +kernel
theorem dX11_maySettle_4 : decode cX11_maySettle 4 = .ok (.iload_n 1, 1) := by decide +kernel
theorem dX11_maySettle_5 : decode cX11_maySettle 5 = .ok (.invokevirtual 149, 3) := by decide +kernel
theorem dX11_maySettle_8 : decode cX11_maySettle 8 = .ok (.ifCond .eq 50, 3) := by decide +kernel
theorem dX11_maySettle_11 : decode cX11_maySettle 11 = .ok (.aload_n 0, 1) := by decide +kernel
theorem dX11_maySettle_12 : decode cX11_maySettle 12 = .ok (.getfield 22, 3) := by decide +kernel
theorem dX11_maySettle_15 : decode cX11_maySettle 15 = .ok (.getfield 86, 3) := by decide +kernel
theorem dX11_maySettle_18 : decode cX11_maySettle 18 = .ok (.iload_n 2, 1) := by decide +kernel
theorem dX11_maySettle_19 : decode cX11_maySettle 19 = .ok (.invokevirtual 387, 3) := by decide +kernel
theorem dX11_maySettle_22 : decode cX11_maySettle 22 = .ok (.ifCond .eq 36, 3) := by decide +kernel
theorem dX11_maySettle_25 : decode cX11_maySettle 25 = .ok (.aload_n 0, 1) := by decide +kernel
theorem dX11_maySettle_26 : decode cX11_maySettle 26 = .ok (.getfield 22, 3) := by decide +kernel
theorem dX11_maySettle_29 : decode cX11_maySettle 29 = .ok (.getfield 152, 3) := by decide +kernel
theorem dX11_maySettle_32 : decode cX11_maySettle 32 = .ok (.iload_n 1, 1) := by decide +kernel
theorem dX11_maySettle_33 : decode cX11_maySettle 33 = .ok (.aaload, 1) := by decide +kernel
theorem dX11_maySettle_34 : decode cX11_maySettle 34 = .ok (.iload_n 3, 1) := by decide +kernel
theorem dX11_maySettle_35 : decode cX11_maySettle 35 = .ok (.aload_n 0, 1) := by decide +kernel
theorem dX11_maySettle_36 : decode cX11_maySettle 36 = .ok (.getfield 22, 3) := by decide +kernel
theorem dX11_maySettle_39 : decode cX11_maySettle 39 = .ok (.getfield 86, 3) := by decide +kernel
theorem dX11_maySettle_42 : decode cX11_maySettle 42 = .ok (.iload_n 2, 1) := by decide +kernel
theorem dX11_maySettle_43 : decode cX11_maySettle 43 = .ok (.invokevirtual 390, 3) := by decide +kernel
theorem dX11_maySettle_46 : decode cX11_maySettle 46 = .ok (.iload 4, 2) := by decide +kernel
theorem dX11_maySettle_48 : decode cX11_maySettle 48 = .ok (.invokevirtual 393, 3) := by decide +kernel
theorem dX11_maySettle_51 : decode cX11_maySettle 51 = .ok (.ifCond .eq 7, 3) := by decide +kernel
theorem dX11_maySettle_54 : decode cX11_maySettle 54 = .ok (.iconst 1, 1) := by decide +kernel
theorem dX11_maySettle_55 : decode cX11_maySettle 55 = .ok (.goto 4, 3) := by decide +kernel
theorem dX11_maySettle_58 : decode cX11_maySettle 58 = .ok (.iconst 0, 1) := by decide +kernel
theorem dX11_maySettle_59 : decode cX11_maySettle 59 = .ok (.ireturn, 1) := by decide +kernel
theorem dX11_finder_0 : decode cX11_finder 0 = .ok (.aload_n 0, 1) := by decide +kernel
theorem dX11_finder_1 : decode cX11_finder 1 = .ok (.getfield 52, 3) := by decide +kernel
theorem dX11_finder_4 : decode cX11_finder 4 = .ok (.ifnonnull 14, 3) := by decide +kernel
theorem dX11_finder_7 : decode cX11_finder 7 = .ok (.aload_n 0, 1) := by decide +kernel
theorem dX11_finder_8 : decode cX11_finder 8 = .ok (.new 206, 3) := by decide +kernel
theorem dX11_finder_11 : decode cX11_finder 11 = .ok (.dup, 1) := by decide +kernel
theorem dX11_finder_12 : decode cX11_finder 12 = .ok (.invokespecial 397, 3) := by decide +kernel
theorem dX11_finder_15 : decode cX11_finder 15 = .ok (.putfield 52, 3) := by decide +kernel
theorem dX11_finder_18 : decode cX11_finder 18 = .ok (.aload_n 0, 1) := by decide +kernel
theorem dX11_finder_19 : decode cX11_finder 19 = .ok (.getfield 52, 3) := by decide +kernel
theorem dX11_finder_22 : decode cX11_finder 22 = .ok (.areturn, 1) := by decide +kernel
theorem dX11_worker_0 : decode cX11_worker 0 = .ok (.aload_n 0, 1) := by decide +kernel
theorem dX11_worker_1 : decode cX11_worker 1 = .ok (.getfield 56, 3) := by decide +kernel
theorem dX11_worker_4 : decode cX11_worker 4 = .ok (.ifnonnull 22, 3) := by decide +kernel
theorem dX11_worker_7 : decode cX11_worker 7 = .ok (.aload_n 0, 1) := by decide +kernel
theorem dX11_worker_8 : decode cX11_worker 8 = .ok (.new 232, 3) := by decide +kernel
theorem dX11_worker_11 : decode cX11_worker 11 = .ok (.dup, 1) := by decide +kernel
theorem dX11_worker_12 : decode cX11_worker 12 = .ok (.aload_n 0, 1) := by decide +kernel
theorem dX11_worker_13 : decode cX11_worker 13 = .ok (.getfield 41, 3) := by decide +kernel
theorem dX11_worker_16 : decode cX11_worker 16 = .ok (.aload_n 0, 1) := by decide +kernel
theorem dX11_worker_17 : decode cX11_worker 17 = .ok (.invokevirtual 201, 3) := by decide +kernel
theorem dX11_worker_20 : decode cX11_worker 20 = .ok (.invokespecial 398, 3) := by decide +kernel
theorem dX11_worker_23 : decode cX11_worker 23 = .ok (.putfield 56, 3) := by decide +kernel
theorem dX11_worker_26 : decode cX11_worker 26 = .ok (.aload_n 0, 1) := by decide +kernel
theorem dX11_worker_27 : decode cX11_worker 27 = .ok (.getfield 56, 3) := by decide +kernel
theorem dX11_worker_30 : decode cX11_worker 30 = .ok (.areturn, 1) := by decide +kernel
theorem dX11_walker_0 : decode cX11_walker 0 = .ok (.aload_n 0, 1) := by decide +kernel
theorem dX11_walker_1 : decode cX11_walker 1 = .ok (.getfield 60, 3) := by decide +kernel
theorem dX11_walker_4 : decode cX11_walker 4 = .ok (.ifnonnull 18, 3) := by decide +kernel
theorem dX11_walker_7 : decode cX11_walker 7 = .ok (.aload_n 0, 1) := by decide +kernel
theorem dX11_walker_8 : decode cX11_walker 8 = .ok (.new 282, 3) := by decide +kernel
theorem dX11_walker_11 : decode cX11_walker 11 = .ok (.dup, 1) := by decide +kernel
theorem dX11_walker_12 : decode cX11_walker 12 = .ok (.aload_n 0, 1) := by decide +kernel
theorem dX11_walker_13 : decode cX11_walker 13 = .ok (.getfield 41, 3) := by decide +kernel
theorem dX11_walker_16 : decode cX11_walker 16 = .ok (.invokespecial 401, 3) := by decide +kernel
theorem dX11_walker_19 : decode cX11_walker 19 = .ok (.putfield 60, 3) := by decide +kernel
theorem dX11_walker_22 : decode cX11_walker 22 = .ok (.aload_n 0, 1) := by decide +kernel
theorem dX11_walker_23 : decode cX11_walker 23 = .ok (.getfield 60, 3) := by decide +kernel
theorem dX11_walker_26 : decode cX11_walker 26 = .ok (.areturn, 1) := by decide +kernel
