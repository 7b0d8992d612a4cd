theorem dX0_init_0 : decode cX0_init 0 = .ok (.aload_n 0, 1) := by decide +kernel
theorem dX0_init_1 : decode cX0_init 1 = .ok (.invokespecial 3, 3) := by decide +kernel
theorem dX0_init_4 : decode cX0_init 4 = .ok (.aload_n 0, 1) := by decide +kernel
theorem dX0_init_5 : decode cX0_init 5 = .ok (.iconst 0, 1) := by decide +kernel
theorem dX0_init_6 : decode cX0_init 6 = .ok (.putfield 9, 3) := by decide +kernel
theorem dX0_init_9 : decode cX0_init 9 = .ok (.aload_n 0, 1) := by decide +kernel
theorem dX0_init_10 : decode cX0_init 10 = .ok (.iconst 0, 1) := by decide +kernel
theorem dX0_init_11 : decode cX0_init 11 = .ok (.putfield 15, 3) := by decide +kernel
theorem dX0_init_14 : decode cX0_init 14 = .ok (.aload_n 0, 1) := by decide +kernel
theorem dX0_init_15 : decode cX0_init 15 = .ok (.bipush 10, 2) := by decide +kernel
theorem dX0_init_17 : decode cX0_init 17 = .ok (.newarray .int, 2) := by decide +kernel
theorem dX0_init_19 : decode cX0_init 19 = .ok (.putfield 18, 3) := by decide +kernel
theorem dX0_init_22 : decode cX0_init 22 = .ok (.aload_n 0, 1) := by decide +kernel
theorem dX0_init_23 : decode cX0_init 23 = .ok (.bipush 10, 2) := by decide +kernel
theorem dX0_init_25 : decode cX0_init 25 = .ok (.newarray .int, 2) := by decide +kernel
theorem dX0_init_27 : decode cX0_init 27 = .ok (.putfield 22, 3) := by decide +kernel
theorem dX0_init_30 : decode cX0_init 30 = .ok (.aload_n 0, 1) := by decide +kernel
theorem dX0_init_31 : decode cX0_init 31 = .ok (.bipush 10, 2) := by decide +kernel
theorem dX0_init_33 : decode cX0_init 33 = .ok (.newarray .int, 2) := by decide +kernel
theorem dX0_init_35 : decode cX0_init 35 = .ok (.putfield 25, 3) := by decide +kernel
theorem dX0_init_38 : decode cX0_init 38 = .ok (.aload_n 0, 1) := by decide +kernel
theorem dX0_init_39 : decode cX0_init 39 = .ok (.bipush 10, 2) := by decide +kernel
theorem dX0_init_41 : decode cX0_init 41 = .ok (.newarray .int, 2) := by decide +kernel
theorem dX0_init_43 : decode cX0_init 43 = .ok (.putfield 28, 3) := by decide +kernel
theorem dX0_init_46 : decode cX0_init 46 = .ok (.aload_n 0, 1) := by decide +kernel
theorem dX0_init_47 : decode cX0_init 47 = .ok (.bipush 10, 2) := by decide +kernel
theorem dX0_init_49 : decode cX0_init 49 = .ok (.newarray .int, 2) := by decide +kernel
theorem dX0_init_51 : decode cX0_init 51 = .ok (.putfield 31, 3) := by decide +kernel
theorem dX0_init_54 : decode cX0_init 54 = .ok (.aload_n 0, 1) := by decide +kernel
theorem dX0_init_55 : decode cX0_init 55 = .ok (.bipush 10, 2) := by decide +kernel
theorem dX0_init_57 : decode cX0_init 57 = .ok (.newarray .boolean, 2) := by decide +kernel
theorem dX0_init_59 : decode cX0_init 59 = .ok (.putfield 34, 3) := by decide +kernel
theorem dX0_init_62 : decode cX0_init 62 = .ok (.aload_n 0, 1) := by decide +kernel
theorem dX0_init_63 : decode cX0_init 63 = .ok (.bipush 10, 2) := by decide +kernel
theorem dX0_init_65 : decode cX0_init 65 = .ok (.newarray .int, 2) := by decide +kernel
theorem dX0_init_67 : decode cX0_init 67 = .ok (.putfield 38, 3) := by decide +kernel
theorem dX0_init_70 : decode cX0_init 70 = .ok (.aload_n 0, 1) := by decide +kernel
theorem dX0_init_71 : decode cX0_init 71 = .ok (.bipush 10, 2) := by decide +kernel
theorem dX0_init_73 : decode cX0_init 73 = .ok (.newarray .int, 2) := by decide +kernel
theorem dX0_init_75 : decode cX0_init 75 = .ok (.putfield 41, 3) := by decide +kernel
theorem dX0_init_78 : decode cX0_init 78 = .ok (.aload_n 0, 1) := by decide +kernel
theorem dX0_init_79 : decode cX0_init 79 = .ok (.aload_n 1, 1) := by decide +kernel
theorem dX0_init_80 : decode cX0_init 80 = .ok (.ifnonnull 11, 3) := by decide +kernel
theorem dX0_init_83 : decode cX0_init 83 = .ok (.sipush 200, 3) := by decide +kernel
theorem dX0_init_86 : decode cX0_init 86 = .ok (.newarray .int, 2) := by decide +kernel
theorem dX0_init_88 : decode cX0_init 88 = .ok (.goto 7, 3) := by decide +kernel
theorem dX0_init_91 : decode cX0_init 91 = .ok (.aload_n 1, 1) := by decide +kernel
theorem dX0_init_92 : decode cX0_init 92 = .ok (.getfield 44, 3) := by decide +kernel
theorem dX0_init_95 : decode cX0_init 95 = .ok (.putfield 44, 3) := by decide +kernel
theorem dX0_init_98 : decode cX0_init 98 = .ok (.aload_n 0, 1) := by decide +kernel
theorem dX0_init_99 : decode cX0_init 99 = .ok (.aload_n 1, 1) := by decide +kernel
theorem dX0_init_100 : decode cX0_init 100 = .ok (.ifnonnull 11, 3) := by decide +kernel
theorem dX0_init_103 : decode cX0_init 103 = .ok (.sipush 600, 3) := by decide +kernel
theorem dX0_init_106 : decode cX0_init 106 = .ok (.newarray .long, 2) := by decide +kernel
theorem dX0_init_108 : decode cX0_init 108 = .ok (.goto 7, 3) := by decide +kernel
theorem dX0_init_111 : decode cX0_init 111 = .ok (.aload_n 1, 1) := by decide +kernel
theorem dX0_init_112 : decode cX0_init 112 = .ok (.getfield 47, 3) := by decide +kernel
theorem dX0_init_115 : decode cX0_init 115 = .ok (.putfield 47, 3) := by decide +kernel
theorem dX0_init_118 : decode cX0_init 118 = .ok (.aload_n 0, 1) := by decide +kernel
theorem dX0_init_119 : decode cX0_init 119 = .ok (.aload_n 1, 1) := by decide +kernel
theorem dX0_init_120 : decode cX0_init 120 = .ok (.ifnonnull 10, 3) := by decide +kernel
theorem dX0_init_123 : decode cX0_init 123 = .ok (.bipush 60, 2) := by decide +kernel
theorem dX0_init_125 : decode cX0_init 125 = .ok (.newarray .int, 2) := by decide +kernel
theorem dX0_init_127 : decode cX0_init 127 = .ok (.goto 7, 3) := by decide +kernel
theorem dX0_init_130 : decode cX0_init 130 = .ok (.aload_n 1, 1) := by decide +kernel
theorem dX0_init_131 : decode cX0_init 131 = .ok (.getfield 51, 3) := by decide +kernel
theorem dX0_init_134 : decode cX0_init 134 = .ok (.putfield 51, 3) := by decide +kernel
theorem dX0_init_137 : decode cX0_init 137 = .ok (.aload_n 0, 1) := by decide +kernel
theorem dX0_init_138 : decode cX0_init 138 = .ok (.aload_n 1, 1) := by decide +kernel
theorem dX0_init_139 : decode cX0_init 139 = .ok (.ifnonnull 10, 3) := by decide +kernel
theorem dX0_init_142 : decode cX0_init 142 = .ok (.bipush 60, 2) := by decide +kernel
theorem dX0_init_144 : decode cX0_init 144 = .ok (.newarray .int, 2) := by decide +kernel
theorem dX0_init_146 : decode cX0_init 146 = .ok (.goto 7, 3) := by decide +kernel
theorem dX0_init_149 : decode cX0_init 149 = .ok (.aload_n 1, 1) := by decide +kernel
theorem dX0_init_150 : decode cX0_init 150 = .ok (.getfield 54, 3) := by decide +kernel
theorem dX0_init_153 : decode cX0_init 153 = .ok (.putfield 54, 3) := by decide +kernel
theorem dX0_init_156 : decode cX0_init 156 = .ok (.aload_n 0, 1) := by decide +kernel
theorem dX0_init_157 : decode cX0_init 157 = .ok (.aload_n 1, 1) := by decide +kernel
theorem dX0_init_158 : decode cX0_init 158 = .ok (.ifnonnull 10, 3) := by decide +kernel
theorem dX0_init_161 : decode cX0_init 161 = .ok (.bipush 60, 2) := by decide +kernel
theorem dX0_init_163 : decode cX0_init 163 = .ok (.newarray .int, 2) := by decide +kernel
theorem dX0_init_165 : decode cX0_init 165 = .ok (.goto 7, 3) := by decide +kernel
theorem dX0_init_168 : decode cX0_init 168 = .ok (.aload_n 1, 1) := by decide +kernel
theorem dX0_init_169 : decode cX0_init 169 = .ok (.getfield 57, 3) := by decide +kernel
theorem dX0_init_172 : decode cX0_init 172 = .ok (.putfield 57, 3) := by decide +kernel
theorem dX0_init_175 : decode cX0_init 175 = .ok (.aload_n 0, 1) := by decide +kernel
theorem dX0_init_176 : decode cX0_init 176 = .ok (.aload_n 1, 1) := by decide +kernel
theorem dX0_init_177 : decode cX0_init 177 = .ok (.ifnonnull 10, 3) := by decide +kernel
theorem dX0_init_180 : decode cX0_init 180 = .ok (.bipush 60, 2) := by decide +kernel
theorem dX0_init_182 : decode cX0_init 182 = .ok (.newarray .boolean, 2) := by decide +kernel
theorem dX0_init_184 : decode cX0_init 184 = .ok (.goto 7, 3) := by decide +kernel
theorem dX0_init_187 : decode cX0_init 187 = .ok (.aload_n 1, 1) := by decide +kernel
theorem dX0_init_188 : decode cX0_init 188 = .ok (.getfield 60, 3) := by decide +kernel
theorem dX0_init_191 : decode cX0_init 191 = .ok (.putfield 60, 3) := by decide +kernel
theorem dX0_init_194 : decode cX0_init 194 = .ok (.return_, 1) := by decide +kernel
theorem dX0_begin_0 : decode cX0_begin 0 = .ok (.aload_n 0, 1) := by decide +kernel
theorem dX0_begin_1 : decode cX0_begin 1 = .ok (.iconst 0, 1) := by decide +kernel
theorem dX0_begin_2 : decode cX0_begin 2 = .ok (.putfield 9, 3) := by decide +kernel
theorem dX0_begin_5 : decode cX0_begin 5 = .ok (.aload_n 0, 1) := by decide +kernel
theorem dX0_begin_6 : decode cX0_begin 6 = .ok (.iconst 0, 1) := by decide +kernel
theorem dX0_begin_7 : decode cX0_begin 7 = .ok (.putfield 15, 3) := by decide +kernel
theorem dX0_begin_10 : decode cX0_begin 10 = .ok (.iconst 0, 1) := by decide +kernel
theorem dX0_begin_11 : decode cX0_begin 11 = .ok (.istore_n 2, 1) := by decide +kernel
theorem dX0_begin_12 : decode cX0_begin 12 = .ok (.iload_n 2, 1) := by decide +kernel
theorem dX0_begin_13 : decode cX0_begin 13 = .ok (.bipush 10, 2) := by decide +kernel
theorem dX0_begin_15 : decode cX0_begin 15 = .ok (.if_icmp .ge 81, 3) := by decide +kernel
theorem dX0_begin_18 : decode cX0_begin 18 = .ok (.aload_n 0, 1) := by decide +kernel
theorem dX0_begin_19 : decode cX0_begin 19 = .ok (.getfield 18, 3) := by decide +kernel
theorem dX0_begin_22 : decode cX0_begin 22 = .ok (.iload_n 2, 1) := by decide +kernel
theorem dX0_begin_23 : decode cX0_begin 23 = .ok (.aload_n 1, 1) := by decide +kernel
theorem dX0_begin_24 : decode cX0_begin 24 = .ok (.getfield 63, 3) := by decide +kernel
theorem dX0_begin_27 : decode cX0_begin 27 = .ok (.iload_n 2, 1) := by decide +kernel
theorem dX0_begin_28 : decode cX0_begin 28 = .ok (.aaload, 1) := by decide +kernel
theorem dX0_begin_29 : decode cX0_begin 29 = .ok (.getfield 69, 3) := by decide +kernel
theorem dX0_begin_32 : decode cX0_begin 32 = .ok (.iastore, 1) := by decide +kernel
theorem dX0_begin_33 : decode cX0_begin 33 = .ok (.aload_n 0, 1) := by decide +kernel
theorem dX0_begin_34 : decode cX0_begin 34 = .ok (.getfield 22, 3) := by decide +kernel
theorem dX0_begin_37 : decode cX0_begin 37 = .ok (.iload_n 2, 1) := by decide +kernel
theorem dX0_begin_38 : decode cX0_begin 38 = .ok (.aload_n 1, 1) := by decide +kernel
theorem dX0_begin_39 : decode cX0_begin 39 = .ok (.getfield 63, 3) := by decide +kernel
theorem dX0_begin_42 : decode cX0_begin 42 = .ok (.iload_n 2, 1) := by decide +kernel
theorem dX0_begin_43 : decode cX0_begin 43 = .ok (.aaload, 1) := by decide +kernel
theorem dX0_begin_44 : decode cX0_begin 44 = .ok (.getfield 73, 3) := by decide +kernel
theorem dX0_begin_47 : decode cX0_begin 47 = .ok (.iastore, 1) := by decide +kernel
theorem dX0_begin_48 : decode cX0_begin 48 = .ok (.aload_n 0, 1) := by decide +kernel
theorem dX0_begin_49 : decode cX0_begin 49 = .ok (.getfield 25, 3) := by decide +kernel
theorem dX0_begin_52 : decode cX0_begin 52 = .ok (.iload_n 2, 1) := by decide +kernel
theorem dX0_begin_53 : decode cX0_begin 53 = .ok (.iconst 0, 1) := by decide +kernel
theorem dX0_begin_54 : decode cX0_begin 54 = .ok (.iastore, 1) := by decide +kernel
theorem dX0_begin_55 : decode cX0_begin 55 = .ok (.aload_n 0, 1) := by decide +kernel
theorem dX0_begin_56 : decode cX0_begin 56 = .ok (.getfield 28, 3) := by decide +kernel
theorem dX0_begin_59 : decode cX0_begin 59 = .ok (.iload_n 2, 1) := by decide +kernel
theorem dX0_begin_60 : decode cX0_begin 60 = .ok (.iconst 0, 1) := by decide +kernel
theorem dX0_begin_61 : decode cX0_begin 61 = .ok (.iastore, 1) := by decide +kernel
theorem dX0_begin_62 : decode cX0_begin 62 = .ok (.aload_n 0, 1) := by decide +kernel
theorem dX0_begin_63 : decode cX0_begin 63 = .ok (.getfield 31, 3) := by decide +kernel
theorem dX0_begin_66 : decode cX0_begin 66 = .ok (.iload_n 2, 1) := by decide +kernel
theorem dX0_begin_67 : decode cX0_begin 67 = .ok (.iconst 0, 1) := by decide +kernel
theorem dX0_begin_68 : decode cX0_begin 68 = .ok (.iastore, 1) := by decide +kernel
theorem dX0_begin_69 : decode cX0_begin 69 = .ok (.aload_n 0, 1) := by decide +kernel
theorem dX0_begin_70 : decode cX0_begin 70 = .ok (.getfield 34, 3) := by decide +kernel
theorem dX0_begin_73 : decode cX0_begin 73 = .ok (.iload_n 2, 1) := by decide +kernel
theorem dX0_begin_74 : decode cX0_begin 74 = .ok (.iconst 0, 1) := by decide +kernel
theorem dX0_begin_75 : decode cX0_begin 75 = .ok (.bastore, 1) := by decide +kernel
theorem dX0_begin_76 : decode cX0_begin 76 = .ok (.aload_n 0, 1) := by decide +kernel
theorem dX0_begin_77 : decode cX0_begin 77 = .ok (.getfield 38, 3) := by decide +kernel
theorem dX0_begin_80 : decode cX0_begin 80 = .ok (.iload_n 2, 1) := by decide +kernel
theorem dX0_begin_81 : decode cX0_begin 81 = .ok (.iconst (-1), 1) := by decide +kernel
theorem dX0_begin_82 : decode cX0_begin 82 = .ok (.iastore, 1) := by decide +kernel
theorem dX0_begin_83 : decode cX0_begin 83 = .ok (.aload_n 0, 1) := by decide +kernel
theorem dX0_begin_84 : decode cX0_begin 84 = .ok (.getfield 41, 3) := by decide +kernel
theorem dX0_begin_87 : decode cX0_begin 87 = .ok (.iload_n 2, 1) := by decide +kernel
theorem dX0_begin_88 : decode cX0_begin 88 = .ok (.iconst 0, 1) := by decide +kernel
theorem dX0_begin_89 : decode cX0_begin 89 = .ok (.iastore, 1) := by decide +kernel
theorem dX0_begin_90 : decode cX0_begin 90 = .ok (.iinc 2 1, 3) := by decide +kernel
theorem dX0_begin_93 : decode cX0_begin 93 = .ok (.goto (-81), 3) := by decide +kernel
theorem dX0_begin_96 : decode cX0_begin 96 = .ok (.return_, 1) := by decide +kernel
theorem dX0_copyFrom_0 : decode cX0_copyFrom 0 = .ok (.aload_n 0, 1) := by decide +kernel
theorem dX0_copyFrom_1 : decode cX0_copyFrom 1 = .ok (.aload_n 1, 1) := by decide +kernel
theorem dX0_copyFrom_2 : decode cX0_copyFrom 2 = .ok (.getfield 9, 3) := by decide +kernel
theorem dX0_copyFrom_5 : decode cX0_copyFrom 5 = .ok (.putfield 9, 3) := by decide +kernel
theorem dX0_copyFrom_8 : decode cX0_copyFrom 8 = .ok (.aload_n 0, 1) := by decide +kernel
theorem dX0_copyFrom_9 : decode cX0_copyFrom 9 = .ok (.aload_n 1, 1) := by decide +kernel
theorem dX0_copyFrom_10 : decode cX0_copyFrom 10 = .ok (.getfield 15, 3) := by decide +kernel
theorem dX0_copyFrom_13 : decode cX0_copyFrom 13 = .ok (.putfield 15, 3) := by decide +kernel
theorem dX0_copyFrom_16 : decode cX0_copyFrom 16 = .ok (.iconst 0, 1) := by decide +kernel
theorem dX0_copyFrom_17 : decode cX0_copyFrom 17 = .ok (.istore_n 2, 1) := by decide +kernel
theorem dX0_copyFrom_18 : decode cX0_copyFrom 18 = .ok (.iload_n 2, 1) := by decide +kernel
theorem dX0_copyFrom_19 : decode cX0_copyFrom 19 = .ok (.bipush 10, 2) := by decide +kernel
theorem dX0_copyFrom_21 : decode cX0_copyFrom 21 = .ok (.if_icmp .ge 105, 3) := by decide +kernel
theorem dX0_copyFrom_24 : decode cX0_copyFrom 24 = .ok (.aload_n 0, 1) := by decide +kernel
theorem dX0_copyFrom_25 : decode cX0_copyFrom 25 = .ok (.getfield 18, 3) := by decide +kernel
theorem dX0_copyFrom_28 : decode cX0_copyFrom 28 = .ok (.iload_n 2, 1) := by decide +kernel
theorem dX0_copyFrom_29 : decode cX0_copyFrom 29 = .ok (.aload_n 1, 1) := by decide +kernel
theorem dX0_copyFrom_30 : decode cX0_copyFrom 30 = .ok (.getfield 18, 3) := by decide +kernel
theorem dX0_copyFrom_33 : decode cX0_copyFrom 33 = .ok (.iload_n 2, 1) := by decide +kernel
theorem dX0_copyFrom_34 : decode cX0_copyFrom 34 = .ok (.iaload, 1) := by decide +kernel
theorem dX0_copyFrom_35 : decode cX0_copyFrom 35 = .ok (.iastore, 1) := by decide +kernel
theorem dX0_copyFrom_36 : decode cX0_copyFrom 36 = .ok (.aload_n 0, 1) := by decide +kernel
theorem dX0_copyFrom_37 : decode cX0_copyFrom 37 = .ok (.getfield 22, 3) := by decide +kernel
theorem dX0_copyFrom_40 : decode cX0_copyFrom 40 = .ok (.iload_n 2, 1) := by decide +kernel
theorem dX0_copyFrom_41 : decode cX0_copyFrom 41 = .ok (.aload_n 1, 1) := by decide +kernel
theorem dX0_copyFrom_42 : decode cX0_copyFrom 42 = .ok (.getfield 22, 3) := by decide +kernel
theorem dX0_copyFrom_45 : decode cX0_copyFrom 45 = .ok (.iload_n 2, 1) := by decide +kernel
theorem dX0_copyFrom_46 : decode cX0_copyFrom 46 = .ok (.iaload, 1) := by decide +kernel
theorem dX0_copyFrom_47 : decode cX0_copyFrom 47 = .ok (.iastore, 1) := by decide +kernel
theorem dX0_copyFrom_48 : decode cX0_copyFrom 48 = .ok (.aload_n 0, 1) := by decide +kernel
theorem dX0_copyFrom_49 : decode cX0_copyFrom 49 = .ok (.getfield 25, 3) := by decide +kernel
theorem dX0_copyFrom_52 : decode cX0_copyFrom 52 = .ok (.iload_n 2, 1) := by decide +kernel
theorem dX0_copyFrom_53 : decode cX0_copyFrom 53 = .ok (.aload_n 1, 1) := by decide +kernel
theorem dX0_copyFrom_54 : decode cX0_copyFrom 54 = .ok (.getfield 25, 3) := by decide +kernel
theorem dX0_copyFrom_57 : decode cX0_copyFrom 57 = .ok (.iload_n 2, 1) := by decide +kernel
theorem dX0_copyFrom_58 : decode cX0_copyFrom 58 = .ok (.iaload, 1) := by decide +kernel
theorem dX0_copyFrom_59 : decode cX0_copyFrom 59 = .ok (.iastore, 1) := by decide +kernel
theorem dX0_copyFrom_60 : decode cX0_copyFrom 60 = .ok (.aload_n 0, 1) := by decide +kernel
theorem dX0_copyFrom_61 : decode cX0_copyFrom 61 = .ok (.getfield 28, 3) := by decide +kernel
theorem dX0_copyFrom_64 : decode cX0_copyFrom 64 = .ok (.iload_n 2, 1) := by decide +kernel
theorem dX0_copyFrom_65 : decode cX0_copyFrom 65 = .ok (.aload_n 1, 1) := by decide +kernel
theorem dX0_copyFrom_66 : decode cX0_copyFrom 66 = .ok (.getfield 28, 3) := by decide +kernel
theorem dX0_copyFrom_69 : decode cX0_copyFrom 69 = .ok (.iload_n 2, 1) := by decide +kernel
theorem dX0_copyFrom_70 : decode cX0_copyFrom 70 = .ok (.iaload, 1) := by decide +kernel
theorem dX0_copyFrom_71 : decode cX0_copyFrom 71 = .ok (.iastore, 1) := by decide +kernel
theorem dX0_copyFrom_72 : decode cX0_copyFrom 72 = .ok (.aload_n 0, 1) := by decide +kernel
theorem dX0_copyFrom_73 : decode cX0_copyFrom 73 = .ok (.getfield 31, 3) := by decide +kernel
theorem dX0_copyFrom_76 : decode cX0_copyFrom 76 = .ok (.iload_n 2, 1) := by decide +kernel
theorem dX0_copyFrom_77 : decode cX0_copyFrom 77 = .ok (.aload_n 1, 1) := by decide +kernel
theorem dX0_copyFrom_78 : decode cX0_copyFrom 78 = .ok (.getfield 31, 3) := by decide +kernel
theorem dX0_copyFrom_81 : decode cX0_copyFrom 81 = .ok (.iload_n 2, 1) := by decide +kernel
theorem dX0_copyFrom_82 : decode cX0_copyFrom 82 = .ok (.iaload, 1) := by decide +kernel
theorem dX0_copyFrom_83 : decode cX0_copyFrom 83 = .ok (.iastore, 1) := by decide +kernel
theorem dX0_copyFrom_84 : decode cX0_copyFrom 84 = .ok (.aload_n 0, 1) := by decide +kernel
theorem dX0_copyFrom_85 : decode cX0_copyFrom 85 = .ok (.getfield 34, 3) := by decide +kernel
theorem dX0_copyFrom_88 : decode cX0_copyFrom 88 = .ok (.iload_n 2, 1) := by decide +kernel
theorem dX0_copyFrom_89 : decode cX0_copyFrom 89 = .ok (.aload_n 1, 1) := by decide +kernel
theorem dX0_copyFrom_90 : decode cX0_copyFrom 90 = .ok (.getfield 34, 3) := by decide +kernel
theorem dX0_copyFrom_93 : decode cX0_copyFrom 93 = .ok (.iload_n 2, 1) := by decide +kernel
theorem dX0_copyFrom_94 : decode cX0_copyFrom 94 = .ok (.baload, 1) := by decide +kernel
theorem dX0_copyFrom_95 : decode cX0_copyFrom 95 = .ok (.bastore, 1) := by decide +kernel
theorem dX0_copyFrom_96 : decode cX0_copyFrom 96 = .ok (.aload_n 0, 1) := by decide +kernel
theorem dX0_copyFrom_97 : decode cX0_copyFrom 97 = .ok (.getfield 38, 3) := by decide +kernel
theorem dX0_copyFrom_100 : decode cX0_copyFrom 100 = .ok (.iload_n 2, 1) := by decide +kernel
theorem dX0_copyFrom_101 : decode cX0_copyFrom 101 = .ok (.aload_n 1, 1) := by decide +kernel
theorem dX0_copyFrom_102 : decode cX0_copyFrom 102 = .ok (.getfield 38, 3) := by decide +kernel
theorem dX0_copyFrom_105 : decode cX0_copyFrom 105 = .ok (.iload_n 2, 1) := by decide +kernel
theorem dX0_copyFrom_106 : decode cX0_copyFrom 106 = .ok (.iaload, 1) := by decide +kernel
theorem dX0_copyFrom_107 : decode cX0_copyFrom 107 = .ok (.iastore, 1) := by decide +kernel
theorem dX0_copyFrom_108 : decode cX0_copyFrom 108 = .ok (.aload_n 0, 1) := by decide +kernel
theorem dX0_copyFrom_109 : decode cX0_copyFrom 109 = .ok (.getfield 41, 3) := by decide +kernel
theorem dX0_copyFrom_112 : decode cX0_copyFrom 112 = .ok (.iload_n 2, 1) := by decide +kernel
theorem dX0_copyFrom_113 : decode cX0_copyFrom 113 = .ok (.aload_n 1, 1) := by decide +kernel
theorem dX0_copyFrom_114 : decode cX0_copyFrom 114 = .ok (.getfield 41, 3) := by decide +kernel
theorem dX0_copyFrom_117 : decode cX0_copyFrom 117 = .ok (.iload_n 2, 1) := by decide +kernel
theorem dX0_copyFrom_118 : decode cX0_copyFrom 118 = .ok (.iaload, 1) := by decide +kernel
theorem dX0_copyFrom_119 : decode cX0_copyFrom 119 = .ok (.iastore, 1) := by decide +kernel
theorem dX0_copyFrom_120 : decode cX0_copyFrom 120 = .ok (.iinc 2 1, 3) := by decide +kernel
theorem dX0_copyFrom_123 : decode cX0_copyFrom 123 = .ok (.goto (-105), 3) := by decide +kernel
theorem dX0_copyFrom_126 : decode cX0_copyFrom 126 = .ok (.return_, 1) := by decide +kernel
theorem dX0_isDone_0 : decode cX0_isDone 0 = .ok (.iload_n 1, 1) := by decide +kernel
theorem dX0_isDone_1 : decode cX0_isDone 1 = .ok (.ifCond .lt 22, 3) := by decide +kernel
theorem dX0_isDone_4 : decode cX0_isDone 4 = .ok (.iload_n 1, 1) := by decide +kernel
theorem dX0_isDone_5 : decode cX0_isDone 5 = .ok (.aload_n 0, 1) := by decide +kernel
theorem dX0_isDone_6 : decode cX0_isDone 6 = .ok (.getfield 9, 3) := by decide +kernel
theorem dX0_isDone_9 : decode cX0_isDone 9 = .ok (.if_icmp .ge 14, 3) := by decide +kernel
theorem dX0_isDone_12 : decode cX0_isDone 12 = .ok (.iload_n 1, 1) := by decide +kernel
theorem dX0_isDone_13 : decode cX0_isDone 13 = .ok (.sipush 200, 3) := by decide +kernel
theorem dX0_isDone_16 : decode cX0_isDone 16 = .ok (.if_icmp .ge 7, 3) := by decide +kernel
theorem dX0_isDone_19 : decode cX0_isDone 19 = .ok (.iconst 1, 1) := by decide +kernel
theorem dX0_isDone_20 : decode cX0_isDone 20 = .ok (.goto 4, 3) := by decide +kernel
theorem dX0_isDone_23 : decode cX0_isDone 23 = .ok (.iconst 0, 1) := by decide +kernel
theorem dX0_isDone_24 : decode cX0_isDone 24 = .ok (.ireturn, 1) := by decide +kernel
theorem dX0_sumOf_0 : decode cX0_sumOf 0 = .ok (.iconst 0, 1) := by decide +kernel
theorem dX0_sumOf_1 : decode cX0_sumOf 1 = .ok (.istore_n 3, 1) := by decide +kernel
theorem dX0_sumOf_2 : decode cX0_sumOf 2 = .ok (.iconst 0, 1) := by decide +kernel
theorem dX0_sumOf_3 : decode cX0_sumOf 3 = .ok (.istore 4, 2) := by decide +kernel
theorem dX0_sumOf_5 : decode cX0_sumOf 5 = .ok (.iload 4, 2) := by decide +kernel
theorem dX0_sumOf_7 : decode cX0_sumOf 7 = .ok (.iload_n 2, 1) := by decide +kernel
theorem dX0_sumOf_8 : decode cX0_sumOf 8 = .ok (.if_icmp .ge 23, 3) := by decide +kernel
theorem dX0_sumOf_11 : decode cX0_sumOf 11 = .ok (.iload 4, 2) := by decide +kernel
theorem dX0_sumOf_13 : decode cX0_sumOf 13 = .ok (.aload_n 1, 1) := by decide +kernel
theorem dX0_sumOf_14 : decode cX0_sumOf 14 = .ok (.arraylength, 1) := by decide +kernel
theorem dX0_sumOf_15 : decode cX0_sumOf 15 = .ok (.if_icmp .ge 16, 3) := by decide +kernel
theorem dX0_sumOf_18 : decode cX0_sumOf 18 = .ok (.iload_n 3, 1) := by decide +kernel
theorem dX0_sumOf_19 : decode cX0_sumOf 19 = .ok (.aload_n 1, 1) := by decide +kernel
theorem dX0_sumOf_20 : decode cX0_sumOf 20 = .ok (.iload 4, 2) := by decide +kernel
theorem dX0_sumOf_22 : decode cX0_sumOf 22 = .ok (.iaload, 1) := by decide +kernel
theorem dX0_sumOf_23 : decode cX0_sumOf 23 = .ok (.iadd, 1) := by decide +kernel
theorem dX0_sumOf_24 : decode cX0_sumOf 24 = .ok (.istore_n 3, 1) := by decide +kernel
theorem dX0_sumOf_25 : decode cX0_sumOf 25 = .ok (.iinc 4 1, 3) := by decide +kernel
theorem dX0_sumOf_28 : decode cX0_sumOf 28 = .ok (.goto (-23), 3) := by decide +kernel
theorem dX0_sumOf_31 : decode cX0_sumOf 31 = .ok (.iload_n 3, 1) := by decide +kernel
theorem dX0_sumOf_32 : decode cX0_sumOf 32 = .ok (.ireturn, 1) := by decide +kernel
theorem dX0_openDay_0 : decode cX0_openDay 0 = .ok (.aload_n 0, 1) := by decide +kernel
theorem dX0_openDay_1 : decode cX0_openDay 1 = .ok (.getfield 44, 3) := by decide +kernel
theorem dX0_openDay_4 : decode cX0_openDay 4 = .ok (.iload_n 1, 1) := by decide +kernel
theorem dX0_openDay_5 : decode cX0_openDay 5 = .ok (.iconst 0, 1) := by decide +kernel
theorem dX0_openDay_6 : decode cX0_openDay 6 = .ok (.iastore, 1) := by decide +kernel
theorem dX0_openDay_7 : decode cX0_openDay 7 = .ok (.iconst 0, 1) := by decide +kernel
theorem dX0_openDay_8 : decode cX0_openDay 8 = .ok (.istore_n 2, 1) := by decide +kernel
theorem dX0_openDay_9 : decode cX0_openDay 9 = .ok (.iload_n 2, 1) := by decide +kernel
theorem dX0_openDay_10 : decode cX0_openDay 10 = .ok (.iconst 3, 1) := by decide +kernel
theorem dX0_openDay_11 : decode cX0_openDay 11 = .ok (.if_icmp .ge 20, 3) := by decide +kernel
theorem dX0_openDay_14 : decode cX0_openDay 14 = .ok (.aload_n 0, 1) := by decide +kernel
theorem dX0_openDay_15 : decode cX0_openDay 15 = .ok (.getfield 47, 3) := by decide +kernel
theorem dX0_openDay_18 : decode cX0_openDay 18 = .ok (.iload_n 1, 1) := by decide +kernel
theorem dX0_openDay_19 : decode cX0_openDay 19 = .ok (.iconst 3, 1) := by decide +kernel
theorem dX0_openDay_20 : decode cX0_openDay 20 = .ok (.imul, 1) := by decide +kernel
theorem dX0_openDay_21 : decode cX0_openDay 21 = .ok (.iload_n 2, 1) := by decide +kernel
theorem dX0_openDay_22 : decode cX0_openDay 22 = .ok (.iadd, 1) := by decide +kernel
theorem dX0_openDay_23 : decode cX0_openDay 23 = .ok (.lconst 0, 1) := by decide +kernel
theorem dX0_openDay_24 : decode cX0_openDay 24 = .ok (.lastore, 1) := by decide +kernel
theorem dX0_openDay_25 : decode cX0_openDay 25 = .ok (.iinc 2 1, 3) := by decide +kernel
theorem dX0_openDay_28 : decode cX0_openDay 28 = .ok (.goto (-19), 3) := by decide +kernel
theorem dX0_openDay_31 : decode cX0_openDay 31 = .ok (.return_, 1) := by decide +kernel
theorem dX0_addToWay_0 : decode cX0_addToWay 0 = .ok (.iload_n 1, 1) := by decide +kernel
theorem dX0_addToWay_1 : decode cX0_addToWay 1 = .ok (.iconst 3, 1) := by decide +kernel
theorem dX0_addToWay_2 : decode cX0_addToWay 2 = .ok (.imul, 1) := by decide +kernel
theorem dX0_addToWay_3 : decode cX0_addToWay 3 = .ok (.iload_n 2, 1) := by decide +kernel
theorem dX0_addToWay_4 : decode cX0_addToWay 4 = .ok (.iadd, 1) := by decide +kernel
theorem dX0_addToWay_5 : decode cX0_addToWay 5 = .ok (.istore 4, 2) := by decide +kernel
theorem dX0_addToWay_7 : decode cX0_addToWay 7 = .ok (.aload_n 0, 1) := by decide +kernel
theorem dX0_addToWay_8 : decode cX0_addToWay 8 = .ok (.iload_n 1, 1) := by decide +kernel
theorem dX0_addToWay_9 : decode cX0_addToWay 9 = .ok (.iload_n 2, 1) := by decide +kernel
theorem dX0_addToWay_10 : decode cX0_addToWay 10 = .ok (.invokevirtual 76, 3) := by decide +kernel
theorem dX0_addToWay_13 : decode cX0_addToWay 13 = .ok (.istore 5, 2) := by decide +kernel
theorem dX0_addToWay_15 : decode cX0_addToWay 15 = .ok (.aload_n 0, 1) := by decide +kernel
theorem dX0_addToWay_16 : decode cX0_addToWay 16 = .ok (.getfield 47, 3) := by decide +kernel
theorem dX0_addToWay_19 : decode cX0_addToWay 19 = .ok (.iload 4, 2) := by decide +kernel
theorem dX0_addToWay_21 : decode cX0_addToWay 21 = .ok (.aload_n 0, 1) := by decide +kernel
theorem dX0_addToWay_22 : decode cX0_addToWay 22 = .ok (.getfield 47, 3) := by decide +kernel
theorem dX0_addToWay_25 : decode cX0_addToWay 25 = .ok (.iload 4, 2) := by decide +kernel
theorem dX0_addToWay_27 : decode cX0_addToWay 27 = .ok (.laload, 1) := by decide +kernel
theorem dX0_addToWay_28 : decode cX0_addToWay 28 = .ok (.iload_n 3, 1) := by decide +kernel
theorem dX0_addToWay_29 : decode cX0_addToWay 29 = .ok (.i2l, 1) := by decide +kernel
theorem dX0_addToWay_30 : decode cX0_addToWay 30 = .ok (.iconst 4, 1) := by decide +kernel
theorem dX0_addToWay_31 : decode cX0_addToWay 31 = .ok (.iconst 4, 1) := by decide +kernel
theorem dX0_addToWay_32 : decode cX0_addToWay 32 = .ok (.iload 5, 2) := by decide +kernel
theorem dX0_addToWay_34 : decode cX0_addToWay 34 = .ok (.imul, 1) := by decide +kernel
theorem dX0_addToWay_35 : decode cX0_addToWay 35 = .ok (.iadd, 1) := by decide +kernel
theorem dX0_addToWay_36 : decode cX0_addToWay 36 = .ok (.lshl, 1) := by decide +kernel
theorem dX0_addToWay_37 : decode cX0_addToWay 37 = .ok (.lor, 1) := by decide +kernel
theorem dX0_addToWay_38 : decode cX0_addToWay 38 = .ok (.lconst 1, 1) := by decide +kernel
theorem dX0_addToWay_39 : decode cX0_addToWay 39 = .ok (.ladd, 1) := by decide +kernel
theorem dX0_addToWay_40 : decode cX0_addToWay 40 = .ok (.lastore, 1) := by decide +kernel
theorem dX0_addToWay_41 : decode cX0_addToWay 41 = .ok (.aload_n 0, 1) := by decide +kernel
theorem dX0_addToWay_42 : decode cX0_addToWay 42 = .ok (.getfield 44, 3) := by decide +kernel
theorem dX0_addToWay_45 : decode cX0_addToWay 45 = .ok (.iload_n 1, 1) := by decide +kernel
theorem dX0_addToWay_46 : decode cX0_addToWay 46 = .ok (.dup2, 1) := by decide +kernel
theorem dX0_addToWay_47 : decode cX0_addToWay 47 = .ok (.iaload, 1) := by decide +kernel
theorem dX0_addToWay_48 : decode cX0_addToWay 48 = .ok (.iconst 1, 1) := by decide +kernel
theorem dX0_addToWay_49 : decode cX0_addToWay 49 = .ok (.iload_n 3, 1) := by decide +kernel
theorem dX0_addToWay_50 : decode cX0_addToWay 50 = .ok (.ishl, 1) := by decide +kernel
theorem dX0_addToWay_51 : decode cX0_addToWay 51 = .ok (.ior, 1) := by decide +kernel
theorem dX0_addToWay_52 : decode cX0_addToWay 52 = .ok (.iastore, 1) := by decide +kernel
theorem dX0_addToWay_53 : decode cX0_addToWay 53 = .ok (.return_, 1) := by decide +kernel
theorem dX0_wayLength_0 : decode cX0_wayLength 0 = .ok (.aload_n 0, 1) := by decide +kernel
theorem dX0_wayLength_1 : decode cX0_wayLength 1 = .ok (.getfield 47, 3) := by decide +kernel
theorem dX0_wayLength_4 : decode cX0_wayLength 4 = .ok (.iload_n 1, 1) := by decide +kernel
theorem dX0_wayLength_5 : decode cX0_wayLength 5 = .ok (.iconst 3, 1) := by decide +kernel
theorem dX0_wayLength_6 : decode cX0_wayLength 6 = .ok (.imul, 1) := by decide +kernel
theorem dX0_wayLength_7 : decode cX0_wayLength 7 = .ok (.iload_n 2, 1) := by decide +kernel
theorem dX0_wayLength_8 : decode cX0_wayLength 8 = .ok (.iadd, 1) := by decide +kernel
theorem dX0_wayLength_9 : decode cX0_wayLength 9 = .ok (.laload, 1) := by decide +kernel
theorem dX0_wayLength_10 : decode cX0_wayLength 10 = .ok (.ldc2_w 80, 3) := by decide +kernel
theorem dX0_wayLength_13 : decode cX0_wayLength 13 = .ok (.land, 1) := by decide +kernel
theorem dX0_wayLength_14 : decode cX0_wayLength 14 = .ok (.l2i, 1) := by decide +kernel
theorem dX0_wayLength_15 : decode cX0_wayLength 15 = .ok (.ireturn, 1) := by decide +kernel
theorem dX0_wayHouse_0 : decode cX0_wayHouse 0 = .ok (.iload_n 3, 1) := by decide +kernel
theorem dX0_wayHouse_1 : decode cX0_wayHouse 1 = .ok (.ifCond .lt 13, 3) := by decide +kernel
theorem dX0_wayHouse_4 : decode cX0_wayHouse 4 = .ok (.iload_n 3, 1) := by decide +kernel
theorem dX0_wayHouse_5 : decode cX0_wayHouse 5 = .ok (.aload_n 0, 1) := by decide +kernel
theorem dX0_wayHouse_6 : decode cX0_wayHouse 6 = .ok (.iload_n 1, 1) := by decide +kernel
theorem dX0_wayHouse_7 : decode cX0_wayHouse 7 = .ok (.iload_n 2, 1) := by decide +kernel
theorem dX0_wayHouse_8 : decode cX0_wayHouse 8 = .ok (.invokevirtual 76, 3) := by decide +kernel
theorem dX0_wayHouse_11 : decode cX0_wayHouse 11 = .ok (.if_icmp .lt 5, 3) := by decide +kernel
theorem dX0_wayHouse_14 : decode cX0_wayHouse 14 = .ok (.iconst (-1), 1) := by decide +kernel
theorem dX0_wayHouse_15 : decode cX0_wayHouse 15 = .ok (.ireturn, 1) := by decide +kernel
theorem dX0_wayHouse_16 : decode cX0_wayHouse 16 = .ok (.aload_n 0, 1) := by decide +kernel
theorem dX0_wayHouse_17 : decode cX0_wayHouse 17 = .ok (.getfield 47, 3) := by decide +kernel
theorem dX0_wayHouse_20 : decode cX0_wayHouse 20 = .ok (.iload_n 1, 1) := by decide +kernel
theorem dX0_wayHouse_21 : decode cX0_wayHouse 21 = .ok (.iconst 3, 1) := by decide +kernel
theorem dX0_wayHouse_22 : decode cX0_wayHouse 22 = .ok (.imul, 1) := by decide +kernel
theorem dX0_wayHouse_23 : decode cX0_wayHouse 23 = .ok (.iload_n 2, 1) := by decide +kernel
theorem dX0_wayHouse_24 : decode cX0_wayHouse 24 = .ok (.iadd, 1) := by decide +kernel
theorem dX0_wayHouse_25 : decode cX0_wayHouse 25 = .ok (.laload, 1) := by decide +kernel
theorem dX0_wayHouse_26 : decode cX0_wayHouse 26 = .ok (.iconst 4, 1) := by decide +kernel
theorem dX0_wayHouse_27 : decode cX0_wayHouse 27 = .ok (.iconst 4, 1) := by decide +kernel
theorem dX0_wayHouse_28 : decode cX0_wayHouse 28 = .ok (.iload_n 3, 1) := by decide +kernel
theorem dX0_wayHouse_29 : decode cX0_wayHouse 29 = .ok (.imul, 1) := by decide +kernel
theorem dX0_wayHouse_30 : decode cX0_wayHouse 30 = .ok (.iadd, 1) := by decide +kernel
theorem dX0_wayHouse_31 : decode cX0_wayHouse 31 = .ok (.lushr, 1) := by decide +kernel
theorem dX0_wayHouse_32 : decode cX0_wayHouse 32 = .ok (.ldc2_w 80, 3) := by decide +kernel
theorem dX0_wayHouse_35 : decode cX0_wayHouse 35 = .ok (.land, 1) := by decide +kernel
theorem dX0_wayHouse_36 : decode cX0_wayHouse 36 = .ok (.l2i, 1) := by decide +kernel
theorem dX0_wayHouse_37 : decode cX0_wayHouse 37 = .ok (.ireturn, 1) := by decide +kernel
theorem dX0_addNote_0 : decode cX0_addNote 0 = .ok (.aload_n 0, 1) := by decide +kernel
theorem dX0_addNote_1 : decode cX0_addNote 1 = .ok (.getfield 15, 3) := by decide +kernel
theorem dX0_addNote_4 : decode cX0_addNote 4 = .ok (.bipush 60, 2) := by decide +kernel
theorem dX0_addNote_6 : decode cX0_addNote 6 = .ok (.if_icmp .lt 5, 3) := by decide +kernel
theorem dX0_addNote_9 : decode cX0_addNote 9 = .ok (.iconst (-1), 1) := by decide +kernel
theorem dX0_addNote_10 : decode cX0_addNote 10 = .ok (.ireturn, 1) := by decide +kernel
theorem dX0_addNote_11 : decode cX0_addNote 11 = .ok (.aload_n 0, 1) := by decide +kernel
theorem dX0_addNote_12 : decode cX0_addNote 12 = .ok (.getfield 51, 3) := by decide +kernel
theorem dX0_addNote_15 : decode cX0_addNote 15 = .ok (.aload_n 0, 1) := by decide +kernel
theorem dX0_addNote_16 : decode cX0_addNote 16 = .ok (.getfield 15, 3) := by decide +kernel
theorem dX0_addNote_19 : decode cX0_addNote 19 = .ok (.iload_n 1, 1) := by decide +kernel
theorem dX0_addNote_20 : decode cX0_addNote 20 = .ok (.iastore, 1) := by decide +kernel
theorem dX0_addNote_21 : decode cX0_addNote 21 = .ok (.aload_n 0, 1) := by decide +kernel
theorem dX0_addNote_22 : decode cX0_addNote 22 = .ok (.getfield 54, 3) := by decide +kernel
theorem dX0_addNote_25 : decode cX0_addNote 25 = .ok (.aload_n 0, 1) := by decide +kernel
theorem dX0_addNote_26 : decode cX0_addNote 26 = .ok (.getfield 15, 3) := by decide +kernel
theorem dX0_addNote_29 : decode cX0_addNote 29 = .ok (.iload_n 2, 1) := by decide +kernel
theorem dX0_addNote_30 : decode cX0_addNote 30 = .ok (.iastore, 1) := by decide +kernel
theorem dX0_addNote_31 : decode cX0_addNote 31 = .ok (.aload_n 0, 1) := by decide +kernel
theorem dX0_addNote_32 : decode cX0_addNote 32 = .ok (.getfield 57, 3) := by decide +kernel
theorem dX0_addNote_35 : decode cX0_addNote 35 = .ok (.aload_n 0, 1) := by decide +kernel
theorem dX0_addNote_36 : decode cX0_addNote 36 = .ok (.getfield 15, 3) := by decide +kernel
theorem dX0_addNote_39 : decode cX0_addNote 39 = .ok (.iload_n 3, 1) := by decide +kernel
theorem dX0_addNote_40 : decode cX0_addNote 40 = .ok (.iastore, 1) := by decide +kernel
theorem dX0_addNote_41 : decode cX0_addNote 41 = .ok (.aload_n 0, 1) := by decide +kernel
theorem dX0_addNote_42 : decode cX0_addNote 42 = .ok (.dup, 1) := by decide +kernel
theorem dX0_addNote_43 : decode cX0_addNote 43 = .ok (.getfield 15, 3) := by decide +kernel
theorem dX0_addNote_46 : decode cX0_addNote 46 = .ok (.iconst 1, 1) := by decide +kernel
theorem dX0_addNote_47 : decode cX0_addNote 47 = .ok (.iadd, 1) := by decide +kernel
theorem dX0_addNote_48 : decode cX0_addNote 48 = .ok (.putfield 15, 3) := by decide +kernel
theorem dX0_addNote_51 : decode cX0_addNote 51 = .ok (.aload_n 0, 1) := by decide +kernel
theorem dX0_addNote_52 : decode cX0_addNote 52 = .ok (.getfield 15, 3) := by decide +kernel
theorem dX0_addNote_55 : decode cX0_addNote 55 = .ok (.iconst 1, 1) := by decide +kernel
theorem dX0_addNote_56 : decode cX0_addNote 56 = .ok (.isub, 1) := by decide +kernel
theorem dX0_addNote_57 : decode cX0_addNote 57 = .ok (.ireturn, 1) := by decide +kernel
theorem dX0_known_0 : decode cX0_known 0 = .ok (.iconst 0, 1) := by decide +kernel
theorem dX0_known_1 : decode cX0_known 1 = .ok (.istore_n 3, 1) := by decide +kernel
theorem dX0_known_2 : decode cX0_known 2 = .ok (.iload_n 3, 1) := by decide +kernel
theorem dX0_known_3 : decode cX0_known 3 = .ok (.iload_n 2, 1) := by decide +kernel
theorem dX0_known_4 : decode cX0_known 4 = .ok (.if_icmp .ge 16, 3) := by decide +kernel
theorem dX0_known_7 : decode cX0_known 7 = .ok (.aload_n 0, 1) := by decide +kernel
theorem dX0_known_8 : decode cX0_known 8 = .ok (.getfield 60, 3) := by decide +kernel
theorem dX0_known_11 : decode cX0_known 11 = .ok (.iload_n 3, 1) := by decide +kernel
theorem dX0_known_12 : decode cX0_known 12 = .ok (.iconst 0, 1) := by decide +kernel
theorem dX0_known_13 : decode cX0_known 13 = .ok (.bastore, 1) := by decide +kernel
theorem dX0_known_14 : decode cX0_known 14 = .ok (.iinc 3 1, 3) := by decide +kernel
theorem dX0_known_17 : decode cX0_known 17 = .ok (.goto (-15), 3) := by decide +kernel
theorem dX0_known_20 : decode cX0_known 20 = .ok (.iconst 0, 1) := by decide +kernel
theorem dX0_known_21 : decode cX0_known 21 = .ok (.istore_n 3, 1) := by decide +kernel
theorem dX0_known_22 : decode cX0_known 22 = .ok (.iload_n 2, 1) := by decide +kernel
theorem dX0_known_23 : decode cX0_known 23 = .ok (.iconst 1, 1) := by decide +kernel
theorem dX0_known_24 : decode cX0_known 24 = .ok (.isub, 1) := by decide +kernel
theorem dX0_known_25 : decode cX0_known 25 = .ok (.istore 4, 2) := by decide +kernel
theorem dX0_known_27 : decode cX0_known 27 = .ok (.iload 4, 2) := by decide +kernel
theorem dX0_known_29 : decode cX0_known 29 = .ok (.ifCond .lt 70, 3) := by decide +kernel
theorem dX0_known_32 : decode cX0_known 32 = .ok (.aload_n 0, 1) := by decide +kernel
theorem dX0_known_33 : decode cX0_known 33 = .ok (.getfield 60, 3) := by decide +kernel
theorem dX0_known_36 : decode cX0_known 36 = .ok (.iload 4, 2) := by decide +kernel
theorem dX0_known_38 : decode cX0_known 38 = .ok (.baload, 1) := by decide +kernel
theorem dX0_known_39 : decode cX0_known 39 = .ok (.ifCond .eq 6, 3) := by decide +kernel
theorem dX0_known_42 : decode cX0_known 42 = .ok (.goto 51, 3) := by decide +kernel
theorem dX0_known_45 : decode cX0_known 45 = .ok (.aload_n 0, 1) := by decide +kernel
theorem dX0_known_46 : decode cX0_known 46 = .ok (.getfield 57, 3) := by decide +kernel
theorem dX0_known_49 : decode cX0_known 49 = .ok (.iload 4, 2) := by decide +kernel
theorem dX0_known_51 : decode cX0_known 51 = .ok (.iaload, 1) := by decide +kernel
theorem dX0_known_52 : decode cX0_known 52 = .ok (.iconst (-1), 1) := by decide +kernel
theorem dX0_known_53 : decode cX0_known 53 = .ok (.if_icmp .eq 19, 3) := by decide +kernel
theorem dX0_known_56 : decode cX0_known 56 = .ok (.aload_n 0, 1) := by decide +kernel
theorem dX0_known_57 : decode cX0_known 57 = .ok (.getfield 60, 3) := by decide +kernel
theorem dX0_known_60 : decode cX0_known 60 = .ok (.aload_n 0, 1) := by decide +kernel
theorem dX0_known_61 : decode cX0_known 61 = .ok (.getfield 57, 3) := by decide +kernel
theorem dX0_known_64 : decode cX0_known 64 = .ok (.iload 4, 2) := by decide +kernel
theorem dX0_known_66 : decode cX0_known 66 = .ok (.iaload, 1) := by decide +kernel
theorem dX0_known_67 : decode cX0_known 67 = .ok (.iconst 1, 1) := by decide +kernel
theorem dX0_known_68 : decode cX0_known 68 = .ok (.bastore, 1) := by decide +kernel
theorem dX0_known_69 : decode cX0_known 69 = .ok (.goto 24, 3) := by decide +kernel
theorem dX0_known_72 : decode cX0_known 72 = .ok (.aload_n 0, 1) := by decide +kernel
theorem dX0_known_73 : decode cX0_known 73 = .ok (.getfield 51, 3) := by decide +kernel
theorem dX0_known_76 : decode cX0_known 76 = .ok (.iload 4, 2) := by decide +kernel
theorem dX0_known_78 : decode cX0_known 78 = .ok (.iaload, 1) := by decide +kernel
theorem dX0_known_79 : decode cX0_known 79 = .ok (.iload_n 1, 1) := by decide +kernel
theorem dX0_known_80 : decode cX0_known 80 = .ok (.if_icmp .ne 13, 3) := by decide +kernel
theorem dX0_known_83 : decode cX0_known 83 = .ok (.iload_n 3, 1) := by decide +kernel
theorem dX0_known_84 : decode cX0_known 84 = .ok (.aload_n 0, 1) := by decide +kernel
theorem dX0_known_85 : decode cX0_known 85 = .ok (.getfield 54, 3) := by decide +kernel
theorem dX0_known_88 : decode cX0_known 88 = .ok (.iload 4, 2) := by decide +kernel
theorem dX0_known_90 : decode cX0_known 90 = .ok (.iaload, 1) := by decide +kernel
theorem dX0_known_91 : decode cX0_known 91 = .ok (.iadd, 1) := by decide +kernel
theorem dX0_known_92 : decode cX0_known 92 = .ok (.istore_n 3, 1) := by decide +kernel
theorem dX0_known_93 : decode cX0_known 93 = .ok (.iinc 4 (-1), 3) := by decide +kernel
theorem dX0_known_96 : decode cX0_known 96 = .ok (.goto (-69), 3) := by decide +kernel
theorem dX0_known_99 : decode cX0_known 99 = .ok (.iload_n 3, 1) := by decide +kernel
theorem dX0_known_100 : decode cX0_known 100 = .ok (.ireturn, 1) := by decide +kernel
theorem dX0_owing_0 : decode cX0_owing 0 = .ok (.aload_n 0, 1) := by decide +kernel
theorem dX0_owing_1 : decode cX0_owing 1 = .ok (.getfield 25, 3) := by decide +kernel
theorem dX0_owing_4 : decode cX0_owing 4 = .ok (.iload_n 2, 1) := by decide +kernel
theorem dX0_owing_5 : decode cX0_owing 5 = .ok (.iaload, 1) := by decide +kernel
theorem dX0_owing_6 : decode cX0_owing 6 = .ok (.aload_n 1, 1) := by decide +kernel
theorem dX0_owing_7 : decode cX0_owing 7 = .ok (.getfield 63, 3) := by decide +kernel
theorem dX0_owing_10 : decode cX0_owing 10 = .ok (.iload_n 2, 1) := by decide +kernel
theorem dX0_owing_11 : decode cX0_owing 11 = .ok (.aaload, 1) := by decide +kernel
theorem dX0_owing_12 : decode cX0_owing 12 = .ok (.getfield 82, 3) := by decide +kernel
theorem dX0_owing_15 : decode cX0_owing 15 = .ok (.imul, 1) := by decide +kernel
theorem dX0_owing_16 : decode cX0_owing 16 = .ok (.aload_n 0, 1) := by decide +kernel
theorem dX0_owing_17 : decode cX0_owing 17 = .ok (.getfield 41, 3) := by decide +kernel
theorem dX0_owing_20 : decode cX0_owing 20 = .ok (.iload_n 2, 1) := by decide +kernel
theorem dX0_owing_21 : decode cX0_owing 21 = .ok (.iaload, 1) := by decide +kernel
theorem dX0_owing_22 : decode cX0_owing 22 = .ok (.isub, 1) := by decide +kernel
theorem dX0_owing_23 : decode cX0_owing 23 = .ok (.aload_n 0, 1) := by decide +kernel
theorem dX0_owing_24 : decode cX0_owing 24 = .ok (.iload_n 2, 1) := by decide +kernel
theorem dX0_owing_25 : decode cX0_owing 25 = .ok (.iload_n 3, 1) := by decide +kernel
theorem dX0_owing_26 : decode cX0_owing 26 = .ok (.invokevirtual 85, 3) := by decide +kernel
theorem dX0_owing_29 : decode cX0_owing 29 = .ok (.isub, 1) := by decide +kernel
theorem dX0_owing_30 : decode cX0_owing 30 = .ok (.ireturn, 1) := by decide +kernel
theorem dX0_firstUnpaid_0 : decode cX0_firstUnpaid 0 = .ok (.aload_n 1, 1) := by decide +kernel
theorem dX0_firstUnpaid_1 : decode cX0_firstUnpaid 1 = .ok (.getfield 63, 3) := by decide +kernel
theorem dX0_firstUnpaid_4 : decode cX0_firstUnpaid 4 = .ok (.iload_n 2, 1) := by decide +kernel
theorem dX0_firstUnpaid_5 : decode cX0_firstUnpaid 5 = .ok (.aaload, 1) := by decide +kernel
theorem dX0_firstUnpaid_6 : decode cX0_firstUnpaid 6 = .ok (.getfield 82, 3) := by decide +kernel
theorem dX0_firstUnpaid_9 : decode cX0_firstUnpaid 9 = .ok (.istore 4, 2) := by decide +kernel
theorem dX0_firstUnpaid_11 : decode cX0_firstUnpaid 11 = .ok (.iload 4, 2) := by decide +kernel
theorem dX0_firstUnpaid_13 : decode cX0_firstUnpaid 13 = .ok (.ifCond .gt 5, 3) := by decide +kernel
theorem dX0_firstUnpaid_16 : decode cX0_firstUnpaid 16 = .ok (.iconst (-1), 1) := by decide +kernel
theorem dX0_firstUnpaid_17 : decode cX0_firstUnpaid 17 = .ok (.ireturn, 1) := by decide +kernel
theorem dX0_firstUnpaid_18 : decode cX0_firstUnpaid 18 = .ok (.aload_n 0, 1) := by decide +kernel
theorem dX0_firstUnpaid_19 : decode cX0_firstUnpaid 19 = .ok (.getfield 41, 3) := by decide +kernel
theorem dX0_firstUnpaid_22 : decode cX0_firstUnpaid 22 = .ok (.iload_n 2, 1) := by decide +kernel
theorem dX0_firstUnpaid_23 : decode cX0_firstUnpaid 23 = .ok (.iaload, 1) := by decide +kernel
theorem dX0_firstUnpaid_24 : decode cX0_firstUnpaid 24 = .ok (.aload_n 0, 1) := by decide +kernel
theorem dX0_firstUnpaid_25 : decode cX0_firstUnpaid 25 = .ok (.iload_n 2, 1) := by decide +kernel
theorem dX0_firstUnpaid_26 : decode cX0_firstUnpaid 26 = .ok (.iload_n 3, 1) := by decide +kernel
theorem dX0_firstUnpaid_27 : decode cX0_firstUnpaid 27 = .ok (.invokevirtual 85, 3) := by decide +kernel
theorem dX0_firstUnpaid_30 : decode cX0_firstUnpaid 30 = .ok (.iadd, 1) := by decide +kernel
theorem dX0_firstUnpaid_31 : decode cX0_firstUnpaid 31 = .ok (.iload 4, 2) := by decide +kernel
theorem dX0_firstUnpaid_33 : decode cX0_firstUnpaid 33 = .ok (.idiv, 1) := by decide +kernel
theorem dX0_firstUnpaid_34 : decode cX0_firstUnpaid 34 = .ok (.istore 5, 2) := by decide +kernel
theorem dX0_firstUnpaid_36 : decode cX0_firstUnpaid 36 = .ok (.iconst 0, 1) := by decide +kernel
theorem dX0_firstUnpaid_37 : decode cX0_firstUnpaid 37 = .ok (.istore 6, 2) := by decide +kernel
theorem dX0_firstUnpaid_39 : decode cX0_firstUnpaid 39 = .ok (.iload 6, 2) := by decide +kernel
theorem dX0_firstUnpaid_41 : decode cX0_firstUnpaid 41 = .ok (.aload_n 0, 1) := by decide +kernel
theorem dX0_firstUnpaid_42 : decode cX0_firstUnpaid 42 = .ok (.getfield 9, 3) := by decide +kernel
theorem dX0_firstUnpaid_45 : decode cX0_firstUnpaid 45 = .ok (.if_icmp .ge 42, 3) := by decide +kernel
theorem dX0_firstUnpaid_48 : decode cX0_firstUnpaid 48 = .ok (.iload 6, 2) := by decide +kernel
theorem dX0_firstUnpaid_50 : decode cX0_firstUnpaid 50 = .ok (.sipush 200, 3) := by decide +kernel
theorem dX0_firstUnpaid_53 : decode cX0_firstUnpaid 53 = .ok (.if_icmp .ge 34, 3) := by decide +kernel
theorem dX0_firstUnpaid_56 : decode cX0_firstUnpaid 56 = .ok (.aload_n 0, 1) := by decide +kernel
theorem dX0_firstUnpaid_57 : decode cX0_firstUnpaid 57 = .ok (.getfield 44, 3) := by decide +kernel
theorem dX0_firstUnpaid_60 : decode cX0_firstUnpaid 60 = .ok (.iload 6, 2) := by decide +kernel
theorem dX0_firstUnpaid_62 : decode cX0_firstUnpaid 62 = .ok (.iaload, 1) := by decide +kernel
theorem dX0_firstUnpaid_63 : decode cX0_firstUnpaid 63 = .ok (.iload_n 2, 1) := by decide +kernel
theorem dX0_firstUnpaid_64 : decode cX0_firstUnpaid 64 = .ok (.ishr, 1) := by decide +kernel
theorem dX0_firstUnpaid_65 : decode cX0_firstUnpaid 65 = .ok (.iconst 1, 1) := by decide +kernel
theorem dX0_firstUnpaid_66 : decode cX0_firstUnpaid 66 = .ok (.iand, 1) := by decide +kernel
theorem dX0_firstUnpaid_67 : decode cX0_firstUnpaid 67 = .ok (.ifCond .eq 14, 3) := by decide +kernel
theorem dX0_firstUnpaid_70 : decode cX0_firstUnpaid 70 = .ok (.iload 5, 2) := by decide +kernel
theorem dX0_firstUnpaid_72 : decode cX0_firstUnpaid 72 = .ok (.ifCond .ne 6, 3) := by decide +kernel
theorem dX0_firstUnpaid_75 : decode cX0_firstUnpaid 75 = .ok (.iload 6, 2) := by decide +kernel
theorem dX0_firstUnpaid_77 : decode cX0_firstUnpaid 77 = .ok (.ireturn, 1) := by decide +kernel
theorem dX0_firstUnpaid_78 : decode cX0_firstUnpaid 78 = .ok (.iinc 5 (-1), 3) := by decide +kernel
theorem dX0_firstUnpaid_81 : decode cX0_firstUnpaid 81 = .ok (.iinc 6 1, 3) := by decide +kernel
theorem dX0_firstUnpaid_84 : decode cX0_firstUnpaid 84 = .ok (.goto (-45), 3) := by decide +kernel
theorem dX0_firstUnpaid_87 : decode cX0_firstUnpaid 87 = .ok (.iconst (-1), 1) := by decide +kernel
theorem dX0_firstUnpaid_88 : decode cX0_firstUnpaid 88 = .ok (.ireturn, 1) := by decide +kernel
theorem dX0_worthOf_0 : decode cX0_worthOf 0 = .ok (.iconst 0, 1) := by decide +kernel
theorem dX0_worthOf_1 : decode cX0_worthOf 1 = .ok (.istore_n 3, 1) := by decide +kernel
theorem dX0_worthOf_2 : decode cX0_worthOf 2 = .ok (.iconst 0, 1) := by decide +kernel
theorem dX0_worthOf_3 : decode cX0_worthOf 3 = .ok (.istore 4, 2) := by decide +kernel
theorem dX0_worthOf_5 : decode cX0_worthOf 5 = .ok (.iload 4, 2) := by decide +kernel
theorem dX0_worthOf_7 : decode cX0_worthOf 7 = .ok (.aload_n 1, 1) := by decide +kernel
theorem dX0_worthOf_8 : decode cX0_worthOf 8 = .ok (.getfield 88, 3) := by decide +kernel
theorem dX0_worthOf_11 : decode cX0_worthOf 11 = .ok (.if_icmp .ge 33, 3) := by decide +kernel
theorem dX0_worthOf_14 : decode cX0_worthOf 14 = .ok (.aload_n 0, 1) := by decide +kernel
theorem dX0_worthOf_15 : decode cX0_worthOf 15 = .ok (.getfield 18, 3) := by decide +kernel
theorem dX0_worthOf_18 : decode cX0_worthOf 18 = .ok (.iload 4, 2) := by decide +kernel
theorem dX0_worthOf_20 : decode cX0_worthOf 20 = .ok (.iaload, 1) := by decide +kernel
theorem dX0_worthOf_21 : decode cX0_worthOf 21 = .ok (.iload_n 2, 1) := by decide +kernel
theorem dX0_worthOf_22 : decode cX0_worthOf 22 = .ok (.if_icmp .ne 16, 3) := by decide +kernel
theorem dX0_worthOf_25 : decode cX0_worthOf 25 = .ok (.iload_n 3, 1) := by decide +kernel
theorem dX0_worthOf_26 : decode cX0_worthOf 26 = .ok (.aload_n 1, 1) := by decide +kernel
theorem dX0_worthOf_27 : decode cX0_worthOf 27 = .ok (.getfield 63, 3) := by decide +kernel
theorem dX0_worthOf_30 : decode cX0_worthOf 30 = .ok (.iload 4, 2) := by decide +kernel
theorem dX0_worthOf_32 : decode cX0_worthOf 32 = .ok (.aaload, 1) := by decide +kernel
theorem dX0_worthOf_33 : decode cX0_worthOf 33 = .ok (.invokevirtual 91, 3) := by decide +kernel
theorem dX0_worthOf_36 : decode cX0_worthOf 36 = .ok (.iadd, 1) := by decide +kernel
theorem dX0_worthOf_37 : decode cX0_worthOf 37 = .ok (.istore_n 3, 1) := by decide +kernel
theorem dX0_worthOf_38 : decode cX0_worthOf 38 = .ok (.iinc 4 1, 3) := by decide +kernel
theorem dX0_worthOf_41 : decode cX0_worthOf 41 = .ok (.goto (-36), 3) := by decide +kernel
theorem dX0_worthOf_44 : decode cX0_worthOf 44 = .ok (.iload_n 3, 1) := by decide +kernel
theorem dX0_worthOf_45 : decode cX0_worthOf 45 = .ok (.ireturn, 1) := by decide +kernel
theorem dX1_init_0 : decode cX1_init 0 = .ok (.aload_n 0, 1) := by decide +kernel
theorem dX1_init_1 : decode cX1_init 1 = .ok (.invokespecial 3, 3) := by decide +kernel
theorem dX1_init_4 : decode cX1_init 4 = .ok (.aload_n 0, 1) := by decide +kernel
theorem dX1_init_5 : decode cX1_init 5 = .ok (.iconst 5, 1) := by decide +kernel
theorem dX1_init_6 : decode cX1_init 6 = .ok (.newarray .int, 2) := by decide +kernel
theorem dX1_init_8 : decode cX1_init 8 = .ok (.putfield 9, 3) := by decide +kernel
theorem dX1_init_11 : decode cX1_init 11 = .ok (.aload_n 0, 1) := by decide +kernel
theorem dX1_init_12 : decode cX1_init 12 = .ok (.iconst 5, 1) := by decide +kernel
theorem dX1_init_13 : decode cX1_init 13 = .ok (.newarray .int, 2) := by decide +kernel
theorem dX1_init_15 : decode cX1_init 15 = .ok (.putfield 15, 3) := by decide +kernel
theorem dX1_init_18 : decode cX1_init 18 = .ok (.aload_n 0, 1) := by decide +kernel
theorem dX1_init_19 : decode cX1_init 19 = .ok (.iconst 5, 1) := by decide +kernel
theorem dX1_init_20 : decode cX1_init 20 = .ok (.newarray .boolean, 2) := by decide +kernel
theorem dX1_init_22 : decode cX1_init 22 = .ok (.putfield 18, 3) := by decide +kernel
theorem dX1_init_25 : decode cX1_init 25 = .ok (.aload_n 0, 1) := by decide +kernel
theorem dX1_init_26 : decode cX1_init 26 = .ok (.iconst 5, 1) := by decide +kernel
theorem dX1_init_27 : decode cX1_init 27 = .ok (.newarray .int, 2) := by decide +kernel
theorem dX1_init_29 : decode cX1_init 29 = .ok (.putfield 22, 3) := by decide +kernel
theorem dX1_init_32 : decode cX1_init 32 = .ok (.aload_n 0, 1) := by decide +kernel
theorem dX1_init_33 : decode cX1_init 33 = .ok (.iconst 5, 1) := by decide +kernel
theorem dX1_init_34 : decode cX1_init 34 = .ok (.newarray .int, 2) := by decide +kernel
theorem dX1_init_36 : decode cX1_init 36 = .ok (.putfield 25, 3) := by decide +kernel
theorem dX1_init_39 : decode cX1_init 39 = .ok (.aload_n 0, 1) := by decide +kernel
theorem dX1_init_40 : decode cX1_init 40 = .ok (.iconst 5, 1) := by decide +kernel
theorem dX1_init_41 : decode cX1_init 41 = .ok (.newarray .int, 2) := by decide +kernel
theorem dX1_init_43 : decode cX1_init 43 = .ok (.putfield 28, 3) := by decide +kernel
theorem dX1_init_46 : decode cX1_init 46 = .ok (.aload_n 0, 1) := by decide +kernel
theorem dX1_init_47 : decode cX1_init 47 = .ok (.bipush 60, 2) := by decide +kernel
theorem dX1_init_49 : decode cX1_init 49 = .ok (.newarray .int, 2) := by decide +kernel
theorem dX1_init_51 : decode cX1_init 51 = .ok (.putfield 31, 3) := by decide +kernel
theorem dX1_init_54 : decode cX1_init 54 = .ok (.aload_n 0, 1) := by decide +kernel
theorem dX1_init_55 : decode cX1_init 55 = .ok (.bipush 63, 2) := by decide +kernel
theorem dX1_init_57 : decode cX1_init 57 = .ok (.newarray .int, 2) := by decide +kernel
theorem dX1_init_59 : decode cX1_init 59 = .ok (.putfield 34, 3) := by decide +kernel
theorem dX1_init_62 : decode cX1_init 62 = .ok (.aload_n 0, 1) := by decide +kernel
theorem dX1_init_63 : decode cX1_init 63 = .ok (.bipush 12, 2) := by decide +kernel
theorem dX1_init_65 : decode cX1_init 65 = .ok (.newarray .int, 2) := by decide +kernel
theorem dX1_init_67 : decode cX1_init 67 = .ok (.putfield 37, 3) := by decide +kernel
theorem dX1_init_70 : decode cX1_init 70 = .ok (.aload_n 0, 1) := by decide +kernel
theorem dX1_init_71 : decode cX1_init 71 = .ok (.bipush 12, 2) := by decide +kernel
theorem dX1_init_73 : decode cX1_init 73 = .ok (.newarray .int, 2) := by decide +kernel
theorem dX1_init_75 : decode cX1_init 75 = .ok (.putfield 40, 3) := by decide +kernel
theorem dX1_init_78 : decode cX1_init 78 = .ok (.aload_n 0, 1) := by decide +kernel
theorem dX1_init_79 : decode cX1_init 79 = .ok (.sipush 756, 3) := by decide +kernel
theorem dX1_init_82 : decode cX1_init 82 = .ok (.newarray .int, 2) := by decide +kernel
theorem dX1_init_84 : decode cX1_init 84 = .ok (.putfield 43, 3) := by decide +kernel
theorem dX1_init_87 : decode cX1_init 87 = .ok (.aload_n 0, 1) := by decide +kernel
theorem dX1_init_88 : decode cX1_init 88 = .ok (.sipush 756, 3) := by decide +kernel
theorem dX1_init_91 : decode cX1_init 91 = .ok (.newarray .int, 2) := by decide +kernel
theorem dX1_init_93 : decode cX1_init 93 = .ok (.putfield 46, 3) := by decide +kernel
theorem dX1_init_96 : decode cX1_init 96 = .ok (.aload_n 0, 1) := by decide +kernel
theorem dX1_init_97 : decode cX1_init 97 = .ok (.sipush 4096, 3) := by decide +kernel
theorem dX1_init_100 : decode cX1_init 100 = .ok (.newarray .int, 2) := by decide +kernel
theorem dX1_init_102 : decode cX1_init 102 = .ok (.putfield 49, 3) := by decide +kernel
theorem dX1_init_105 : decode cX1_init 105 = .ok (.aload_n 0, 1) := by decide +kernel
theorem dX1_init_106 : decode cX1_init 106 = .ok (.iconst 0, 1) := by decide +kernel
theorem dX1_init_107 : decode cX1_init 107 = .ok (.putfield 52, 3) := by decide +kernel
theorem dX1_init_110 : decode cX1_init 110 = .ok (.iconst 0, 1) := by decide +kernel
theorem dX1_init_111 : decode cX1_init 111 = .ok (.istore_n 1, 1) := by decide +kernel
theorem dX1_init_112 : decode cX1_init 112 = .ok (.iload_n 1, 1) := by decide +kernel
theorem dX1_init_113 : decode cX1_init 113 = .ok (.iconst 5, 1) := by decide +kernel
theorem dX1_init_114 : decode cX1_init 114 = .ok (.if_icmp .ge 16, 3) := by decide +kernel
theorem dX1_init_117 : decode cX1_init 117 = .ok (.aload_n 0, 1) := by decide +kernel
theorem dX1_init_118 : decode cX1_init 118 = .ok (.getfield 15, 3) := by decide +kernel
theorem dX1_init_121 : decode cX1_init 121 = .ok (.iload_n 1, 1) := by decide +kernel
theorem dX1_init_122 : decode cX1_init 122 = .ok (.iconst (-1), 1) := by decide +kernel
theorem dX1_init_123 : decode cX1_init 123 = .ok (.iastore, 1) := by decide +kernel
theorem dX1_init_124 : decode cX1_init 124 = .ok (.iinc 1 1, 3) := by decide +kernel
theorem dX1_init_127 : decode cX1_init 127 = .ok (.goto (-15), 3) := by decide +kernel
theorem dX1_init_130 : decode cX1_init 130 = .ok (.return_, 1) := by decide +kernel
theorem dX1_forget_0 : decode cX1_forget 0 = .ok (.iconst 0, 1) := by decide +kernel
theorem dX1_forget_1 : decode cX1_forget 1 = .ok (.istore_n 1, 1) := by decide +kernel
theorem dX1_forget_2 : decode cX1_forget 2 = .ok (.iload_n 1, 1) := by decide +kernel
theorem dX1_forget_3 : decode cX1_forget 3 = .ok (.iconst 5, 1) := by decide +kernel
theorem dX1_forget_4 : decode cX1_forget 4 = .ok (.if_icmp .ge 16, 3) := by decide +kernel
theorem dX1_forget_7 : decode cX1_forget 7 = .ok (.aload_n 0, 1) := by decide +kernel
theorem dX1_forget_8 : decode cX1_forget 8 = .ok (.getfield 15, 3) := by decide +kernel
theorem dX1_forget_11 : decode cX1_forget 11 = .ok (.iload_n 1, 1) := by decide +kernel
theorem dX1_forget_12 : decode cX1_forget 12 = .ok (.iconst (-1), 1) := by decide +kernel
theorem dX1_forget_13 : decode cX1_forget 13 = .ok (.iastore, 1) := by decide +kernel
theorem dX1_forget_14 : decode cX1_forget 14 = .ok (.iinc 1 1, 3) := by decide +kernel
theorem dX1_forget_17 : decode cX1_forget 17 = .ok (.goto (-15), 3) := by decide +kernel
theorem dX1_forget_20 : decode cX1_forget 20 = .ok (.return_, 1) := by decide +kernel
theorem dX1_missed_0 : decode cX1_missed 0 = .ok (.aload_n 0, 1) := by decide +kernel
theorem dX1_missed_1 : decode cX1_missed 1 = .ok (.aload_n 1, 1) := by decide +kernel
theorem dX1_missed_2 : decode cX1_missed 2 = .ok (.iload_n 2, 1) := by decide +kernel
theorem dX1_missed_3 : decode cX1_missed 3 = .ok (.iload_n 3, 1) := by decide +kernel
theorem dX1_missed_4 : decode cX1_missed 4 = .ok (.iload 4, 2) := by decide +kernel
theorem dX1_missed_6 : decode cX1_missed 6 = .ok (.invokevirtual 56, 3) := by decide +kernel
theorem dX1_missed_9 : decode cX1_missed 9 = .ok (.iconst 1, 1) := by decide +kernel
theorem dX1_missed_10 : decode cX1_missed 10 = .ok (.aload_n 1, 1) := by decide +kernel
theorem dX1_missed_11 : decode cX1_missed 11 = .ok (.getfield 60, 3) := by decide +kernel
theorem dX1_missed_14 : decode cX1_missed 14 = .ok (.iload_n 2, 1) := by decide +kernel
theorem dX1_missed_15 : decode cX1_missed 15 = .ok (.aaload, 1) := by decide +kernel
theorem dX1_missed_16 : decode cX1_missed 16 = .ok (.getfield 66, 3) := by decide +kernel
theorem dX1_missed_19 : decode cX1_missed 19 = .ok (.ishl, 1) := by decide +kernel
theorem dX1_missed_20 : decode cX1_missed 20 = .ok (.iconst 1, 1) := by decide +kernel
theorem dX1_missed_21 : decode cX1_missed 21 = .ok (.isub, 1) := by decide +kernel
theorem dX1_missed_22 : decode cX1_missed 22 = .ok (.aload_n 0, 1) := by decide +kernel
theorem dX1_missed_23 : decode cX1_missed 23 = .ok (.getfield 22, 3) := by decide +kernel
theorem dX1_missed_26 : decode cX1_missed 26 = .ok (.iload_n 2, 1) := by decide +kernel
theorem dX1_missed_27 : decode cX1_missed 27 = .ok (.iaload, 1) := by decide +kernel
theorem dX1_missed_28 : decode cX1_missed 28 = .ok (.iconst (-1), 1) := by decide +kernel
theorem dX1_missed_29 : decode cX1_missed 29 = .ok (.ixor, 1) := by decide +kernel
theorem dX1_missed_30 : decode cX1_missed 30 = .ok (.iand, 1) := by decide +kernel
theorem dX1_missed_31 : decode cX1_missed 31 = .ok (.ireturn, 1) := by decide +kernel
theorem dX1_timeFor_0 : decode cX1_timeFor 0 = .ok (.aload_n 0, 1) := by decide +kernel
theorem dX1_timeFor_1 : decode cX1_timeFor 1 = .ok (.aload_n 1, 1) := by decide +kernel
theorem dX1_timeFor_2 : decode cX1_timeFor 2 = .ok (.iload_n 2, 1) := by decide +kernel
theorem dX1_timeFor_3 : decode cX1_timeFor 3 = .ok (.iload_n 3, 1) := by decide +kernel
theorem dX1_timeFor_4 : decode cX1_timeFor 4 = .ok (.iload 4, 2) := by decide +kernel
theorem dX1_timeFor_6 : decode cX1_timeFor 6 = .ok (.invokevirtual 56, 3) := by decide +kernel
theorem dX1_timeFor_9 : decode cX1_timeFor 9 = .ok (.aload_n 0, 1) := by decide +kernel
theorem dX1_timeFor_10 : decode cX1_timeFor 10 = .ok (.getfield 25, 3) := by decide +kernel
theorem dX1_timeFor_13 : decode cX1_timeFor 13 = .ok (.iload_n 2, 1) := by decide +kernel
theorem dX1_timeFor_14 : decode cX1_timeFor 14 = .ok (.iaload, 1) := by decide +kernel
theorem dX1_timeFor_15 : decode cX1_timeFor 15 = .ok (.ireturn, 1) := by decide +kernel
theorem dX1_panesByPoles_0 : decode cX1_panesByPoles 0 = .ok (.aload_n 0, 1) := by decide +kernel
theorem dX1_panesByPoles_1 : decode cX1_panesByPoles 1 = .ok (.aload_n 1, 1) := by decide +kernel
theorem dX1_panesByPoles_2 : decode cX1_panesByPoles 2 = .ok (.iload_n 2, 1) := by decide +kernel
theorem dX1_panesByPoles_3 : decode cX1_panesByPoles 3 = .ok (.aload_n 1, 1) := by decide +kernel
theorem dX1_panesByPoles_4 : decode cX1_panesByPoles 4 = .ok (.getfield 71, 3) := by decide +kernel
theorem dX1_panesByPoles_7 : decode cX1_panesByPoles 7 = .ok (.invokevirtual 75, 3) := by decide +kernel
theorem dX1_panesByPoles_10 : decode cX1_panesByPoles 10 = .ok (.iconst 0, 1) := by decide +kernel
theorem dX1_panesByPoles_11 : decode cX1_panesByPoles 11 = .ok (.invokevirtual 56, 3) := by decide +kernel
theorem dX1_panesByPoles_14 : decode cX1_panesByPoles 14 = .ok (.aload_n 0, 1) := by decide +kernel
theorem dX1_panesByPoles_15 : decode cX1_panesByPoles 15 = .ok (.getfield 28, 3) := by decide +kernel
theorem dX1_panesByPoles_18 : decode cX1_panesByPoles 18 = .ok (.iload_n 2, 1) := by decide +kernel
theorem dX1_panesByPoles_19 : decode cX1_panesByPoles 19 = .ok (.iaload, 1) := by decide +kernel
theorem dX1_panesByPoles_20 : decode cX1_panesByPoles 20 = .ok (.ireturn, 1) := by decide +kernel
theorem dX1_settingOf_0 : decode cX1_settingOf 0 = .ok (.iload_n 2, 1) := by decide +kernel
theorem dX1_settingOf_1 : decode cX1_settingOf 1 = .ok (.ifCond .lt 27, 3) := by decide +kernel
theorem dX1_settingOf_4 : decode cX1_settingOf 4 = .ok (.iload_n 2, 1) := by decide +kernel
theorem dX1_settingOf_5 : decode cX1_settingOf 5 = .ok (.aload_n 0, 1) := by decide +kernel
theorem dX1_settingOf_6 : decode cX1_settingOf 6 = .ok (.getfield 9, 3) := by decide +kernel
theorem dX1_settingOf_9 : decode cX1_settingOf 9 = .ok (.iload_n 1, 1) := by decide +kernel
theorem dX1_settingOf_10 : decode cX1_settingOf 10 = .ok (.iaload, 1) := by decide +kernel
theorem dX1_settingOf_11 : decode cX1_settingOf 11 = .ok (.if_icmp .ge 17, 3) := by decide +kernel
theorem dX1_settingOf_14 : decode cX1_settingOf 14 = .ok (.aload_n 0, 1) := by decide +kernel
theorem dX1_settingOf_15 : decode cX1_settingOf 15 = .ok (.getfield 31, 3) := by decide +kernel
theorem dX1_settingOf_18 : decode cX1_settingOf 18 = .ok (.iload_n 1, 1) := by decide +kernel
theorem dX1_settingOf_19 : decode cX1_settingOf 19 = .ok (.bipush 12, 2) := by decide +kernel
theorem dX1_settingOf_21 : decode cX1_settingOf 21 = .ok (.imul, 1) := by decide +kernel
theorem dX1_settingOf_22 : decode cX1_settingOf 22 = .ok (.iload_n 2, 1) := by decide +kernel
theorem dX1_settingOf_23 : decode cX1_settingOf 23 = .ok (.iadd, 1) := by decide +kernel
theorem dX1_settingOf_24 : decode cX1_settingOf 24 = .ok (.iaload, 1) := by decide +kernel
theorem dX1_settingOf_25 : decode cX1_settingOf 25 = .ok (.goto 4, 3) := by decide +kernel
theorem dX1_settingOf_28 : decode cX1_settingOf 28 = .ok (.iconst (-1), 1) := by decide +kernel
theorem dX1_settingOf_29 : decode cX1_settingOf 29 = .ok (.ireturn, 1) := by decide +kernel
theorem dX1_solve_0 : decode cX1_solve 0 = .ok (.aload_n 0, 1) := by decide +kernel
theorem dX1_solve_1 : decode cX1_solve 1 = .ok (.getfield 15, 3) := by decide +kernel
theorem dX1_solve_4 : decode cX1_solve 4 = .ok (.iload_n 2, 1) := by decide +kernel
theorem dX1_solve_5 : decode cX1_solve 5 = .ok (.iaload, 1) := by decide +kernel
theorem dX1_solve_6 : decode cX1_solve 6 = .ok (.iload_n 3, 1) := by decide +kernel
theorem dX1_solve_7 : decode cX1_solve 7 = .ok (.if_icmp .ne 15, 3) := by decide +kernel
theorem dX1_solve_10 : decode cX1_solve 10 = .ok (.aload_n 0, 1) := by decide +kernel
theorem dX1_solve_11 : decode cX1_solve 11 = .ok (.getfield 18, 3) := by decide +kernel
theorem dX1_solve_14 : decode cX1_solve 14 = .ok (.iload_n 2, 1) := by decide +kernel
theorem dX1_solve_15 : decode cX1_solve 15 = .ok (.baload, 1) := by decide +kernel
theorem dX1_solve_16 : decode cX1_solve 16 = .ok (.iload 4, 2) := by decide +kernel
theorem dX1_solve_18 : decode cX1_solve 18 = .ok (.if_icmp .ne 4, 3) := by decide +kernel
theorem dX1_solve_21 : decode cX1_solve 21 = .ok (.return_, 1) := by decide +kernel
theorem dX1_solve_22 : decode cX1_solve 22 = .ok (.aload_n 0, 1) := by decide +kernel
theorem dX1_solve_23 : decode cX1_solve 23 = .ok (.getfield 15, 3) := by decide +kernel
theorem dX1_solve_26 : decode cX1_solve 26 = .ok (.iload_n 2, 1) := by decide +kernel
theorem dX1_solve_27 : decode cX1_solve 27 = .ok (.iload_n 3, 1) := by decide +kernel
theorem dX1_solve_28 : decode cX1_solve 28 = .ok (.iastore, 1) := by decide +kernel
theorem dX1_solve_29 : decode cX1_solve 29 = .ok (.aload_n 0, 1) := by decide +kernel
theorem dX1_solve_30 : decode cX1_solve 30 = .ok (.getfield 18, 3) := by decide +kernel
theorem dX1_solve_33 : decode cX1_solve 33 = .ok (.iload_n 2, 1) := by decide +kernel
theorem dX1_solve_34 : decode cX1_solve 34 = .ok (.iload 4, 2) := by decide +kernel
theorem dX1_solve_36 : decode cX1_solve 36 = .ok (.bastore, 1) := by decide +kernel
theorem dX1_solve_37 : decode cX1_solve 37 = .ok (.aload_n 1, 1) := by decide +kernel
theorem dX1_solve_38 : decode cX1_solve 38 = .ok (.getfield 60, 3) := by decide +kernel
theorem dX1_solve_41 : decode cX1_solve 41 = .ok (.iload_n 2, 1) := by decide +kernel
theorem dX1_solve_42 : decode cX1_solve 42 = .ok (.aaload, 1) := by decide +kernel
theorem dX1_solve_43 : decode cX1_solve 43 = .ok (.astore 5, 2) := by decide +kernel
theorem dX1_solve_45 : decode cX1_solve 45 = .ok (.aload_n 0, 1) := by decide +kernel
theorem dX1_solve_46 : decode cX1_solve 46 = .ok (.aload_n 1, 1) := by decide +kernel
theorem dX1_solve_47 : decode cX1_solve 47 = .ok (.getfield 71, 3) := by decide +kernel
theorem dX1_solve_50 : decode cX1_solve 50 = .ok (.aload 5, 2) := by decide +kernel
theorem dX1_solve_52 : decode cX1_solve 52 = .ok (.iload_n 3, 1) := by decide +kernel
theorem dX1_solve_53 : decode cX1_solve 53 = .ok (.invokevirtual 81, 3) := by decide +kernel
theorem dX1_solve_56 : decode cX1_solve 56 = .ok (.aload_n 0, 1) := by decide +kernel
theorem dX1_solve_57 : decode cX1_solve 57 = .ok (.aload 5, 2) := by decide +kernel
theorem dX1_solve_59 : decode cX1_solve 59 = .ok (.iload 4, 2) := by decide +kernel
theorem dX1_solve_61 : decode cX1_solve 61 = .ok (.invokevirtual 85, 3) := by decide +kernel
theorem dX1_solve_64 : decode cX1_solve 64 = .ok (.aload_n 0, 1) := by decide +kernel
theorem dX1_solve_65 : decode cX1_solve 65 = .ok (.getfield 22, 3) := by decide +kernel
theorem dX1_solve_68 : decode cX1_solve 68 = .ok (.iload_n 2, 1) := by decide +kernel
theorem dX1_solve_69 : decode cX1_solve 69 = .ok (.aload_n 0, 1) := by decide +kernel
theorem dX1_solve_70 : decode cX1_solve 70 = .ok (.aload_n 1, 1) := by decide +kernel
theorem dX1_solve_71 : decode cX1_solve 71 = .ok (.getfield 71, 3) := by decide +kernel
theorem dX1_solve_74 : decode cX1_solve 74 = .ok (.aload 5, 2) := by decide +kernel
theorem dX1_solve_76 : decode cX1_solve 76 = .ok (.getfield 89, 3) := by decide +kernel
theorem dX1_solve_79 : decode cX1_solve 79 = .ok (.invokevirtual 92, 3) := by decide +kernel
theorem dX1_solve_82 : decode cX1_solve 82 = .ok (.iastore, 1) := by decide +kernel
theorem dX1_solve_83 : decode cX1_solve 83 = .ok (.aload_n 0, 1) := by decide +kernel
theorem dX1_solve_84 : decode cX1_solve 84 = .ok (.aload 5, 2) := by decide +kernel
theorem dX1_solve_86 : decode cX1_solve 86 = .ok (.getfield 66, 3) := by decide +kernel
theorem dX1_solve_89 : decode cX1_solve 89 = .ok (.invokevirtual 96, 3) := by decide +kernel
theorem dX1_solve_92 : decode cX1_solve 92 = .ok (.aload_n 0, 1) := by decide +kernel
theorem dX1_solve_93 : decode cX1_solve 93 = .ok (.aload_n 1, 1) := by decide +kernel
theorem dX1_solve_94 : decode cX1_solve 94 = .ok (.getfield 71, 3) := by decide +kernel
theorem dX1_solve_97 : decode cX1_solve 97 = .ok (.aload 5, 2) := by decide +kernel
theorem dX1_solve_99 : decode cX1_solve 99 = .ok (.getfield 89, 3) := by decide +kernel
theorem dX1_solve_102 : decode cX1_solve 102 = .ok (.iload_n 2, 1) := by decide +kernel
theorem dX1_solve_103 : decode cX1_solve 103 = .ok (.invokevirtual 100, 3) := by decide +kernel
theorem dX1_solve_106 : decode cX1_solve 106 = .ok (.return_, 1) := by decide +kernel
theorem dX1_lookAtHeights_0 : decode cX1_lookAtHeights 0 = .ok (.iconst 0, 1) := by decide +kernel
theorem dX1_lookAtHeights_1 : decode cX1_lookAtHeights 1 = .ok (.istore 4, 2) := by decide +kernel
theorem dX1_lookAtHeights_3 : decode cX1_lookAtHeights 3 = .ok (.iload 4, 2) := by decide +kernel
theorem dX1_lookAtHeights_5 : decode cX1_lookAtHeights 5 = .ok (.aload_n 1, 1) := by decide +kernel
theorem dX1_lookAtHeights_6 : decode cX1_lookAtHeights 6 = .ok (.invokevirtual 104, 3) := by decide +kernel
theorem dX1_lookAtHeights_9 : decode cX1_lookAtHeights 9 = .ok (.if_icmp .ge 93, 3) := by decide +kernel
theorem dX1_lookAtHeights_12 : decode cX1_lookAtHeights 12 = .ok (.iconst 1, 1) := by decide +kernel
theorem dX1_lookAtHeights_13 : decode cX1_lookAtHeights 13 = .ok (.istore 5, 2) := by decide +kernel
theorem dX1_lookAtHeights_15 : decode cX1_lookAtHeights 15 = .ok (.iload 5, 2) := by decide +kernel
theorem dX1_lookAtHeights_17 : decode cX1_lookAtHeights 17 = .ok (.bipush 9, 2) := by decide +kernel
theorem dX1_lookAtHeights_19 : decode cX1_lookAtHeights 19 = .ok (.if_icmp .gt 77, 3) := by decide +kernel
theorem dX1_lookAtHeights_22 : decode cX1_lookAtHeights 22 = .ok (.iload_n 3, 1) := by decide +kernel
theorem dX1_lookAtHeights_23 : decode cX1_lookAtHeights 23 = .ok (.iload 4, 2) := by decide +kernel
theorem dX1_lookAtHeights_25 : decode cX1_lookAtHeights 25 = .ok (.ishr, 1) := by decide +kernel
theorem dX1_lookAtHeights_26 : decode cX1_lookAtHeights 26 = .ok (.iconst 1, 1) := by decide +kernel
theorem dX1_lookAtHeights_27 : decode cX1_lookAtHeights 27 = .ok (.iand, 1) := by decide +kernel
theorem dX1_lookAtHeights_28 : decode cX1_lookAtHeights 28 = .ok (.ifCond .eq 14, 3) := by decide +kernel
theorem dX1_lookAtHeights_31 : decode cX1_lookAtHeights 31 = .ok (.aload_n 1, 1) := by decide +kernel
theorem dX1_lookAtHeights_32 : decode cX1_lookAtHeights 32 = .ok (.iload 4, 2) := by decide +kernel
theorem dX1_lookAtHeights_34 : decode cX1_lookAtHeights 34 = .ok (.iload 5, 2) := by decide +kernel
theorem dX1_lookAtHeights_36 : decode cX1_lookAtHeights 36 = .ok (.invokevirtual 107, 3) := by decide +kernel
theorem dX1_lookAtHeights_39 : decode cX1_lookAtHeights 39 = .ok (.goto 4, 3) := by decide +kernel
theorem dX1_lookAtHeights_42 : decode cX1_lookAtHeights 42 = .ok (.iconst (-1), 1) := by decide +kernel
theorem dX1_lookAtHeights_43 : decode cX1_lookAtHeights 43 = .ok (.istore 6, 2) := by decide +kernel
theorem dX1_lookAtHeights_45 : decode cX1_lookAtHeights 45 = .ok (.aload_n 0, 1) := by decide +kernel
theorem dX1_lookAtHeights_46 : decode cX1_lookAtHeights 46 = .ok (.getfield 34, 3) := by decide +kernel
theorem dX1_lookAtHeights_49 : decode cX1_lookAtHeights 49 = .ok (.iload 4, 2) := by decide +kernel
theorem dX1_lookAtHeights_51 : decode cX1_lookAtHeights 51 = .ok (.bipush 9, 2) := by decide +kernel
theorem dX1_lookAtHeights_53 : decode cX1_lookAtHeights 53 = .ok (.imul, 1) := by decide +kernel
theorem dX1_lookAtHeights_54 : decode cX1_lookAtHeights 54 = .ok (.iload 5, 2) := by decide +kernel
theorem dX1_lookAtHeights_56 : decode cX1_lookAtHeights 56 = .ok (.iadd, 1) := by decide +kernel
theorem dX1_lookAtHeights_57 : decode cX1_lookAtHeights 57 = .ok (.iconst 1, 1) := by decide +kernel
theorem dX1_lookAtHeights_58 : decode cX1_lookAtHeights 58 = .ok (.isub, 1) := by decide +kernel
theorem dX1_lookAtHeights_59 : decode cX1_lookAtHeights 59 = .ok (.iload 6, 2) := by decide +kernel
theorem dX1_lookAtHeights_61 : decode cX1_lookAtHeights 61 = .ok (.iconst (-1), 1) := by decide +kernel
theorem dX1_lookAtHeights_62 : decode cX1_lookAtHeights 62 = .ok (.if_icmp .ne 7, 3) := by decide +kernel
theorem dX1_lookAtHeights_65 : decode cX1_lookAtHeights 65 = .ok (.iconst 0, 1) := by decide +kernel
theorem dX1_lookAtHeights_66 : decode cX1_lookAtHeights 66 = .ok (.goto 23, 3) := by decide +kernel
theorem dX1_lookAtHeights_69 : decode cX1_lookAtHeights 69 = .ok (.aload_n 2, 1) := by decide +kernel
theorem dX1_lookAtHeights_70 : decode cX1_lookAtHeights 70 = .ok (.aload_n 1, 1) := by decide +kernel
theorem dX1_lookAtHeights_71 : decode cX1_lookAtHeights 71 = .ok (.iload 4, 2) := by decide +kernel
theorem dX1_lookAtHeights_73 : decode cX1_lookAtHeights 73 = .ok (.iload 6, 2) := by decide +kernel
theorem dX1_lookAtHeights_75 : decode cX1_lookAtHeights 75 = .ok (.invokevirtual 111, 3) := by decide +kernel
theorem dX1_lookAtHeights_78 : decode cX1_lookAtHeights 78 = .ok (.aload_n 1, 1) := by decide +kernel
theorem dX1_lookAtHeights_79 : decode cX1_lookAtHeights 79 = .ok (.iload 4, 2) := by decide +kernel
theorem dX1_lookAtHeights_81 : decode cX1_lookAtHeights 81 = .ok (.iload 6, 2) := by decide +kernel
theorem dX1_lookAtHeights_83 : decode cX1_lookAtHeights 83 = .ok (.invokevirtual 114, 3) := by decide +kernel
theorem dX1_lookAtHeights_86 : decode cX1_lookAtHeights 86 = .ok (.invokevirtual 117, 3) := by decide +kernel
theorem dX1_lookAtHeights_89 : decode cX1_lookAtHeights 89 = .ok (.iastore, 1) := by decide +kernel
theorem dX1_lookAtHeights_90 : decode cX1_lookAtHeights 90 = .ok (.iinc 5 1, 3) := by decide +kernel
theorem dX1_lookAtHeights_93 : decode cX1_lookAtHeights 93 = .ok (.goto (-78), 3) := by decide +kernel
theorem dX1_lookAtHeights_96 : decode cX1_lookAtHeights 96 = .ok (.iinc 4 1, 3) := by decide +kernel
theorem dX1_lookAtHeights_99 : decode cX1_lookAtHeights 99 = .ok (.goto (-96), 3) := by decide +kernel
theorem dX1_lookAtHeights_102 : decode cX1_lookAtHeights 102 = .ok (.return_, 1) := by decide +kernel
theorem dX1_lookAtColumns_0 : decode cX1_lookAtColumns 0 = .ok (.iconst 0, 1) := by decide +kernel
theorem dX1_lookAtColumns_1 : decode cX1_lookAtColumns 1 = .ok (.istore_n 3, 1) := by decide +kernel
theorem dX1_lookAtColumns_2 : decode cX1_lookAtColumns 2 = .ok (.iload_n 3, 1) := by decide +kernel
theorem dX1_lookAtColumns_3 : decode cX1_lookAtColumns 3 = .ok (.aload_n 1, 1) := by decide +kernel
theorem dX1_lookAtColumns_4 : decode cX1_lookAtColumns 4 = .ok (.getfield 89, 3) := by decide +kernel
theorem dX1_lookAtColumns_7 : decode cX1_lookAtColumns 7 = .ok (.if_icmp .ge 60, 3) := by decide +kernel
theorem dX1_lookAtColumns_10 : decode cX1_lookAtColumns 10 = .ok (.aload_n 1, 1) := by decide +kernel
theorem dX1_lookAtColumns_11 : decode cX1_lookAtColumns 11 = .ok (.iload_n 3, 1) := by decide +kernel
theorem dX1_lookAtColumns_12 : decode cX1_lookAtColumns 12 = .ok (.invokevirtual 120, 3) := by decide +kernel
theorem dX1_lookAtColumns_15 : decode cX1_lookAtColumns 15 = .ok (.istore 4, 2) := by decide +kernel
theorem dX1_lookAtColumns_17 : decode cX1_lookAtColumns 17 = .ok (.aload_n 0, 1) := by decide +kernel
theorem dX1_lookAtColumns_18 : decode cX1_lookAtColumns 18 = .ok (.getfield 37, 3) := by decide +kernel
theorem dX1_lookAtColumns_21 : decode cX1_lookAtColumns 21 = .ok (.iload_n 3, 1) := by decide +kernel
theorem dX1_lookAtColumns_22 : decode cX1_lookAtColumns 22 = .ok (.aload_n 1, 1) := by decide +kernel
theorem dX1_lookAtColumns_23 : decode cX1_lookAtColumns 23 = .ok (.iload_n 3, 1) := by decide +kernel
theorem dX1_lookAtColumns_24 : decode cX1_lookAtColumns 24 = .ok (.iconst 1, 1) := by decide +kernel
theorem dX1_lookAtColumns_25 : decode cX1_lookAtColumns 25 = .ok (.iload_n 2, 1) := by decide +kernel
theorem dX1_lookAtColumns_26 : decode cX1_lookAtColumns 26 = .ok (.invokevirtual 124, 3) := by decide +kernel
theorem dX1_lookAtColumns_29 : decode cX1_lookAtColumns 29 = .ok (.ifCond .eq 8, 3) := by decide +kernel
theorem dX1_lookAtColumns_32 : decode cX1_lookAtColumns 32 = .ok (.iload 4, 2) := by decide +kernel
theorem dX1_lookAtColumns_34 : decode cX1_lookAtColumns 34 = .ok (.goto 4, 3) := by decide +kernel
theorem dX1_lookAtColumns_37 : decode cX1_lookAtColumns 37 = .ok (.iconst 0, 1) := by decide +kernel
theorem dX1_lookAtColumns_38 : decode cX1_lookAtColumns 38 = .ok (.iastore, 1) := by decide +kernel
theorem dX1_lookAtColumns_39 : decode cX1_lookAtColumns 39 = .ok (.aload_n 0, 1) := by decide +kernel
theorem dX1_lookAtColumns_40 : decode cX1_lookAtColumns 40 = .ok (.getfield 40, 3) := by decide +kernel
theorem dX1_lookAtColumns_43 : decode cX1_lookAtColumns 43 = .ok (.iload_n 3, 1) := by decide +kernel
theorem dX1_lookAtColumns_44 : decode cX1_lookAtColumns 44 = .ok (.aload_n 1, 1) := by decide +kernel
theorem dX1_lookAtColumns_45 : decode cX1_lookAtColumns 45 = .ok (.iload_n 3, 1) := by decide +kernel
theorem dX1_lookAtColumns_46 : decode cX1_lookAtColumns 46 = .ok (.iconst 0, 1) := by decide +kernel
theorem dX1_lookAtColumns_47 : decode cX1_lookAtColumns 47 = .ok (.iload_n 2, 1) := by decide +kernel
theorem dX1_lookAtColumns_48 : decode cX1_lookAtColumns 48 = .ok (.invokevirtual 124, 3) := by decide +kernel
theorem dX1_lookAtColumns_51 : decode cX1_lookAtColumns 51 = .ok (.ifCond .eq 8, 3) := by decide +kernel
theorem dX1_lookAtColumns_54 : decode cX1_lookAtColumns 54 = .ok (.iload 4, 2) := by decide +kernel
theorem dX1_lookAtColumns_56 : decode cX1_lookAtColumns 56 = .ok (.goto 4, 3) := by decide +kernel
theorem dX1_lookAtColumns_59 : decode cX1_lookAtColumns 59 = .ok (.iconst 0, 1) := by decide +kernel
theorem dX1_lookAtColumns_60 : decode cX1_lookAtColumns 60 = .ok (.iastore, 1) := by decide +kernel
theorem dX1_lookAtColumns_61 : decode cX1_lookAtColumns 61 = .ok (.iinc 3 1, 3) := by decide +kernel
theorem dX1_lookAtColumns_64 : decode cX1_lookAtColumns 64 = .ok (.goto (-62), 3) := by decide +kernel
theorem dX1_lookAtColumns_67 : decode cX1_lookAtColumns 67 = .ok (.return_, 1) := by decide +kernel
theorem dX1_panesOf_0 : decode cX1_panesOf 0 = .ok (.aload_n 1, 1) := by decide +kernel
theorem dX1_panesOf_1 : decode cX1_panesOf 1 = .ok (.iload_n 2, 1) := by decide +kernel
theorem dX1_panesOf_2 : decode cX1_panesOf 2 = .ok (.invokevirtual 128, 3) := by decide +kernel
theorem dX1_panesOf_5 : decode cX1_panesOf 5 = .ok (.ifCond .eq 12, 3) := by decide +kernel
theorem dX1_panesOf_8 : decode cX1_panesOf 8 = .ok (.aload_n 0, 1) := by decide +kernel
theorem dX1_panesOf_9 : decode cX1_panesOf 9 = .ok (.getfield 37, 3) := by decide +kernel
theorem dX1_panesOf_12 : decode cX1_panesOf 12 = .ok (.iload_n 3, 1) := by decide +kernel
theorem dX1_panesOf_13 : decode cX1_panesOf 13 = .ok (.iaload, 1) := by decide +kernel
theorem dX1_panesOf_14 : decode cX1_panesOf 14 = .ok (.goto 9, 3) := by decide +kernel
theorem dX1_panesOf_17 : decode cX1_panesOf 17 = .ok (.aload_n 0, 1) := by decide +kernel
theorem dX1_panesOf_18 : decode cX1_panesOf 18 = .ok (.getfield 40, 3) := by decide +kernel
theorem dX1_panesOf_21 : decode cX1_panesOf 21 = .ok (.iload_n 3, 1) := by decide +kernel
theorem dX1_panesOf_22 : decode cX1_panesOf 22 = .ok (.iaload, 1) := by decide +kernel
theorem dX1_panesOf_23 : decode cX1_panesOf 23 = .ok (.istore 5, 2) := by decide +kernel
theorem dX1_panesOf_25 : decode cX1_panesOf 25 = .ok (.iload 5, 2) := by decide +kernel
theorem dX1_panesOf_27 : decode cX1_panesOf 27 = .ok (.aload_n 0, 1) := by decide +kernel
theorem dX1_panesOf_28 : decode cX1_panesOf 28 = .ok (.getfield 34, 3) := by decide +kernel
theorem dX1_panesOf_31 : decode cX1_panesOf 31 = .ok (.iload_n 2, 1) := by decide +kernel
theorem dX1_panesOf_32 : decode cX1_panesOf 32 = .ok (.bipush 9, 2) := by decide +kernel
theorem dX1_panesOf_34 : decode cX1_panesOf 34 = .ok (.imul, 1) := by decide +kernel
theorem dX1_panesOf_35 : decode cX1_panesOf 35 = .ok (.iload 4, 2) := by decide +kernel
theorem dX1_panesOf_37 : decode cX1_panesOf 37 = .ok (.iadd, 1) := by decide +kernel
theorem dX1_panesOf_38 : decode cX1_panesOf 38 = .ok (.iconst 1, 1) := by decide +kernel
theorem dX1_panesOf_39 : decode cX1_panesOf 39 = .ok (.isub, 1) := by decide +kernel
theorem dX1_panesOf_40 : decode cX1_panesOf 40 = .ok (.iaload, 1) := by decide +kernel
theorem dX1_panesOf_41 : decode cX1_panesOf 41 = .ok (.iand, 1) := by decide +kernel
theorem dX1_panesOf_42 : decode cX1_panesOf 42 = .ok (.ireturn, 1) := by decide +kernel
theorem dX1_gatherWidest_0 : decode cX1_gatherWidest 0 = .ok (.iconst 0, 1) := by decide +kernel
theorem dX1_gatherWidest_1 : decode cX1_gatherWidest 1 = .ok (.istore_n 3, 1) := by decide +kernel
theorem dX1_gatherWidest_2 : decode cX1_gatherWidest 2 = .ok (.aload_n 0, 1) := by decide +kernel
theorem dX1_gatherWidest_3 : decode cX1_gatherWidest 3 = .ok (.iconst 0, 1) := by decide +kernel
theorem dX1_gatherWidest_4 : decode cX1_gatherWidest 4 = .ok (.putfield 52, 3) := by decide +kernel
theorem dX1_gatherWidest_7 : decode cX1_gatherWidest 7 = .ok (.iconst 0, 1) := by decide +kernel
theorem dX1_gatherWidest_8 : decode cX1_gatherWidest 8 = .ok (.istore 4, 2) := by decide +kernel
theorem dX1_gatherWidest_10 : decode cX1_gatherWidest 10 = .ok (.iload 4, 2) := by decide +kernel
theorem dX1_gatherWidest_12 : decode cX1_gatherWidest 12 = .ok (.aload_n 1, 1) := by decide +kernel
theorem dX1_gatherWidest_13 : decode cX1_gatherWidest 13 = .ok (.invokevirtual 104, 3) := by decide +kernel
theorem dX1_gatherWidest_16 : decode cX1_gatherWidest 16 = .ok (.if_icmp .ge 80, 3) := by decide +kernel
theorem dX1_gatherWidest_19 : decode cX1_gatherWidest 19 = .ok (.iconst 0, 1) := by decide +kernel
theorem dX1_gatherWidest_20 : decode cX1_gatherWidest 20 = .ok (.istore 5, 2) := by decide +kernel
theorem dX1_gatherWidest_22 : decode cX1_gatherWidest 22 = .ok (.iload 5, 2) := by decide +kernel
theorem dX1_gatherWidest_24 : decode cX1_gatherWidest 24 = .ok (.iload_n 2, 1) := by decide +kernel
theorem dX1_gatherWidest_25 : decode cX1_gatherWidest 25 = .ok (.if_icmp .ge 65, 3) := by decide +kernel
theorem dX1_gatherWidest_28 : decode cX1_gatherWidest 28 = .ok (.iconst 1, 1) := by decide +kernel
theorem dX1_gatherWidest_29 : decode cX1_gatherWidest 29 = .ok (.istore 6, 2) := by decide +kernel
theorem dX1_gatherWidest_31 : decode cX1_gatherWidest 31 = .ok (.iload 6, 2) := by decide +kernel
theorem dX1_gatherWidest_33 : decode cX1_gatherWidest 33 = .ok (.bipush 9, 2) := by decide +kernel
theorem dX1_gatherWidest_35 : decode cX1_gatherWidest 35 = .ok (.if_icmp .gt 49, 3) := by decide +kernel
theorem dX1_gatherWidest_38 : decode cX1_gatherWidest 38 = .ok (.aload_n 0, 1) := by decide +kernel
theorem dX1_gatherWidest_39 : decode cX1_gatherWidest 39 = .ok (.aload_n 1, 1) := by decide +kernel
theorem dX1_gatherWidest_40 : decode cX1_gatherWidest 40 = .ok (.iload 4, 2) := by decide +kernel
theorem dX1_gatherWidest_42 : decode cX1_gatherWidest 42 = .ok (.iload 5, 2) := by decide +kernel
theorem dX1_gatherWidest_44 : decode cX1_gatherWidest 44 = .ok (.iload 6, 2) := by decide +kernel
theorem dX1_gatherWidest_46 : decode cX1_gatherWidest 46 = .ok (.invokevirtual 132, 3) := by decide +kernel
theorem dX1_gatherWidest_49 : decode cX1_gatherWidest 49 = .ok (.istore 7, 2) := by decide +kernel
theorem dX1_gatherWidest_51 : decode cX1_gatherWidest 51 = .ok (.iload 7, 2) := by decide +kernel
theorem dX1_gatherWidest_53 : decode cX1_gatherWidest 53 = .ok (.ifCond .eq 25, 3) := by decide +kernel
theorem dX1_gatherWidest_56 : decode cX1_gatherWidest 56 = .ok (.aload_n 0, 1) := by decide +kernel
theorem dX1_gatherWidest_57 : decode cX1_gatherWidest 57 = .ok (.aload_n 0, 1) := by decide +kernel
theorem dX1_gatherWidest_58 : decode cX1_gatherWidest 58 = .ok (.getfield 43, 3) := by decide +kernel
theorem dX1_gatherWidest_61 : decode cX1_gatherWidest 61 = .ok (.aload_n 0, 1) := by decide +kernel
theorem dX1_gatherWidest_62 : decode cX1_gatherWidest 62 = .ok (.getfield 52, 3) := by decide +kernel
theorem dX1_gatherWidest_65 : decode cX1_gatherWidest 65 = .ok (.iload 7, 2) := by decide +kernel
theorem dX1_gatherWidest_67 : decode cX1_gatherWidest 67 = .ok (.invokestatic 136, 3) := by decide +kernel
theorem dX1_gatherWidest_70 : decode cX1_gatherWidest 70 = .ok (.putfield 52, 3) := by decide +kernel
theorem dX1_gatherWidest_73 : decode cX1_gatherWidest 73 = .ok (.iload_n 3, 1) := by decide +kernel
theorem dX1_gatherWidest_74 : decode cX1_gatherWidest 74 = .ok (.iload 7, 2) := by decide +kernel
theorem dX1_gatherWidest_76 : decode cX1_gatherWidest 76 = .ok (.ior, 1) := by decide +kernel
theorem dX1_gatherWidest_77 : decode cX1_gatherWidest 77 = .ok (.istore_n 3, 1) := by decide +kernel
theorem dX1_gatherWidest_78 : decode cX1_gatherWidest 78 = .ok (.iinc 6 1, 3) := by decide +kernel
theorem dX1_gatherWidest_81 : decode cX1_gatherWidest 81 = .ok (.goto (-50), 3) := by decide +kernel
theorem dX1_gatherWidest_84 : decode cX1_gatherWidest 84 = .ok (.iinc 5 1, 3) := by decide +kernel
theorem dX1_gatherWidest_87 : decode cX1_gatherWidest 87 = .ok (.goto (-65), 3) := by decide +kernel
theorem dX1_gatherWidest_90 : decode cX1_gatherWidest 90 = .ok (.iinc 4 1, 3) := by decide +kernel
theorem dX1_gatherWidest_93 : decode cX1_gatherWidest 93 = .ok (.goto (-83), 3) := by decide +kernel
theorem dX1_gatherWidest_96 : decode cX1_gatherWidest 96 = .ok (.iload_n 3, 1) := by decide +kernel
theorem dX1_gatherWidest_97 : decode cX1_gatherWidest 97 = .ok (.ireturn, 1) := by decide +kernel
theorem dX1_addWidest_0 : decode cX1_addWidest 0 = .ok (.iconst 0, 1) := by decide +kernel
theorem dX1_addWidest_1 : decode cX1_addWidest 1 = .ok (.istore_n 3, 1) := by decide +kernel
theorem dX1_addWidest_2 : decode cX1_addWidest 2 = .ok (.iconst 0, 1) := by decide +kernel
theorem dX1_addWidest_3 : decode cX1_addWidest 3 = .ok (.istore 4, 2) := by decide +kernel
theorem dX1_addWidest_5 : decode cX1_addWidest 5 = .ok (.iload 4, 2) := by decide +kernel
theorem dX1_addWidest_7 : decode cX1_addWidest 7 = .ok (.iload_n 1, 1) := by decide +kernel
theorem dX1_addWidest_8 : decode cX1_addWidest 8 = .ok (.if_icmp .ge 43, 3) := by decide +kernel
theorem dX1_addWidest_11 : decode cX1_addWidest 11 = .ok (.aload_n 0, 1) := by decide +kernel
theorem dX1_addWidest_12 : decode cX1_addWidest 12 = .ok (.iload 4, 2) := by decide +kernel
theorem dX1_addWidest_14 : decode cX1_addWidest 14 = .ok (.iaload, 1) := by decide +kernel
theorem dX1_addWidest_15 : decode cX1_addWidest 15 = .ok (.istore 5, 2) := by decide +kernel
theorem dX1_addWidest_17 : decode cX1_addWidest 17 = .ok (.iload_n 2, 1) := by decide +kernel
theorem dX1_addWidest_18 : decode cX1_addWidest 18 = .ok (.iload 5, 2) := by decide +kernel
theorem dX1_addWidest_20 : decode cX1_addWidest 20 = .ok (.iconst (-1), 1) := by decide +kernel
theorem dX1_addWidest_21 : decode cX1_addWidest 21 = .ok (.ixor, 1) := by decide +kernel
theorem dX1_addWidest_22 : decode cX1_addWidest 22 = .ok (.iand, 1) := by decide +kernel
theorem dX1_addWidest_23 : decode cX1_addWidest 23 = .ok (.ifCond .ne 5, 3) := by decide +kernel
theorem dX1_addWidest_26 : decode cX1_addWidest 26 = .ok (.iload_n 1, 1) := by decide +kernel
theorem dX1_addWidest_27 : decode cX1_addWidest 27 = .ok (.ireturn, 1) := by decide +kernel
theorem dX1_addWidest_28 : decode cX1_addWidest 28 = .ok (.iload 5, 2) := by decide +kernel
theorem dX1_addWidest_30 : decode cX1_addWidest 30 = .ok (.iload_n 2, 1) := by decide +kernel
theorem dX1_addWidest_31 : decode cX1_addWidest 31 = .ok (.iconst (-1), 1) := by decide +kernel
theorem dX1_addWidest_32 : decode cX1_addWidest 32 = .ok (.ixor, 1) := by decide +kernel
theorem dX1_addWidest_33 : decode cX1_addWidest 33 = .ok (.iand, 1) := by decide +kernel
theorem dX1_addWidest_34 : decode cX1_addWidest 34 = .ok (.ifCond .eq 11, 3) := by decide +kernel
theorem dX1_addWidest_37 : decode cX1_addWidest 37 = .ok (.aload_n 0, 1) := by decide +kernel
theorem dX1_addWidest_38 : decode cX1_addWidest 38 = .ok (.iload_n 3, 1) := by decide +kernel
theorem dX1_addWidest_39 : decode cX1_addWidest 39 = .ok (.iload 5, 2) := by decide +kernel
theorem dX1_addWidest_41 : decode cX1_addWidest 41 = .ok (.iastore, 1) := by decide +kernel
theorem dX1_addWidest_42 : decode cX1_addWidest 42 = .ok (.iinc 3 1, 3) := by decide +kernel
theorem dX1_addWidest_45 : decode cX1_addWidest 45 = .ok (.iinc 4 1, 3) := by decide +kernel
theorem dX1_addWidest_48 : decode cX1_addWidest 48 = .ok (.goto (-43), 3) := by decide +kernel
theorem dX1_addWidest_51 : decode cX1_addWidest 51 = .ok (.iload_n 3, 1) := by decide +kernel
theorem dX1_addWidest_52 : decode cX1_addWidest 52 = .ok (.aload_n 0, 1) := by decide +kernel
theorem dX1_addWidest_53 : decode cX1_addWidest 53 = .ok (.arraylength, 1) := by decide +kernel
theorem dX1_addWidest_54 : decode cX1_addWidest 54 = .ok (.if_icmp .ge 10, 3) := by decide +kernel
theorem dX1_addWidest_57 : decode cX1_addWidest 57 = .ok (.aload_n 0, 1) := by decide +kernel
theorem dX1_addWidest_58 : decode cX1_addWidest 58 = .ok (.iload_n 3, 1) := by decide +kernel
theorem dX1_addWidest_59 : decode cX1_addWidest 59 = .ok (.iload_n 2, 1) := by decide +kernel
theorem dX1_addWidest_60 : decode cX1_addWidest 60 = .ok (.iastore, 1) := by decide +kernel
theorem dX1_addWidest_61 : decode cX1_addWidest 61 = .ok (.iinc 3 1, 3) := by decide +kernel
theorem dX1_addWidest_64 : decode cX1_addWidest 64 = .ok (.iload_n 3, 1) := by decide +kernel
theorem dX1_addWidest_65 : decode cX1_addWidest 65 = .ok (.ireturn, 1) := by decide +kernel
theorem dX1_countLeast_0 : decode cX1_countLeast 0 = .ok (.aload_n 0, 1) := by decide +kernel
theorem dX1_countLeast_1 : decode cX1_countLeast 1 = .ok (.getfield 49, 3) := by decide +kernel
theorem dX1_countLeast_4 : decode cX1_countLeast 4 = .ok (.iconst 0, 1) := by decide +kernel
theorem dX1_countLeast_5 : decode cX1_countLeast 5 = .ok (.iconst 0, 1) := by decide +kernel
theorem dX1_countLeast_6 : decode cX1_countLeast 6 = .ok (.iastore, 1) := by decide +kernel
theorem dX1_countLeast_7 : decode cX1_countLeast 7 = .ok (.iload_n 1, 1) := by decide +kernel
theorem dX1_countLeast_8 : decode cX1_countLeast 8 = .ok (.iconst 1, 1) := by decide +kernel
theorem dX1_countLeast_9 : decode cX1_countLeast 9 = .ok (.isub, 1) := by decide +kernel
theorem dX1_countLeast_10 : decode cX1_countLeast 10 = .ok (.istore_n 2, 1) := by decide +kernel
theorem dX1_countLeast_11 : decode cX1_countLeast 11 = .ok (.iload_n 2, 1) := by decide +kernel
theorem dX1_countLeast_12 : decode cX1_countLeast 12 = .ok (.ifCond .lt 107, 3) := by decide +kernel
theorem dX1_countLeast_15 : decode cX1_countLeast 15 = .ok (.iconst 0, 1) := by decide +kernel
theorem dX1_countLeast_16 : decode cX1_countLeast 16 = .ok (.istore_n 3, 1) := by decide +kernel
theorem dX1_countLeast_17 : decode cX1_countLeast 17 = .ok (.iconst 0, 1) := by decide +kernel
theorem dX1_countLeast_18 : decode cX1_countLeast 18 = .ok (.istore 4, 2) := by decide +kernel
theorem dX1_countLeast_20 : decode cX1_countLeast 20 = .ok (.iload 4, 2) := by decide +kernel
theorem dX1_countLeast_22 : decode cX1_countLeast 22 = .ok (.aload_n 0, 1) := by decide +kernel
theorem dX1_countLeast_23 : decode cX1_countLeast 23 = .ok (.getfield 52, 3) := by decide +kernel
theorem dX1_countLeast_26 : decode cX1_countLeast 26 = .ok (.if_icmp .ge 41, 3) := by decide +kernel
theorem dX1_countLeast_29 : decode cX1_countLeast 29 = .ok (.aload_n 0, 1) := by decide +kernel
theorem dX1_countLeast_30 : decode cX1_countLeast 30 = .ok (.getfield 43, 3) := by decide +kernel
theorem dX1_countLeast_33 : decode cX1_countLeast 33 = .ok (.iload 4, 2) := by decide +kernel
theorem dX1_countLeast_35 : decode cX1_countLeast 35 = .ok (.iaload, 1) := by decide +kernel
theorem dX1_countLeast_36 : decode cX1_countLeast 36 = .ok (.iload_n 2, 1) := by decide +kernel
theorem dX1_countLeast_37 : decode cX1_countLeast 37 = .ok (.ishr, 1) := by decide +kernel
theorem dX1_countLeast_38 : decode cX1_countLeast 38 = .ok (.iconst 1, 1) := by decide +kernel
theorem dX1_countLeast_39 : decode cX1_countLeast 39 = .ok (.iand, 1) := by decide +kernel
theorem dX1_countLeast_40 : decode cX1_countLeast 40 = .ok (.ifCond .eq 21, 3) := by decide +kernel
theorem dX1_countLeast_43 : decode cX1_countLeast 43 = .ok (.aload_n 0, 1) := by decide +kernel
theorem dX1_countLeast_44 : decode cX1_countLeast 44 = .ok (.getfield 46, 3) := by decide +kernel
theorem dX1_countLeast_47 : decode cX1_countLeast 47 = .ok (.iload_n 3, 1) := by decide +kernel
theorem dX1_countLeast_48 : decode cX1_countLeast 48 = .ok (.aload_n 0, 1) := by decide +kernel
theorem dX1_countLeast_49 : decode cX1_countLeast 49 = .ok (.getfield 43, 3) := by decide +kernel
theorem dX1_countLeast_52 : decode cX1_countLeast 52 = .ok (.iload 4, 2) := by decide +kernel
theorem dX1_countLeast_54 : decode cX1_countLeast 54 = .ok (.iaload, 1) := by decide +kernel
theorem dX1_countLeast_55 : decode cX1_countLeast 55 = .ok (.iload_n 2, 1) := by decide +kernel
theorem dX1_countLeast_56 : decode cX1_countLeast 56 = .ok (.ishr, 1) := by decide +kernel
theorem dX1_countLeast_57 : decode cX1_countLeast 57 = .ok (.invokestatic 136, 3) := by decide +kernel
theorem dX1_countLeast_60 : decode cX1_countLeast 60 = .ok (.istore_n 3, 1) := by decide +kernel
theorem dX1_countLeast_61 : decode cX1_countLeast 61 = .ok (.iinc 4 1, 3) := by decide +kernel
theorem dX1_countLeast_64 : decode cX1_countLeast 64 = .ok (.goto (-44), 3) := by decide +kernel
theorem dX1_countLeast_67 : decode cX1_countLeast 67 = .ok (.iconst 0, 1) := by decide +kernel
theorem dX1_countLeast_68 : decode cX1_countLeast 68 = .ok (.istore 4, 2) := by decide +kernel
theorem dX1_countLeast_70 : decode cX1_countLeast 70 = .ok (.iload 4, 2) := by decide +kernel
theorem dX1_countLeast_72 : decode cX1_countLeast 72 = .ok (.iconst 1, 1) := by decide +kernel
theorem dX1_countLeast_73 : decode cX1_countLeast 73 = .ok (.iload_n 1, 1) := by decide +kernel
theorem dX1_countLeast_74 : decode cX1_countLeast 74 = .ok (.iconst 1, 1) := by decide +kernel
theorem dX1_countLeast_75 : decode cX1_countLeast 75 = .ok (.isub, 1) := by decide +kernel
theorem dX1_countLeast_76 : decode cX1_countLeast 76 = .ok (.iload_n 2, 1) := by decide +kernel
theorem dX1_countLeast_77 : decode cX1_countLeast 77 = .ok (.isub, 1) := by decide +kernel
theorem dX1_countLeast_78 : decode cX1_countLeast 78 = .ok (.ishl, 1) := by decide +kernel
theorem dX1_countLeast_79 : decode cX1_countLeast 79 = .ok (.if_icmp .ge 34, 3) := by decide +kernel
theorem dX1_countLeast_82 : decode cX1_countLeast 82 = .ok (.aload_n 0, 1) := by decide +kernel
theorem dX1_countLeast_83 : decode cX1_countLeast 83 = .ok (.getfield 49, 3) := by decide +kernel
theorem dX1_countLeast_86 : decode cX1_countLeast 86 = .ok (.iload 4, 2) := by decide +kernel
theorem dX1_countLeast_88 : decode cX1_countLeast 88 = .ok (.iconst 1, 1) := by decide +kernel
theorem dX1_countLeast_89 : decode cX1_countLeast 89 = .ok (.ishl, 1) := by decide +kernel
theorem dX1_countLeast_90 : decode cX1_countLeast 90 = .ok (.iconst 1, 1) := by decide +kernel
theorem dX1_countLeast_91 : decode cX1_countLeast 91 = .ok (.ior, 1) := by decide +kernel
theorem dX1_countLeast_92 : decode cX1_countLeast 92 = .ok (.iload_n 2, 1) := by decide +kernel
theorem dX1_countLeast_93 : decode cX1_countLeast 93 = .ok (.ishl, 1) := by decide +kernel
theorem dX1_countLeast_94 : decode cX1_countLeast 94 = .ok (.aload_n 0, 1) := by decide +kernel
theorem dX1_countLeast_95 : decode cX1_countLeast 95 = .ok (.iload 4, 2) := by decide +kernel
theorem dX1_countLeast_97 : decode cX1_countLeast 97 = .ok (.iconst 1, 1) := by decide +kernel
theorem dX1_countLeast_98 : decode cX1_countLeast 98 = .ok (.ishl, 1) := by decide +kernel
theorem dX1_countLeast_99 : decode cX1_countLeast 99 = .ok (.iconst 1, 1) := by decide +kernel
theorem dX1_countLeast_100 : decode cX1_countLeast 100 = .ok (.ior, 1) := by decide +kernel
theorem dX1_countLeast_101 : decode cX1_countLeast 101 = .ok (.iload_n 2, 1) := by decide +kernel
theorem dX1_countLeast_102 : decode cX1_countLeast 102 = .ok (.iload_n 3, 1) := by decide +kernel
theorem dX1_countLeast_103 : decode cX1_countLeast 103 = .ok (.invokevirtual 140, 3) := by decide +kernel
theorem dX1_countLeast_106 : decode cX1_countLeast 106 = .ok (.iastore, 1) := by decide +kernel
theorem dX1_countLeast_107 : decode cX1_countLeast 107 = .ok (.iinc 4 1, 3) := by decide +kernel
theorem dX1_countLeast_110 : decode cX1_countLeast 110 = .ok (.goto (-40), 3) := by decide +kernel
theorem dX1_countLeast_113 : decode cX1_countLeast 113 = .ok (.iinc 2 (-1), 3) := by decide +kernel
theorem dX1_countLeast_116 : decode cX1_countLeast 116 = .ok (.goto (-105), 3) := by decide +kernel
theorem dX1_countLeast_119 : decode cX1_countLeast 119 = .ok (.return_, 1) := by decide +kernel
theorem dX1_leastFor_0 : decode cX1_leastFor 0 = .ok (.iload_n 3, 1) := by decide +kernel
theorem dX1_leastFor_1 : decode cX1_leastFor 1 = .ok (.ifCond .ne 15, 3) := by decide +kernel
theorem dX1_leastFor_4 : decode cX1_leastFor 4 = .ok (.aload_n 0, 1) := by decide +kernel
theorem dX1_leastFor_5 : decode cX1_leastFor 5 = .ok (.getfield 49, 3) := by decide +kernel
theorem dX1_leastFor_8 : decode cX1_leastFor 8 = .ok (.iload_n 1, 1) := by decide +kernel
theorem dX1_leastFor_9 : decode cX1_leastFor 9 = .ok (.bipush (-2), 2) := by decide +kernel
theorem dX1_leastFor_11 : decode cX1_leastFor 11 = .ok (.iand, 1) := by decide +kernel
theorem dX1_leastFor_12 : decode cX1_leastFor 12 = .ok (.iload_n 2, 1) := by decide +kernel
theorem dX1_leastFor_13 : decode cX1_leastFor 13 = .ok (.ishl, 1) := by decide +kernel
theorem dX1_leastFor_14 : decode cX1_leastFor 14 = .ok (.iaload, 1) := by decide +kernel
theorem dX1_leastFor_15 : decode cX1_leastFor 15 = .ok (.ireturn, 1) := by decide +kernel
theorem dX1_leastFor_16 : decode cX1_leastFor 16 = .ok (.bipush 12, 2) := by decide +kernel
theorem dX1_leastFor_18 : decode cX1_leastFor 18 = .ok (.istore 4, 2) := by decide +kernel
theorem dX1_leastFor_20 : decode cX1_leastFor 20 = .ok (.iconst 0, 1) := by decide +kernel
theorem dX1_leastFor_21 : decode cX1_leastFor 21 = .ok (.istore 5, 2) := by decide +kernel
theorem dX1_leastFor_23 : decode cX1_leastFor 23 = .ok (.iload 5, 2) := by decide +kernel
theorem dX1_leastFor_25 : decode cX1_leastFor 25 = .ok (.iload_n 3, 1) := by decide +kernel
theorem dX1_leastFor_26 : decode cX1_leastFor 26 = .ok (.if_icmp .ge 36, 3) := by decide +kernel
theorem dX1_leastFor_29 : decode cX1_leastFor 29 = .ok (.iload 4, 2) := by decide +kernel
theorem dX1_leastFor_31 : decode cX1_leastFor 31 = .ok (.iconst 1, 1) := by decide +kernel
theorem dX1_leastFor_32 : decode cX1_leastFor 32 = .ok (.aload_n 0, 1) := by decide +kernel
theorem dX1_leastFor_33 : decode cX1_leastFor 33 = .ok (.getfield 49, 3) := by decide +kernel
theorem dX1_leastFor_36 : decode cX1_leastFor 36 = .ok (.iload_n 1, 1) := by decide +kernel
theorem dX1_leastFor_37 : decode cX1_leastFor 37 = .ok (.aload_n 0, 1) := by decide +kernel
theorem dX1_leastFor_38 : decode cX1_leastFor 38 = .ok (.getfield 46, 3) := by decide +kernel
theorem dX1_leastFor_41 : decode cX1_leastFor 41 = .ok (.iload 5, 2) := by decide +kernel
theorem dX1_leastFor_43 : decode cX1_leastFor 43 = .ok (.iaload, 1) := by decide +kernel
theorem dX1_leastFor_44 : decode cX1_leastFor 44 = .ok (.iconst (-1), 1) := by decide +kernel
theorem dX1_leastFor_45 : decode cX1_leastFor 45 = .ok (.ixor, 1) := by decide +kernel
theorem dX1_leastFor_46 : decode cX1_leastFor 46 = .ok (.iand, 1) := by decide +kernel
theorem dX1_leastFor_47 : decode cX1_leastFor 47 = .ok (.iload_n 2, 1) := by decide +kernel
theorem dX1_leastFor_48 : decode cX1_leastFor 48 = .ok (.ishl, 1) := by decide +kernel
theorem dX1_leastFor_49 : decode cX1_leastFor 49 = .ok (.iaload, 1) := by decide +kernel
theorem dX1_leastFor_50 : decode cX1_leastFor 50 = .ok (.iadd, 1) := by decide +kernel
theorem dX1_leastFor_51 : decode cX1_leastFor 51 = .ok (.invokestatic 144, 3) := by decide +kernel
theorem dX1_leastFor_54 : decode cX1_leastFor 54 = .ok (.istore 4, 2) := by decide +kernel
theorem dX1_leastFor_56 : decode cX1_leastFor 56 = .ok (.iinc 5 1, 3) := by decide +kernel
theorem dX1_leastFor_59 : decode cX1_leastFor 59 = .ok (.goto (-36), 3) := by decide +kernel
theorem dX1_leastFor_62 : decode cX1_leastFor 62 = .ok (.iload 4, 2) := by decide +kernel
theorem dX1_leastFor_64 : decode cX1_leastFor 64 = .ok (.ireturn, 1) := by decide +kernel
theorem dX1_chooseRow_0 : decode cX1_chooseRow 0 = .ok (.aload_n 0, 1) := by decide +kernel
theorem dX1_chooseRow_1 : decode cX1_chooseRow 1 = .ok (.getfield 22, 3) := by decide +kernel
theorem dX1_chooseRow_4 : decode cX1_chooseRow 4 = .ok (.iload_n 3, 1) := by decide +kernel
theorem dX1_chooseRow_5 : decode cX1_chooseRow 5 = .ok (.iaload, 1) := by decide +kernel
theorem dX1_chooseRow_6 : decode cX1_chooseRow 6 = .ok (.istore 4, 2) := by decide +kernel
theorem dX1_chooseRow_8 : decode cX1_chooseRow 8 = .ok (.aload_n 0, 1) := by decide +kernel
theorem dX1_chooseRow_9 : decode cX1_chooseRow 9 = .ok (.getfield 9, 3) := by decide +kernel
theorem dX1_chooseRow_12 : decode cX1_chooseRow 12 = .ok (.iload_n 3, 1) := by decide +kernel
theorem dX1_chooseRow_13 : decode cX1_chooseRow 13 = .ok (.iconst 0, 1) := by decide +kernel
theorem dX1_chooseRow_14 : decode cX1_chooseRow 14 = .ok (.iastore, 1) := by decide +kernel
theorem dX1_chooseRow_15 : decode cX1_chooseRow 15 = .ok (.aload_n 0, 1) := by decide +kernel
theorem dX1_chooseRow_16 : decode cX1_chooseRow 16 = .ok (.getfield 28, 3) := by decide +kernel
theorem dX1_chooseRow_19 : decode cX1_chooseRow 19 = .ok (.iload_n 3, 1) := by decide +kernel
theorem dX1_chooseRow_20 : decode cX1_chooseRow 20 = .ok (.iconst 0, 1) := by decide +kernel
theorem dX1_chooseRow_21 : decode cX1_chooseRow 21 = .ok (.iastore, 1) := by decide +kernel
theorem dX1_chooseRow_22 : decode cX1_chooseRow 22 = .ok (.aload_n 0, 1) := by decide +kernel
theorem dX1_chooseRow_23 : decode cX1_chooseRow 23 = .ok (.getfield 25, 3) := by decide +kernel
theorem dX1_chooseRow_26 : decode cX1_chooseRow 26 = .ok (.iload_n 3, 1) := by decide +kernel
theorem dX1_chooseRow_27 : decode cX1_chooseRow 27 = .ok (.iconst 2, 1) := by decide +kernel
theorem dX1_chooseRow_28 : decode cX1_chooseRow 28 = .ok (.iload 4, 2) := by decide +kernel
theorem dX1_chooseRow_30 : decode cX1_chooseRow 30 = .ok (.invokestatic 149, 3) := by decide +kernel
theorem dX1_chooseRow_33 : decode cX1_chooseRow 33 = .ok (.imul, 1) := by decide +kernel
theorem dX1_chooseRow_34 : decode cX1_chooseRow 34 = .ok (.iastore, 1) := by decide +kernel
theorem dX1_chooseRow_35 : decode cX1_chooseRow 35 = .ok (.iconst 0, 1) := by decide +kernel
theorem dX1_chooseRow_36 : decode cX1_chooseRow 36 = .ok (.istore 5, 2) := by decide +kernel
theorem dX1_chooseRow_38 : decode cX1_chooseRow 38 = .ok (.iload 5, 2) := by decide +kernel
theorem dX1_chooseRow_40 : decode cX1_chooseRow 40 = .ok (.aload_n 1, 1) := by decide +kernel
theorem dX1_chooseRow_41 : decode cX1_chooseRow 41 = .ok (.invokevirtual 104, 3) := by decide +kernel
theorem dX1_chooseRow_44 : decode cX1_chooseRow 44 = .ok (.if_icmp .ge 122, 3) := by decide +kernel
theorem dX1_chooseRow_47 : decode cX1_chooseRow 47 = .ok (.iconst 0, 1) := by decide +kernel
theorem dX1_chooseRow_48 : decode cX1_chooseRow 48 = .ok (.istore 6, 2) := by decide +kernel
theorem dX1_chooseRow_50 : decode cX1_chooseRow 50 = .ok (.iload 6, 2) := by decide +kernel
theorem dX1_chooseRow_52 : decode cX1_chooseRow 52 = .ok (.iload_n 2, 1) := by decide +kernel
theorem dX1_chooseRow_53 : decode cX1_chooseRow 53 = .ok (.if_icmp .ge 107, 3) := by decide +kernel
theorem dX1_chooseRow_56 : decode cX1_chooseRow 56 = .ok (.iconst 1, 1) := by decide +kernel
theorem dX1_chooseRow_57 : decode cX1_chooseRow 57 = .ok (.istore 7, 2) := by decide +kernel
theorem dX1_chooseRow_59 : decode cX1_chooseRow 59 = .ok (.iload 7, 2) := by decide +kernel
theorem dX1_chooseRow_61 : decode cX1_chooseRow 61 = .ok (.bipush 9, 2) := by decide +kernel
theorem dX1_chooseRow_63 : decode cX1_chooseRow 63 = .ok (.if_icmp .gt 91, 3) := by decide +kernel
theorem dX1_chooseRow_66 : decode cX1_chooseRow 66 = .ok (.iload 4, 2) := by decide +kernel
theorem dX1_chooseRow_68 : decode cX1_chooseRow 68 = .ok (.aload_n 0, 1) := by decide +kernel
theorem dX1_chooseRow_69 : decode cX1_chooseRow 69 = .ok (.aload_n 1, 1) := by decide +kernel
theorem dX1_chooseRow_70 : decode cX1_chooseRow 70 = .ok (.iload 5, 2) := by decide +kernel
theorem dX1_chooseRow_72 : decode cX1_chooseRow 72 = .ok (.iload 6, 2) := by decide +kernel
theorem dX1_chooseRow_74 : decode cX1_chooseRow 74 = .ok (.iload 7, 2) := by decide +kernel
theorem dX1_chooseRow_76 : decode cX1_chooseRow 76 = .ok (.invokevirtual 132, 3) := by decide +kernel
theorem dX1_chooseRow_79 : decode cX1_chooseRow 79 = .ok (.iand, 1) := by decide +kernel
theorem dX1_chooseRow_80 : decode cX1_chooseRow 80 = .ok (.istore 8, 2) := by decide +kernel
theorem dX1_chooseRow_82 : decode cX1_chooseRow 82 = .ok (.iload 8, 2) := by decide +kernel
theorem dX1_chooseRow_84 : decode cX1_chooseRow 84 = .ok (.ifCond .eq 64, 3) := by decide +kernel
theorem dX1_chooseRow_87 : decode cX1_chooseRow 87 = .ok (.aload_n 0, 1) := by decide +kernel
theorem dX1_chooseRow_88 : decode cX1_chooseRow 88 = .ok (.getfield 49, 3) := by decide +kernel
theorem dX1_chooseRow_91 : decode cX1_chooseRow 91 = .ok (.iload 4, 2) := by decide +kernel
theorem dX1_chooseRow_93 : decode cX1_chooseRow 93 = .ok (.iload 8, 2) := by decide +kernel
theorem dX1_chooseRow_95 : decode cX1_chooseRow 95 = .ok (.iconst (-1), 1) := by decide +kernel
theorem dX1_chooseRow_96 : decode cX1_chooseRow 96 = .ok (.ixor, 1) := by decide +kernel
theorem dX1_chooseRow_97 : decode cX1_chooseRow 97 = .ok (.iand, 1) := by decide +kernel
theorem dX1_chooseRow_98 : decode cX1_chooseRow 98 = .ok (.iaload, 1) := by decide +kernel
theorem dX1_chooseRow_99 : decode cX1_chooseRow 99 = .ok (.aload_n 0, 1) := by decide +kernel
theorem dX1_chooseRow_100 : decode cX1_chooseRow 100 = .ok (.getfield 49, 3) := by decide +kernel
theorem dX1_chooseRow_103 : decode cX1_chooseRow 103 = .ok (.iload 4, 2) := by decide +kernel
theorem dX1_chooseRow_105 : decode cX1_chooseRow 105 = .ok (.iaload, 1) := by decide +kernel
theorem dX1_chooseRow_106 : decode cX1_chooseRow 106 = .ok (.iconst 1, 1) := by decide +kernel
theorem dX1_chooseRow_107 : decode cX1_chooseRow 107 = .ok (.isub, 1) := by decide +kernel
theorem dX1_chooseRow_108 : decode cX1_chooseRow 108 = .ok (.if_icmp .ne 40, 3) := by decide +kernel
theorem dX1_chooseRow_111 : decode cX1_chooseRow 111 = .ok (.aload_n 0, 1) := by decide +kernel
theorem dX1_chooseRow_112 : decode cX1_chooseRow 112 = .ok (.iload_n 3, 1) := by decide +kernel
theorem dX1_chooseRow_113 : decode cX1_chooseRow 113 = .ok (.aload_n 1, 1) := by decide +kernel
theorem dX1_chooseRow_114 : decode cX1_chooseRow 114 = .ok (.iload 5, 2) := by decide +kernel
theorem dX1_chooseRow_116 : decode cX1_chooseRow 116 = .ok (.invokevirtual 128, 3) := by decide +kernel
theorem dX1_chooseRow_119 : decode cX1_chooseRow 119 = .ok (.iload 5, 2) := by decide +kernel
theorem dX1_chooseRow_121 : decode cX1_chooseRow 121 = .ok (.bipush 16, 2) := by decide +kernel
theorem dX1_chooseRow_123 : decode cX1_chooseRow 123 = .ok (.iload 6, 2) := by decide +kernel
theorem dX1_chooseRow_125 : decode cX1_chooseRow 125 = .ok (.imul, 1) := by decide +kernel
theorem dX1_chooseRow_126 : decode cX1_chooseRow 126 = .ok (.iadd, 1) := by decide +kernel
theorem dX1_chooseRow_127 : decode cX1_chooseRow 127 = .ok (.sipush 256, 3) := by decide +kernel
theorem dX1_chooseRow_130 : decode cX1_chooseRow 130 = .ok (.iload 7, 2) := by decide +kernel
theorem dX1_chooseRow_132 : decode cX1_chooseRow 132 = .ok (.imul, 1) := by decide +kernel
theorem dX1_chooseRow_133 : decode cX1_chooseRow 133 = .ok (.iadd, 1) := by decide +kernel
theorem dX1_chooseRow_134 : decode cX1_chooseRow 134 = .ok (.iload 8, 2) := by decide +kernel
theorem dX1_chooseRow_136 : decode cX1_chooseRow 136 = .ok (.invokevirtual 154, 3) := by decide +kernel
theorem dX1_chooseRow_139 : decode cX1_chooseRow 139 = .ok (.iload 4, 2) := by decide +kernel
theorem dX1_chooseRow_141 : decode cX1_chooseRow 141 = .ok (.iload 8, 2) := by decide +kernel
theorem dX1_chooseRow_143 : decode cX1_chooseRow 143 = .ok (.iconst (-1), 1) := by decide +kernel
theorem dX1_chooseRow_144 : decode cX1_chooseRow 144 = .ok (.ixor, 1) := by decide +kernel
theorem dX1_chooseRow_145 : decode cX1_chooseRow 145 = .ok (.iand, 1) := by decide +kernel
theorem dX1_chooseRow_146 : decode cX1_chooseRow 146 = .ok (.istore 4, 2) := by decide +kernel
theorem dX1_chooseRow_148 : decode cX1_chooseRow 148 = .ok (.iinc 7 1, 3) := by decide +kernel
theorem dX1_chooseRow_151 : decode cX1_chooseRow 151 = .ok (.goto (-92), 3) := by decide +kernel
theorem dX1_chooseRow_154 : decode cX1_chooseRow 154 = .ok (.iinc 6 1, 3) := by decide +kernel
theorem dX1_chooseRow_157 : decode cX1_chooseRow 157 = .ok (.goto (-107), 3) := by decide +kernel
theorem dX1_chooseRow_160 : decode cX1_chooseRow 160 = .ok (.iinc 5 1, 3) := by decide +kernel
theorem dX1_chooseRow_163 : decode cX1_chooseRow 163 = .ok (.goto (-125), 3) := by decide +kernel
theorem dX1_chooseRow_166 : decode cX1_chooseRow 166 = .ok (.return_, 1) := by decide +kernel
theorem dX1_take_0 : decode cX1_take 0 = .ok (.aload_n 0, 1) := by decide +kernel
theorem dX1_take_1 : decode cX1_take 1 = .ok (.getfield 9, 3) := by decide +kernel
theorem dX1_take_4 : decode cX1_take 4 = .ok (.iload_n 1, 1) := by decide +kernel
theorem dX1_take_5 : decode cX1_take 5 = .ok (.iaload, 1) := by decide +kernel
theorem dX1_take_6 : decode cX1_take 6 = .ok (.bipush 12, 2) := by decide +kernel
theorem dX1_take_8 : decode cX1_take 8 = .ok (.if_icmp .lt 4, 3) := by decide +kernel
theorem dX1_take_11 : decode cX1_take 11 = .ok (.return_, 1) := by decide +kernel
theorem dX1_take_12 : decode cX1_take 12 = .ok (.aload_n 0, 1) := by decide +kernel
theorem dX1_take_13 : decode cX1_take 13 = .ok (.getfield 31, 3) := by decide +kernel
theorem dX1_take_16 : decode cX1_take 16 = .ok (.iload_n 1, 1) := by decide +kernel
theorem dX1_take_17 : decode cX1_take 17 = .ok (.bipush 12, 2) := by decide +kernel
theorem dX1_take_19 : decode cX1_take 19 = .ok (.imul, 1) := by decide +kernel
theorem dX1_take_20 : decode cX1_take 20 = .ok (.aload_n 0, 1) := by decide +kernel
theorem dX1_take_21 : decode cX1_take 21 = .ok (.getfield 9, 3) := by decide +kernel
theorem dX1_take_24 : decode cX1_take 24 = .ok (.iload_n 1, 1) := by decide +kernel
theorem dX1_take_25 : decode cX1_take 25 = .ok (.iaload, 1) := by decide +kernel
theorem dX1_take_26 : decode cX1_take 26 = .ok (.iadd, 1) := by decide +kernel
theorem dX1_take_27 : decode cX1_take 27 = .ok (.iload_n 3, 1) := by decide +kernel
theorem dX1_take_28 : decode cX1_take 28 = .ok (.iastore, 1) := by decide +kernel
theorem dX1_take_29 : decode cX1_take 29 = .ok (.aload_n 0, 1) := by decide +kernel
theorem dX1_take_30 : decode cX1_take 30 = .ok (.getfield 9, 3) := by decide +kernel
theorem dX1_take_33 : decode cX1_take 33 = .ok (.iload_n 1, 1) := by decide +kernel
theorem dX1_take_34 : decode cX1_take 34 = .ok (.dup2, 1) := by decide +kernel
theorem dX1_take_35 : decode cX1_take 35 = .ok (.iaload, 1) := by decide +kernel
theorem dX1_take_36 : decode cX1_take 36 = .ok (.iconst 1, 1) := by decide +kernel
theorem dX1_take_37 : decode cX1_take 37 = .ok (.iadd, 1) := by decide +kernel
theorem dX1_take_38 : decode cX1_take 38 = .ok (.iastore, 1) := by decide +kernel
theorem dX1_take_39 : decode cX1_take 39 = .ok (.aload_n 0, 1) := by decide +kernel
theorem dX1_take_40 : decode cX1_take 40 = .ok (.getfield 25, 3) := by decide +kernel
theorem dX1_take_43 : decode cX1_take 43 = .ok (.iload_n 1, 1) := by decide +kernel
theorem dX1_take_44 : decode cX1_take 44 = .ok (.dup2, 1) := by decide +kernel
theorem dX1_take_45 : decode cX1_take 45 = .ok (.iaload, 1) := by decide +kernel
theorem dX1_take_46 : decode cX1_take 46 = .ok (.iload_n 2, 1) := by decide +kernel
theorem dX1_take_47 : decode cX1_take 47 = .ok (.ifCond .eq 8, 3) := by decide +kernel
theorem dX1_take_50 : decode cX1_take 50 = .ok (.bipush 6, 2) := by decide +kernel
theorem dX1_take_52 : decode cX1_take 52 = .ok (.goto 4, 3) := by decide +kernel
theorem dX1_take_55 : decode cX1_take 55 = .ok (.iconst 3, 1) := by decide +kernel
theorem dX1_take_56 : decode cX1_take 56 = .ok (.iadd, 1) := by decide +kernel
theorem dX1_take_57 : decode cX1_take 57 = .ok (.iastore, 1) := by decide +kernel
theorem dX1_take_58 : decode cX1_take 58 = .ok (.aload_n 0, 1) := by decide +kernel
theorem dX1_take_59 : decode cX1_take 59 = .ok (.getfield 28, 3) := by decide +kernel
theorem dX1_take_62 : decode cX1_take 62 = .ok (.iload_n 1, 1) := by decide +kernel
theorem dX1_take_63 : decode cX1_take 63 = .ok (.dup2, 1) := by decide +kernel
theorem dX1_take_64 : decode cX1_take 64 = .ok (.iaload, 1) := by decide +kernel
theorem dX1_take_65 : decode cX1_take 65 = .ok (.iload_n 2, 1) := by decide +kernel
theorem dX1_take_66 : decode cX1_take 66 = .ok (.ifCond .eq 7, 3) := by decide +kernel
theorem dX1_take_69 : decode cX1_take 69 = .ok (.iconst 0, 1) := by decide +kernel
theorem dX1_take_70 : decode cX1_take 70 = .ok (.goto 8, 3) := by decide +kernel
theorem dX1_take_73 : decode cX1_take 73 = .ok (.iload 4, 2) := by decide +kernel
theorem dX1_take_75 : decode cX1_take 75 = .ok (.invokestatic 149, 3) := by decide +kernel
theorem dX1_take_78 : decode cX1_take 78 = .ok (.iadd, 1) := by decide +kernel
theorem dX1_take_79 : decode cX1_take 79 = .ok (.iastore, 1) := by decide +kernel
theorem dX1_take_80 : decode cX1_take 80 = .ok (.return_, 1) := by decide +kernel
theorem dX2_init_0 : decode cX2_init 0 = .ok (.aload_n 0, 1) := by decide +kernel
theorem dX2_init_1 : decode cX2_init 1 = .ok (.invokespecial 3, 3) := by decide +kernel
theorem dX2_init_4 : decode cX2_init 4 = .ok (.aload_n 0, 1) := by decide +kernel
theorem dX2_init_5 : decode cX2_init 5 = .ok (.iconst 0, 1) := by decide +kernel
theorem dX2_init_6 : decode cX2_init 6 = .ok (.putfield 9, 3) := by decide +kernel
theorem dX2_init_9 : decode cX2_init 9 = .ok (.aload_n 0, 1) := by decide +kernel
theorem dX2_init_10 : decode cX2_init 10 = .ok (.bipush 64, 2) := by decide +kernel
theorem dX2_init_12 : decode cX2_init 12 = .ok (.newarray .int, 2) := by decide +kernel
theorem dX2_init_14 : decode cX2_init 14 = .ok (.putfield 15, 3) := by decide +kernel
theorem dX2_init_17 : decode cX2_init 17 = .ok (.return_, 1) := by decide +kernel
theorem dX2_add_0 : decode cX2_add 0 = .ok (.aload_n 0, 1) := by decide +kernel
theorem dX2_add_1 : decode cX2_add 1 = .ok (.getfield 9, 3) := by decide +kernel
theorem dX2_add_4 : decode cX2_add 4 = .ok (.bipush 64, 2) := by decide +kernel
theorem dX2_add_6 : decode cX2_add 6 = .ok (.if_icmp .ge 23, 3) := by decide +kernel
theorem dX2_add_9 : decode cX2_add 9 = .ok (.aload_n 0, 1) := by decide +kernel
theorem dX2_add_10 : decode cX2_add 10 = .ok (.getfield 15, 3) := by decide +kernel
theorem dX2_add_13 : decode cX2_add 13 = .ok (.aload_n 0, 1) := by decide +kernel
theorem dX2_add_14 : decode cX2_add 14 = .ok (.getfield 9, 3) := by decide +kernel
theorem dX2_add_17 : decode cX2_add 17 = .ok (.iload_n 1, 1) := by decide +kernel
theorem dX2_add_18 : decode cX2_add 18 = .ok (.iastore, 1) := by decide +kernel
theorem dX2_add_19 : decode cX2_add 19 = .ok (.aload_n 0, 1) := by decide +kernel
theorem dX2_add_20 : decode cX2_add 20 = .ok (.dup, 1) := by decide +kernel
theorem dX2_add_21 : decode cX2_add 21 = .ok (.getfield 9, 3) := by decide +kernel
theorem dX2_add_24 : decode cX2_add 24 = .ok (.iconst 1, 1) := by decide +kernel
theorem dX2_add_25 : decode cX2_add 25 = .ok (.iadd, 1) := by decide +kernel
theorem dX2_add_26 : decode cX2_add 26 = .ok (.putfield 9, 3) := by decide +kernel
theorem dX2_add_29 : decode cX2_add 29 = .ok (.return_, 1) := by decide +kernel
theorem dX2_work_0 : decode cX2_work 0 = .ok (.iconst 0, 1) := by decide +kernel
theorem dX2_work_1 : decode cX2_work 1 = .ok (.istore_n 3, 1) := by decide +kernel
theorem dX2_work_2 : decode cX2_work 2 = .ok (.iconst 0, 1) := by decide +kernel
theorem dX2_work_3 : decode cX2_work 3 = .ok (.istore 4, 2) := by decide +kernel
theorem dX2_work_5 : decode cX2_work 5 = .ok (.iload 4, 2) := by decide +kernel
theorem dX2_work_7 : decode cX2_work 7 = .ok (.aload_n 0, 1) := by decide +kernel
theorem dX2_work_8 : decode cX2_work 8 = .ok (.getfield 9, 3) := by decide +kernel
theorem dX2_work_11 : decode cX2_work 11 = .ok (.if_icmp .ge 168, 3) := by decide +kernel
theorem dX2_work_14 : decode cX2_work 14 = .ok (.iconst (-1), 1) := by decide +kernel
theorem dX2_work_15 : decode cX2_work 15 = .ok (.aload_n 0, 1) := by decide +kernel
theorem dX2_work_16 : decode cX2_work 16 = .ok (.getfield 15, 3) := by decide +kernel
theorem dX2_work_19 : decode cX2_work 19 = .ok (.iload 4, 2) := by decide +kernel
theorem dX2_work_21 : decode cX2_work 21 = .ok (.iaload, 1) := by decide +kernel
theorem dX2_work_22 : decode cX2_work 22 = .ok (.isub, 1) := by decide +kernel
theorem dX2_work_23 : decode cX2_work 23 = .ok (.istore 5, 2) := by decide +kernel
theorem dX2_work_25 : decode cX2_work 25 = .ok (.iload 5, 2) := by decide +kernel
theorem dX2_work_27 : decode cX2_work 27 = .ok (.ifCond .ge 20, 3) := by decide +kernel
theorem dX2_work_30 : decode cX2_work 30 = .ok (.aload_n 2, 1) := by decide +kernel
theorem dX2_work_31 : decode cX2_work 31 = .ok (.iload_n 3, 1) := by decide +kernel
theorem dX2_work_32 : decode cX2_work 32 = .ok (.aload_n 0, 1) := by decide +kernel
theorem dX2_work_33 : decode cX2_work 33 = .ok (.getfield 15, 3) := by decide +kernel
theorem dX2_work_36 : decode cX2_work 36 = .ok (.iload 4, 2) := by decide +kernel
theorem dX2_work_38 : decode cX2_work 38 = .ok (.iaload, 1) := by decide +kernel
theorem dX2_work_39 : decode cX2_work 39 = .ok (.i2l, 1) := by decide +kernel
theorem dX2_work_40 : decode cX2_work 40 = .ok (.invokestatic 19, 3) := by decide +kernel
theorem dX2_work_43 : decode cX2_work 43 = .ok (.istore_n 3, 1) := by decide +kernel
theorem dX2_work_44 : decode cX2_work 44 = .ok (.goto 98, 3) := by decide +kernel
theorem dX2_work_47 : decode cX2_work 47 = .ok (.iload 5, 2) := by decide +kernel
theorem dX2_work_49 : decode cX2_work 49 = .ok (.bipush 19, 2) := by decide +kernel
theorem dX2_work_51 : decode cX2_work 51 = .ok (.if_icmp .lt 26, 3) := by decide +kernel
theorem dX2_work_54 : decode cX2_work 54 = .ok (.iload 5, 2) := by decide +kernel
theorem dX2_work_56 : decode cX2_work 56 = .ok (.bipush 25, 2) := by decide +kernel
theorem dX2_work_58 : decode cX2_work 58 = .ok (.if_icmp .ge 19, 3) := by decide +kernel
theorem dX2_work_61 : decode cX2_work 61 = .ok (.aload_n 2, 1) := by decide +kernel
theorem dX2_work_62 : decode cX2_work 62 = .ok (.iload_n 3, 1) := by decide +kernel
theorem dX2_work_63 : decode cX2_work 63 = .ok (.aload_n 1, 1) := by decide +kernel
theorem dX2_work_64 : decode cX2_work 64 = .ok (.iload 5, 2) := by decide +kernel
theorem dX2_work_66 : decode cX2_work 66 = .ok (.bipush 19, 2) := by decide +kernel
theorem dX2_work_68 : decode cX2_work 68 = .ok (.isub, 1) := by decide +kernel
theorem dX2_work_69 : decode cX2_work 69 = .ok (.laload, 1) := by decide +kernel
theorem dX2_work_70 : decode cX2_work 70 = .ok (.invokestatic 19, 3) := by decide +kernel
theorem dX2_work_73 : decode cX2_work 73 = .ok (.istore_n 3, 1) := by decide +kernel
theorem dX2_work_74 : decode cX2_work 74 = .ok (.goto 68, 3) := by decide +kernel
theorem dX2_work_77 : decode cX2_work 77 = .ok (.iload 5, 2) := by decide +kernel
theorem dX2_work_79 : decode cX2_work 79 = .ok (.bipush 16, 2) := by decide +kernel
theorem dX2_work_81 : decode cX2_work 81 = .ok (.if_icmp .ne 34, 3) := by decide +kernel
theorem dX2_work_84 : decode cX2_work 84 = .ok (.aload_n 2, 1) := by decide +kernel
theorem dX2_work_85 : decode cX2_work 85 = .ok (.iload_n 3, 1) := by decide +kernel
theorem dX2_work_86 : decode cX2_work 86 = .ok (.iconst 1, 1) := by decide +kernel
theorem dX2_work_87 : decode cX2_work 87 = .ok (.isub, 1) := by decide +kernel
theorem dX2_work_88 : decode cX2_work 88 = .ok (.aload_n 2, 1) := by decide +kernel
theorem dX2_work_89 : decode cX2_work 89 = .ok (.iload_n 3, 1) := by decide +kernel
theorem dX2_work_90 : decode cX2_work 90 = .ok (.iconst 1, 1) := by decide +kernel
theorem dX2_work_91 : decode cX2_work 91 = .ok (.isub, 1) := by decide +kernel
theorem dX2_work_92 : decode cX2_work 92 = .ok (.invokestatic 23, 3) := by decide +kernel
theorem dX2_work_95 : decode cX2_work 95 = .ok (.lconst 0, 1) := by decide +kernel
theorem dX2_work_96 : decode cX2_work 96 = .ok (.lcmp, 1) := by decide +kernel
theorem dX2_work_97 : decode cX2_work 97 = .ok (.ifCond .ne 7, 3) := by decide +kernel
theorem dX2_work_100 : decode cX2_work 100 = .ok (.iconst 1, 1) := by decide +kernel
theorem dX2_work_101 : decode cX2_work 101 = .ok (.goto 4, 3) := by decide +kernel
theorem dX2_work_104 : decode cX2_work 104 = .ok (.iconst 0, 1) := by decide +kernel
theorem dX2_work_105 : decode cX2_work 105 = .ok (.invokestatic 27, 3) := by decide +kernel
theorem dX2_work_108 : decode cX2_work 108 = .ok (.invokestatic 19, 3) := by decide +kernel
theorem dX2_work_111 : decode cX2_work 111 = .ok (.istore_n 3, 1) := by decide +kernel
theorem dX2_work_112 : decode cX2_work 112 = .ok (.goto 30, 3) := by decide +kernel
theorem dX2_work_115 : decode cX2_work 115 = .ok (.aload_n 2, 1) := by decide +kernel
theorem dX2_work_116 : decode cX2_work 116 = .ok (.iload_n 3, 1) := by decide +kernel
theorem dX2_work_117 : decode cX2_work 117 = .ok (.iconst 2, 1) := by decide +kernel
theorem dX2_work_118 : decode cX2_work 118 = .ok (.isub, 1) := by decide +kernel
theorem dX2_work_119 : decode cX2_work 119 = .ok (.iload 5, 2) := by decide +kernel
theorem dX2_work_121 : decode cX2_work 121 = .ok (.aload_n 2, 1) := by decide +kernel
theorem dX2_work_122 : decode cX2_work 122 = .ok (.iload_n 3, 1) := by decide +kernel
theorem dX2_work_123 : decode cX2_work 123 = .ok (.iconst 2, 1) := by decide +kernel
theorem dX2_work_124 : decode cX2_work 124 = .ok (.isub, 1) := by decide +kernel
theorem dX2_work_125 : decode cX2_work 125 = .ok (.invokestatic 23, 3) := by decide +kernel
theorem dX2_work_128 : decode cX2_work 128 = .ok (.aload_n 2, 1) := by decide +kernel
theorem dX2_work_129 : decode cX2_work 129 = .ok (.iload_n 3, 1) := by decide +kernel
theorem dX2_work_130 : decode cX2_work 130 = .ok (.iconst 1, 1) := by decide +kernel
theorem dX2_work_131 : decode cX2_work 131 = .ok (.isub, 1) := by decide +kernel
theorem dX2_work_132 : decode cX2_work 132 = .ok (.invokestatic 23, 3) := by decide +kernel
theorem dX2_work_135 : decode cX2_work 135 = .ok (.invokestatic 31, 3) := by decide +kernel
theorem dX2_work_138 : decode cX2_work 138 = .ok (.invokestatic 19, 3) := by decide +kernel
theorem dX2_work_141 : decode cX2_work 141 = .ok (.istore_n 3, 1) := by decide +kernel
theorem dX2_work_142 : decode cX2_work 142 = .ok (.aload_n 2, 1) := by decide +kernel
theorem dX2_work_143 : decode cX2_work 143 = .ok (.iload_n 3, 1) := by decide +kernel
theorem dX2_work_144 : decode cX2_work 144 = .ok (.iconst 1, 1) := by decide +kernel
theorem dX2_work_145 : decode cX2_work 145 = .ok (.isub, 1) := by decide +kernel
theorem dX2_work_146 : decode cX2_work 146 = .ok (.invokestatic 23, 3) := by decide +kernel
theorem dX2_work_149 : decode cX2_work 149 = .ok (.lstore 6, 2) := by decide +kernel
theorem dX2_work_151 : decode cX2_work 151 = .ok (.lload 6, 2) := by decide +kernel
theorem dX2_work_153 : decode cX2_work 153 = .ok (.ldc2_w 35, 3) := by decide +kernel
theorem dX2_work_156 : decode cX2_work 156 = .ok (.lcmp, 1) := by decide +kernel
theorem dX2_work_157 : decode cX2_work 157 = .ok (.ifCond .gt 12, 3) := by decide +kernel
theorem dX2_work_160 : decode cX2_work 160 = .ok (.lload 6, 2) := by decide +kernel
theorem dX2_work_162 : decode cX2_work 162 = .ok (.ldc2_w 37, 3) := by decide +kernel
theorem dX2_work_165 : decode cX2_work 165 = .ok (.lcmp, 1) := by decide +kernel
theorem dX2_work_166 : decode cX2_work 166 = .ok (.ifCond .ge 7, 3) := by decide +kernel
theorem dX2_work_169 : decode cX2_work 169 = .ok (.ldc2_w 39, 3) := by decide +kernel
theorem dX2_work_172 : decode cX2_work 172 = .ok (.lreturn, 1) := by decide +kernel
theorem dX2_work_173 : decode cX2_work 173 = .ok (.iinc 4 1, 3) := by decide +kernel
theorem dX2_work_176 : decode cX2_work 176 = .ok (.goto (-171), 3) := by decide +kernel
theorem dX2_work_179 : decode cX2_work 179 = .ok (.aload_n 2, 1) := by decide +kernel
theorem dX2_work_180 : decode cX2_work 180 = .ok (.iload_n 3, 1) := by decide +kernel
theorem dX2_work_181 : decode cX2_work 181 = .ok (.iconst 1, 1) := by decide +kernel
theorem dX2_work_182 : decode cX2_work 182 = .ok (.isub, 1) := by decide +kernel
theorem dX2_work_183 : decode cX2_work 183 = .ok (.invokestatic 23, 3) := by decide +kernel
theorem dX2_work_186 : decode cX2_work 186 = .ok (.lreturn, 1) := by decide +kernel
theorem dX2_push_0 : decode cX2_push 0 = .ok (.iload_n 1, 1) := by decide +kernel
theorem dX2_push_1 : decode cX2_push 1 = .ok (.ifCond .lt 13, 3) := by decide +kernel
theorem dX2_push_4 : decode cX2_push 4 = .ok (.iload_n 1, 1) := by decide +kernel
theorem dX2_push_5 : decode cX2_push 5 = .ok (.aload_n 0, 1) := by decide +kernel
theorem dX2_push_6 : decode cX2_push 6 = .ok (.arraylength, 1) := by decide +kernel
theorem dX2_push_7 : decode cX2_push 7 = .ok (.if_icmp .ge 7, 3) := by decide +kernel
theorem dX2_push_10 : decode cX2_push 10 = .ok (.aload_n 0, 1) := by decide +kernel
theorem dX2_push_11 : decode cX2_push 11 = .ok (.iload_n 1, 1) := by decide +kernel
theorem dX2_push_12 : decode cX2_push 12 = .ok (.lload_n 2, 1) := by decide +kernel
theorem dX2_push_13 : decode cX2_push 13 = .ok (.lastore, 1) := by decide +kernel
theorem dX2_push_14 : decode cX2_push 14 = .ok (.iload_n 1, 1) := by decide +kernel
theorem dX2_push_15 : decode cX2_push 15 = .ok (.iconst 1, 1) := by decide +kernel
theorem dX2_push_16 : decode cX2_push 16 = .ok (.iadd, 1) := by decide +kernel
theorem dX2_push_17 : decode cX2_push 17 = .ok (.ireturn, 1) := by decide +kernel
theorem dX2_at_0 : decode cX2_at 0 = .ok (.iload_n 1, 1) := by decide +kernel
theorem dX2_at_1 : decode cX2_at 1 = .ok (.ifCond .lt 15, 3) := by decide +kernel
theorem dX2_at_4 : decode cX2_at 4 = .ok (.iload_n 1, 1) := by decide +kernel
theorem dX2_at_5 : decode cX2_at 5 = .ok (.aload_n 0, 1) := by decide +kernel
theorem dX2_at_6 : decode cX2_at 6 = .ok (.arraylength, 1) := by decide +kernel
theorem dX2_at_7 : decode cX2_at 7 = .ok (.if_icmp .ge 9, 3) := by decide +kernel
theorem dX2_at_10 : decode cX2_at 10 = .ok (.aload_n 0, 1) := by decide +kernel
theorem dX2_at_11 : decode cX2_at 11 = .ok (.iload_n 1, 1) := by decide +kernel
theorem dX2_at_12 : decode cX2_at 12 = .ok (.laload, 1) := by decide +kernel
theorem dX2_at_13 : decode cX2_at 13 = .ok (.goto 6, 3) := by decide +kernel
theorem dX2_at_16 : decode cX2_at 16 = .ok (.ldc2_w 39, 3) := by decide +kernel
theorem dX2_at_19 : decode cX2_at 19 = .ok (.lreturn, 1) := by decide +kernel
theorem dX2_truth_0 : decode cX2_truth 0 = .ok (.iload_n 0, 1) := by decide +kernel
theorem dX2_truth_1 : decode cX2_truth 1 = .ok (.ifCond .eq 7, 3) := by decide +kernel
theorem dX2_truth_4 : decode cX2_truth 4 = .ok (.lconst 1, 1) := by decide +kernel
theorem dX2_truth_5 : decode cX2_truth 5 = .ok (.goto 4, 3) := by decide +kernel
theorem dX2_truth_8 : decode cX2_truth 8 = .ok (.lconst 0, 1) := by decide +kernel
theorem dX2_truth_9 : decode cX2_truth 9 = .ok (.lreturn, 1) := by decide +kernel
theorem dX2_join_0 : decode cX2_join 0 = .ok (.iload_n 0, 1) := by decide +kernel
theorem dX2_join_1 : decode cX2_join 1 = .ok (.tableswitch 281 17 39 #[107, 128, 281, 281, 281, 281, 281, 281, 281, 281, 281, 281, 281, 149, 164, 179, 194, 209, 224, 239, 243, 247, 265], 107) := by decide +kernel
theorem dX2_join_108 : decode cX2_join 108 = .ok (.lload_n 1, 1) := by decide +kernel
theorem dX2_join_109 : decode cX2_join 109 = .ok (.lconst 0, 1) := by decide +kernel
theorem dX2_join_110 : decode cX2_join 110 = .ok (.lcmp, 1) := by decide +kernel
theorem dX2_join_111 : decode cX2_join 111 = .ok (.ifCond .ne 9, 3) := by decide +kernel
theorem dX2_join_114 : decode cX2_join 114 = .ok (.lload_n 3, 1) := by decide +kernel
theorem dX2_join_115 : decode cX2_join 115 = .ok (.lconst 0, 1) := by decide +kernel
theorem dX2_join_116 : decode cX2_join 116 = .ok (.lcmp, 1) := by decide +kernel
theorem dX2_join_117 : decode cX2_join 117 = .ok (.ifCond .eq 7, 3) := by decide +kernel
theorem dX2_join_120 : decode cX2_join 120 = .ok (.iconst 1, 1) := by decide +kernel
theorem dX2_join_121 : decode cX2_join 121 = .ok (.goto 4, 3) := by decide +kernel
theorem dX2_join_124 : decode cX2_join 124 = .ok (.iconst 0, 1) := by decide +kernel
theorem dX2_join_125 : decode cX2_join 125 = .ok (.invokestatic 27, 3) := by decide +kernel
theorem dX2_join_128 : decode cX2_join 128 = .ok (.lreturn, 1) := by decide +kernel
theorem dX2_join_129 : decode cX2_join 129 = .ok (.lload_n 1, 1) := by decide +kernel
theorem dX2_join_130 : decode cX2_join 130 = .ok (.lconst 0, 1) := by decide +kernel
theorem dX2_join_131 : decode cX2_join 131 = .ok (.lcmp, 1) := by decide +kernel
theorem dX2_join_132 : decode cX2_join 132 = .ok (.ifCond .eq 13, 3) := by decide +kernel
theorem dX2_join_135 : decode cX2_join 135 = .ok (.lload_n 3, 1) := by decide +kernel
theorem dX2_join_136 : decode cX2_join 136 = .ok (.lconst 0, 1) := by decide +kernel
theorem dX2_join_137 : decode cX2_join 137 = .ok (.lcmp, 1) := by decide +kernel
theorem dX2_join_138 : decode cX2_join 138 = .ok (.ifCond .eq 7, 3) := by decide +kernel
theorem dX2_join_141 : decode cX2_join 141 = .ok (.iconst 1, 1) := by decide +kernel
theorem dX2_join_142 : decode cX2_join 142 = .ok (.goto 4, 3) := by decide +kernel
theorem dX2_join_145 : decode cX2_join 145 = .ok (.iconst 0, 1) := by decide +kernel
theorem dX2_join_146 : decode cX2_join 146 = .ok (.invokestatic 27, 3) := by decide +kernel
theorem dX2_join_149 : decode cX2_join 149 = .ok (.lreturn, 1) := by decide +kernel
theorem dX2_join_150 : decode cX2_join 150 = .ok (.lload_n 1, 1) := by decide +kernel
theorem dX2_join_151 : decode cX2_join 151 = .ok (.lload_n 3, 1) := by decide +kernel
theorem dX2_join_152 : decode cX2_join 152 = .ok (.lcmp, 1) := by decide +kernel
theorem dX2_join_153 : decode cX2_join 153 = .ok (.ifCond .ge 7, 3) := by decide +kernel
theorem dX2_join_156 : decode cX2_join 156 = .ok (.iconst 1, 1) := by decide +kernel
theorem dX2_join_157 : decode cX2_join 157 = .ok (.goto 4, 3) := by decide +kernel
theorem dX2_join_160 : decode cX2_join 160 = .ok (.iconst 0, 1) := by decide +kernel
theorem dX2_join_161 : decode cX2_join 161 = .ok (.invokestatic 27, 3) := by decide +kernel
theorem dX2_join_164 : decode cX2_join 164 = .ok (.lreturn, 1) := by decide +kernel
theorem dX2_join_165 : decode cX2_join 165 = .ok (.lload_n 1, 1) := by decide +kernel
theorem dX2_join_166 : decode cX2_join 166 = .ok (.lload_n 3, 1) := by decide +kernel
theorem dX2_join_167 : decode cX2_join 167 = .ok (.lcmp, 1) := by decide +kernel
theorem dX2_join_168 : decode cX2_join 168 = .ok (.ifCond .gt 7, 3) := by decide +kernel
theorem dX2_join_171 : decode cX2_join 171 = .ok (.iconst 1, 1) := by decide +kernel
theorem dX2_join_172 : decode cX2_join 172 = .ok (.goto 4, 3) := by decide +kernel
theorem dX2_join_175 : decode cX2_join 175 = .ok (.iconst 0, 1) := by decide +kernel
theorem dX2_join_176 : decode cX2_join 176 = .ok (.invokestatic 27, 3) := by decide +kernel
theorem dX2_join_179 : decode cX2_join 179 = .ok (.lreturn, 1) := by decide +kernel
theorem dX2_join_180 : decode cX2_join 180 = .ok (.lload_n 1, 1) := by decide +kernel
theorem dX2_join_181 : decode cX2_join 181 = .ok (.lload_n 3, 1) := by decide +kernel
theorem dX2_join_182 : decode cX2_join 182 = .ok (.lcmp, 1) := by decide +kernel
theorem dX2_join_183 : decode cX2_join 183 = .ok (.ifCond .ne 7, 3) := by decide +kernel
theorem dX2_join_186 : decode cX2_join 186 = .ok (.iconst 1, 1) := by decide +kernel
theorem dX2_join_187 : decode cX2_join 187 = .ok (.goto 4, 3) := by decide +kernel
theorem dX2_join_190 : decode cX2_join 190 = .ok (.iconst 0, 1) := by decide +kernel
theorem dX2_join_191 : decode cX2_join 191 = .ok (.invokestatic 27, 3) := by decide +kernel
theorem dX2_join_194 : decode cX2_join 194 = .ok (.lreturn, 1) := by decide +kernel
theorem dX2_join_195 : decode cX2_join 195 = .ok (.lload_n 1, 1) := by decide +kernel
theorem dX2_join_196 : decode cX2_join 196 = .ok (.lload_n 3, 1) := by decide +kernel
theorem dX2_join_197 : decode cX2_join 197 = .ok (.lcmp, 1) := by decide +kernel
theorem dX2_join_198 : decode cX2_join 198 = .ok (.ifCond .eq 7, 3) := by decide +kernel
theorem dX2_join_201 : decode cX2_join 201 = .ok (.iconst 1, 1) := by decide +kernel
theorem dX2_join_202 : decode cX2_join 202 = .ok (.goto 4, 3) := by decide +kernel
theorem dX2_join_205 : decode cX2_join 205 = .ok (.iconst 0, 1) := by decide +kernel
theorem dX2_join_206 : decode cX2_join 206 = .ok (.invokestatic 27, 3) := by decide +kernel
theorem dX2_join_209 : decode cX2_join 209 = .ok (.lreturn, 1) := by decide +kernel
theorem dX2_join_210 : decode cX2_join 210 = .ok (.lload_n 1, 1) := by decide +kernel
theorem dX2_join_211 : decode cX2_join 211 = .ok (.lload_n 3, 1) := by decide +kernel
theorem dX2_join_212 : decode cX2_join 212 = .ok (.lcmp, 1) := by decide +kernel
theorem dX2_join_213 : decode cX2_join 213 = .ok (.ifCond .lt 7, 3) := by decide +kernel
theorem dX2_join_216 : decode cX2_join 216 = .ok (.iconst 1, 1) := by decide +kernel
theorem dX2_join_217 : decode cX2_join 217 = .ok (.goto 4, 3) := by decide +kernel
theorem dX2_join_220 : decode cX2_join 220 = .ok (.iconst 0, 1) := by decide +kernel
theorem dX2_join_221 : decode cX2_join 221 = .ok (.invokestatic 27, 3) := by decide +kernel
theorem dX2_join_224 : decode cX2_join 224 = .ok (.lreturn, 1) := by decide +kernel
theorem dX2_join_225 : decode cX2_join 225 = .ok (.lload_n 1, 1) := by decide +kernel
theorem dX2_join_226 : decode cX2_join 226 = .ok (.lload_n 3, 1) := by decide +kernel
theorem dX2_join_227 : decode cX2_join 227 = .ok (.lcmp, 1) := by decide +kernel
theorem dX2_join_228 : decode cX2_join 228 = .ok (.ifCond .le 7, 3) := by decide +kernel
theorem dX2_join_231 : decode cX2_join 231 = .ok (.iconst 1, 1) := by decide +kernel
theorem dX2_join_232 : decode cX2_join 232 = .ok (.goto 4, 3) := by decide +kernel
theorem dX2_join_235 : decode cX2_join 235 = .ok (.iconst 0, 1) := by decide +kernel
theorem dX2_join_236 : decode cX2_join 236 = .ok (.invokestatic 27, 3) := by decide +kernel
theorem dX2_join_239 : decode cX2_join 239 = .ok (.lreturn, 1) := by decide +kernel
theorem dX2_join_240 : decode cX2_join 240 = .ok (.lload_n 1, 1) := by decide +kernel
theorem dX2_join_241 : decode cX2_join 241 = .ok (.lload_n 3, 1) := by decide +kernel
theorem dX2_join_242 : decode cX2_join 242 = .ok (.ladd, 1) := by decide +kernel
theorem dX2_join_243 : decode cX2_join 243 = .ok (.lreturn, 1) := by decide +kernel
theorem dX2_join_244 : decode cX2_join 244 = .ok (.lload_n 1, 1) := by decide +kernel
theorem dX2_join_245 : decode cX2_join 245 = .ok (.lload_n 3, 1) := by decide +kernel
theorem dX2_join_246 : decode cX2_join 246 = .ok (.lsub, 1) := by decide +kernel
theorem dX2_join_247 : decode cX2_join 247 = .ok (.lreturn, 1) := by decide +kernel
theorem dX2_join_248 : decode cX2_join 248 = .ok (.lload_n 1, 1) := by decide +kernel
theorem dX2_join_249 : decode cX2_join 249 = .ok (.lload_n 3, 1) := by decide +kernel
theorem dX2_join_250 : decode cX2_join 250 = .ok (.invokestatic 41, 3) := by decide +kernel
theorem dX2_join_253 : decode cX2_join 253 = .ok (.ifCond .eq 9, 3) := by decide +kernel
theorem dX2_join_256 : decode cX2_join 256 = .ok (.lload_n 1, 1) := by decide +kernel
theorem dX2_join_257 : decode cX2_join 257 = .ok (.lload_n 3, 1) := by decide +kernel
theorem dX2_join_258 : decode cX2_join 258 = .ok (.lmul, 1) := by decide +kernel
theorem dX2_join_259 : decode cX2_join 259 = .ok (.goto 6, 3) := by decide +kernel
theorem dX2_join_262 : decode cX2_join 262 = .ok (.ldc2_w 39, 3) := by decide +kernel
theorem dX2_join_265 : decode cX2_join 265 = .ok (.lreturn, 1) := by decide +kernel
theorem dX2_join_266 : decode cX2_join 266 = .ok (.lload_n 3, 1) := by decide +kernel
theorem dX2_join_267 : decode cX2_join 267 = .ok (.lconst 0, 1) := by decide +kernel
theorem dX2_join_268 : decode cX2_join 268 = .ok (.lcmp, 1) := by decide +kernel
theorem dX2_join_269 : decode cX2_join 269 = .ok (.ifCond .ne 9, 3) := by decide +kernel
theorem dX2_join_272 : decode cX2_join 272 = .ok (.ldc2_w 39, 3) := by decide +kernel
theorem dX2_join_275 : decode cX2_join 275 = .ok (.goto 6, 3) := by decide +kernel
theorem dX2_join_278 : decode cX2_join 278 = .ok (.lload_n 1, 1) := by decide +kernel
theorem dX2_join_279 : decode cX2_join 279 = .ok (.lload_n 3, 1) := by decide +kernel
theorem dX2_join_280 : decode cX2_join 280 = .ok (.ldiv, 1) := by decide +kernel
theorem dX2_join_281 : decode cX2_join 281 = .ok (.lreturn, 1) := by decide +kernel
theorem dX2_join_282 : decode cX2_join 282 = .ok (.ldc2_w 39, 3) := by decide +kernel
theorem dX2_join_285 : decode cX2_join 285 = .ok (.lreturn, 1) := by decide +kernel
theorem dX2_isWithin_0 : decode cX2_isWithin 0 = .ok (.lload_n 2, 1) := by decide +kernel
theorem dX2_isWithin_1 : decode cX2_isWithin 1 = .ok (.lconst 0, 1) := by decide +kernel
theorem dX2_isWithin_2 : decode cX2_isWithin 2 = .ok (.lcmp, 1) := by decide +kernel
theorem dX2_isWithin_3 : decode cX2_isWithin 3 = .ok (.ifCond .ge 8, 3) := by decide +kernel
theorem dX2_isWithin_6 : decode cX2_isWithin 6 = .ok (.lload_n 2, 1) := by decide +kernel
theorem dX2_isWithin_7 : decode cX2_isWithin 7 = .ok (.lneg, 1) := by decide +kernel
theorem dX2_isWithin_8 : decode cX2_isWithin 8 = .ok (.goto 4, 3) := by decide +kernel
theorem dX2_isWithin_11 : decode cX2_isWithin 11 = .ok (.lload_n 2, 1) := by decide +kernel
theorem dX2_isWithin_12 : decode cX2_isWithin 12 = .ok (.lstore 4, 2) := by decide +kernel
theorem dX2_isWithin_14 : decode cX2_isWithin 14 = .ok (.lload 4, 2) := by decide +kernel
theorem dX2_isWithin_16 : decode cX2_isWithin 16 = .ok (.lconst 0, 1) := by decide +kernel
theorem dX2_isWithin_17 : decode cX2_isWithin 17 = .ok (.lcmp, 1) := by decide +kernel
theorem dX2_isWithin_18 : decode cX2_isWithin 18 = .ok (.ifCond .eq 25, 3) := by decide +kernel
theorem dX2_isWithin_21 : decode cX2_isWithin 21 = .ok (.lload_n 0, 1) := by decide +kernel
theorem dX2_isWithin_22 : decode cX2_isWithin 22 = .ok (.lconst 0, 1) := by decide +kernel
theorem dX2_isWithin_23 : decode cX2_isWithin 23 = .ok (.lcmp, 1) := by decide +kernel
theorem dX2_isWithin_24 : decode cX2_isWithin 24 = .ok (.ifCond .ge 8, 3) := by decide +kernel
theorem dX2_isWithin_27 : decode cX2_isWithin 27 = .ok (.lload_n 0, 1) := by decide +kernel
theorem dX2_isWithin_28 : decode cX2_isWithin 28 = .ok (.lneg, 1) := by decide +kernel
theorem dX2_isWithin_29 : decode cX2_isWithin 29 = .ok (.goto 4, 3) := by decide +kernel
theorem dX2_isWithin_32 : decode cX2_isWithin 32 = .ok (.lload_n 0, 1) := by decide +kernel
theorem dX2_isWithin_33 : decode cX2_isWithin 33 = .ok (.ldc2_w 35, 3) := by decide +kernel
theorem dX2_isWithin_36 : decode cX2_isWithin 36 = .ok (.lload 4, 2) := by decide +kernel
theorem dX2_isWithin_38 : decode cX2_isWithin 38 = .ok (.ldiv, 1) := by decide +kernel
theorem dX2_isWithin_39 : decode cX2_isWithin 39 = .ok (.lcmp, 1) := by decide +kernel
theorem dX2_isWithin_40 : decode cX2_isWithin 40 = .ok (.ifCond .gt 7, 3) := by decide +kernel
theorem dX2_isWithin_43 : decode cX2_isWithin 43 = .ok (.iconst 1, 1) := by decide +kernel
theorem dX2_isWithin_44 : decode cX2_isWithin 44 = .ok (.goto 4, 3) := by decide +kernel
theorem dX2_isWithin_47 : decode cX2_isWithin 47 = .ok (.iconst 0, 1) := by decide +kernel
theorem dX2_isWithin_48 : decode cX2_isWithin 48 = .ok (.ireturn, 1) := by decide +kernel
theorem dX3_init_0 : decode cX3_init 0 = .ok (.aload_n 0, 1) := by decide +kernel
theorem dX3_init_1 : decode cX3_init 1 = .ok (.invokespecial 3, 3) := by decide +kernel
theorem dX3_init_4 : decode cX3_init 4 = .ok (.aload_n 0, 1) := by decide +kernel
theorem dX3_init_5 : decode cX3_init 5 = .ok (.iconst 0, 1) := by decide +kernel
theorem dX3_init_6 : decode cX3_init 6 = .ok (.putfield 9, 3) := by decide +kernel
theorem dX3_init_9 : decode cX3_init 9 = .ok (.aload_n 0, 1) := by decide +kernel
theorem dX3_init_10 : decode cX3_init 10 = .ok (.iconst 0, 1) := by decide +kernel
theorem dX3_init_11 : decode cX3_init 11 = .ok (.putfield 15, 3) := by decide +kernel
theorem dX3_init_14 : decode cX3_init 14 = .ok (.aload_n 0, 1) := by decide +kernel
theorem dX3_init_15 : decode cX3_init 15 = .ok (.iconst 0, 1) := by decide +kernel
theorem dX3_init_16 : decode cX3_init 16 = .ok (.putfield 18, 3) := by decide +kernel
theorem dX3_init_19 : decode cX3_init 19 = .ok (.aload_n 0, 1) := by decide +kernel
theorem dX3_init_20 : decode cX3_init 20 = .ok (.iconst 0, 1) := by decide +kernel
theorem dX3_init_21 : decode cX3_init 21 = .ok (.putfield 21, 3) := by decide +kernel
theorem dX3_init_24 : decode cX3_init 24 = .ok (.aload_n 0, 1) := by decide +kernel
theorem dX3_init_25 : decode cX3_init 25 = .ok (.iconst 0, 1) := by decide +kernel
theorem dX3_init_26 : decode cX3_init 26 = .ok (.putfield 24, 3) := by decide +kernel
theorem dX3_init_29 : decode cX3_init 29 = .ok (.aload_n 0, 1) := by decide +kernel
theorem dX3_init_30 : decode cX3_init 30 = .ok (.iconst 0, 1) := by decide +kernel
theorem dX3_init_31 : decode cX3_init 31 = .ok (.putfield 27, 3) := by decide +kernel
theorem dX3_init_34 : decode cX3_init 34 = .ok (.aload_n 0, 1) := by decide +kernel
theorem dX3_init_35 : decode cX3_init 35 = .ok (.bipush 12, 2) := by decide +kernel
theorem dX3_init_37 : decode cX3_init 37 = .ok (.newarray .int, 2) := by decide +kernel
theorem dX3_init_39 : decode cX3_init 39 = .ok (.putfield 30, 3) := by decide +kernel
theorem dX3_init_42 : decode cX3_init 42 = .ok (.aload_n 0, 1) := by decide +kernel
theorem dX3_init_43 : decode cX3_init 43 = .ok (.bipush 12, 2) := by decide +kernel
theorem dX3_init_45 : decode cX3_init 45 = .ok (.newarray .int, 2) := by decide +kernel
theorem dX3_init_47 : decode cX3_init 47 = .ok (.putfield 34, 3) := by decide +kernel
theorem dX3_init_50 : decode cX3_init 50 = .ok (.return_, 1) := by decide +kernel
theorem dX3_begin_0 : decode cX3_begin 0 = .ok (.aload_n 0, 1) := by decide +kernel
theorem dX3_begin_1 : decode cX3_begin 1 = .ok (.iload_n 1, 1) := by decide +kernel
theorem dX3_begin_2 : decode cX3_begin 2 = .ok (.putfield 9, 3) := by decide +kernel
theorem dX3_begin_5 : decode cX3_begin 5 = .ok (.aload_n 0, 1) := by decide +kernel
theorem dX3_begin_6 : decode cX3_begin 6 = .ok (.iconst 0, 1) := by decide +kernel
theorem dX3_begin_7 : decode cX3_begin 7 = .ok (.putfield 15, 3) := by decide +kernel
theorem dX3_begin_10 : decode cX3_begin 10 = .ok (.aload_n 0, 1) := by decide +kernel
theorem dX3_begin_11 : decode cX3_begin 11 = .ok (.iconst 0, 1) := by decide +kernel
theorem dX3_begin_12 : decode cX3_begin 12 = .ok (.putfield 18, 3) := by decide +kernel
theorem dX3_begin_15 : decode cX3_begin 15 = .ok (.aload_n 0, 1) := by decide +kernel
theorem dX3_begin_16 : decode cX3_begin 16 = .ok (.iconst 0, 1) := by decide +kernel
theorem dX3_begin_17 : decode cX3_begin 17 = .ok (.putfield 21, 3) := by decide +kernel
theorem dX3_begin_20 : decode cX3_begin 20 = .ok (.aload_n 0, 1) := by decide +kernel
theorem dX3_begin_21 : decode cX3_begin 21 = .ok (.iconst 0, 1) := by decide +kernel
theorem dX3_begin_22 : decode cX3_begin 22 = .ok (.putfield 24, 3) := by decide +kernel
theorem dX3_begin_25 : decode cX3_begin 25 = .ok (.aload_n 0, 1) := by decide +kernel
theorem dX3_begin_26 : decode cX3_begin 26 = .ok (.iconst 0, 1) := by decide +kernel
theorem dX3_begin_27 : decode cX3_begin 27 = .ok (.putfield 27, 3) := by decide +kernel
theorem dX3_begin_30 : decode cX3_begin 30 = .ok (.return_, 1) := by decide +kernel
theorem dX3_bears_0 : decode cX3_bears 0 = .ok (.iload_n 1, 1) := by decide +kernel
theorem dX3_bears_1 : decode cX3_bears 1 = .ok (.ifCond .lt 22, 3) := by decide +kernel
theorem dX3_bears_4 : decode cX3_bears 4 = .ok (.iload_n 1, 1) := by decide +kernel
theorem dX3_bears_5 : decode cX3_bears 5 = .ok (.aload_n 0, 1) := by decide +kernel
theorem dX3_bears_6 : decode cX3_bears 6 = .ok (.getfield 15, 3) := by decide +kernel
theorem dX3_bears_9 : decode cX3_bears 9 = .ok (.if_icmp .ge 14, 3) := by decide +kernel
theorem dX3_bears_12 : decode cX3_bears 12 = .ok (.aload_n 0, 1) := by decide +kernel
theorem dX3_bears_13 : decode cX3_bears 13 = .ok (.getfield 24, 3) := by decide +kernel
theorem dX3_bears_16 : decode cX3_bears 16 = .ok (.iload_n 1, 1) := by decide +kernel
theorem dX3_bears_17 : decode cX3_bears 17 = .ok (.ishr, 1) := by decide +kernel
theorem dX3_bears_18 : decode cX3_bears 18 = .ok (.iconst 1, 1) := by decide +kernel
theorem dX3_bears_19 : decode cX3_bears 19 = .ok (.iand, 1) := by decide +kernel
theorem dX3_bears_20 : decode cX3_bears 20 = .ok (.ifCond .eq 5, 3) := by decide +kernel
theorem dX3_bears_23 : decode cX3_bears 23 = .ok (.iconst 0, 1) := by decide +kernel
theorem dX3_bears_24 : decode cX3_bears 24 = .ok (.ireturn, 1) := by decide +kernel
theorem dX3_bears_25 : decode cX3_bears 25 = .ok (.iload_n 2, 1) := by decide +kernel
theorem dX3_bears_26 : decode cX3_bears 26 = .ok (.ifCond .eq 18, 3) := by decide +kernel
theorem dX3_bears_29 : decode cX3_bears 29 = .ok (.iload_n 3, 1) := by decide +kernel
theorem dX3_bears_30 : decode cX3_bears 30 = .ok (.ifCond .ne 14, 3) := by decide +kernel
theorem dX3_bears_33 : decode cX3_bears 33 = .ok (.aload_n 0, 1) := by decide +kernel
theorem dX3_bears_34 : decode cX3_bears 34 = .ok (.getfield 27, 3) := by decide +kernel
theorem dX3_bears_37 : decode cX3_bears 37 = .ok (.iload_n 1, 1) := by decide +kernel
theorem dX3_bears_38 : decode cX3_bears 38 = .ok (.ishr, 1) := by decide +kernel
theorem dX3_bears_39 : decode cX3_bears 39 = .ok (.iconst 1, 1) := by decide +kernel
theorem dX3_bears_40 : decode cX3_bears 40 = .ok (.iand, 1) := by decide +kernel
theorem dX3_bears_41 : decode cX3_bears 41 = .ok (.ifCond .ne 7, 3) := by decide +kernel
theorem dX3_bears_44 : decode cX3_bears 44 = .ok (.iconst 1, 1) := by decide +kernel
theorem dX3_bears_45 : decode cX3_bears 45 = .ok (.goto 4, 3) := by decide +kernel
theorem dX3_bears_48 : decode cX3_bears 48 = .ok (.iconst 0, 1) := by decide +kernel
theorem dX3_bears_49 : decode cX3_bears 49 = .ok (.ireturn, 1) := by decide +kernel
theorem dX3_hasPaneAt_0 : decode cX3_hasPaneAt 0 = .ok (.iconst 0, 1) := by decide +kernel
theorem dX3_hasPaneAt_1 : decode cX3_hasPaneAt 1 = .ok (.istore_n 3, 1) := by decide +kernel
theorem dX3_hasPaneAt_2 : decode cX3_hasPaneAt 2 = .ok (.iload_n 3, 1) := by decide +kernel
theorem dX3_hasPaneAt_3 : decode cX3_hasPaneAt 3 = .ok (.aload_n 0, 1) := by decide +kernel
theorem dX3_hasPaneAt_4 : decode cX3_hasPaneAt 4 = .ok (.getfield 21, 3) := by decide +kernel
theorem dX3_hasPaneAt_7 : decode cX3_hasPaneAt 7 = .ok (.if_icmp .ge 31, 3) := by decide +kernel
theorem dX3_hasPaneAt_10 : decode cX3_hasPaneAt 10 = .ok (.aload_n 0, 1) := by decide +kernel
theorem dX3_hasPaneAt_11 : decode cX3_hasPaneAt 11 = .ok (.getfield 30, 3) := by decide +kernel
theorem dX3_hasPaneAt_14 : decode cX3_hasPaneAt 14 = .ok (.iload_n 3, 1) := by decide +kernel
theorem dX3_hasPaneAt_15 : decode cX3_hasPaneAt 15 = .ok (.iaload, 1) := by decide +kernel
theorem dX3_hasPaneAt_16 : decode cX3_hasPaneAt 16 = .ok (.iload_n 1, 1) := by decide +kernel
theorem dX3_hasPaneAt_17 : decode cX3_hasPaneAt 17 = .ok (.if_icmp .ne 15, 3) := by decide +kernel
theorem dX3_hasPaneAt_20 : decode cX3_hasPaneAt 20 = .ok (.aload_n 0, 1) := by decide +kernel
theorem dX3_hasPaneAt_21 : decode cX3_hasPaneAt 21 = .ok (.getfield 34, 3) := by decide +kernel
theorem dX3_hasPaneAt_24 : decode cX3_hasPaneAt 24 = .ok (.iload_n 3, 1) := by decide +kernel
theorem dX3_hasPaneAt_25 : decode cX3_hasPaneAt 25 = .ok (.iaload, 1) := by decide +kernel
theorem dX3_hasPaneAt_26 : decode cX3_hasPaneAt 26 = .ok (.iload_n 2, 1) := by decide +kernel
theorem dX3_hasPaneAt_27 : decode cX3_hasPaneAt 27 = .ok (.if_icmp .ne 5, 3) := by decide +kernel
theorem dX3_hasPaneAt_30 : decode cX3_hasPaneAt 30 = .ok (.iconst 1, 1) := by decide +kernel
theorem dX3_hasPaneAt_31 : decode cX3_hasPaneAt 31 = .ok (.ireturn, 1) := by decide +kernel
theorem dX3_hasPaneAt_32 : decode cX3_hasPaneAt 32 = .ok (.iinc 3 1, 3) := by decide +kernel
theorem dX3_hasPaneAt_35 : decode cX3_hasPaneAt 35 = .ok (.goto (-33), 3) := by decide +kernel
theorem dX3_hasPaneAt_38 : decode cX3_hasPaneAt 38 = .ok (.iconst 0, 1) := by decide +kernel
theorem dX3_hasPaneAt_39 : decode cX3_hasPaneAt 39 = .ok (.ireturn, 1) := by decide +kernel
theorem dX3_panesNear_0 : decode cX3_panesNear 0 = .ok (.iconst 0, 1) := by decide +kernel
theorem dX3_panesNear_1 : decode cX3_panesNear 1 = .ok (.istore_n 2, 1) := by decide +kernel
theorem dX3_panesNear_2 : decode cX3_panesNear 2 = .ok (.iconst 0, 1) := by decide +kernel
theorem dX3_panesNear_3 : decode cX3_panesNear 3 = .ok (.istore_n 3, 1) := by decide +kernel
theorem dX3_panesNear_4 : decode cX3_panesNear 4 = .ok (.iload_n 3, 1) := by decide +kernel
theorem dX3_panesNear_5 : decode cX3_panesNear 5 = .ok (.aload_n 0, 1) := by decide +kernel
theorem dX3_panesNear_6 : decode cX3_panesNear 6 = .ok (.getfield 21, 3) := by decide +kernel
theorem dX3_panesNear_9 : decode cX3_panesNear 9 = .ok (.if_icmp .ge 39, 3) := by decide +kernel
theorem dX3_panesNear_12 : decode cX3_panesNear 12 = .ok (.aload_n 0, 1) := by decide +kernel
theorem dX3_panesNear_13 : decode cX3_panesNear 13 = .ok (.getfield 30, 3) := by decide +kernel
theorem dX3_panesNear_16 : decode cX3_panesNear 16 = .ok (.iload_n 3, 1) := by decide +kernel
theorem dX3_panesNear_17 : decode cX3_panesNear 17 = .ok (.iaload, 1) := by decide +kernel
theorem dX3_panesNear_18 : decode cX3_panesNear 18 = .ok (.iload_n 1, 1) := by decide +kernel
theorem dX3_panesNear_19 : decode cX3_panesNear 19 = .ok (.iconst 1, 1) := by decide +kernel
theorem dX3_panesNear_20 : decode cX3_panesNear 20 = .ok (.isub, 1) := by decide +kernel
theorem dX3_panesNear_21 : decode cX3_panesNear 21 = .ok (.if_icmp .lt 21, 3) := by decide +kernel
theorem dX3_panesNear_24 : decode cX3_panesNear 24 = .ok (.aload_n 0, 1) := by decide +kernel
theorem dX3_panesNear_25 : decode cX3_panesNear 25 = .ok (.getfield 30, 3) := by decide +kernel
theorem dX3_panesNear_28 : decode cX3_panesNear 28 = .ok (.iload_n 3, 1) := by decide +kernel
theorem dX3_panesNear_29 : decode cX3_panesNear 29 = .ok (.iaload, 1) := by decide +kernel
theorem dX3_panesNear_30 : decode cX3_panesNear 30 = .ok (.iload_n 1, 1) := by decide +kernel
theorem dX3_panesNear_31 : decode cX3_panesNear 31 = .ok (.iconst 1, 1) := by decide +kernel
theorem dX3_panesNear_32 : decode cX3_panesNear 32 = .ok (.iadd, 1) := by decide +kernel
theorem dX3_panesNear_33 : decode cX3_panesNear 33 = .ok (.if_icmp .gt 9, 3) := by decide +kernel
theorem dX3_panesNear_36 : decode cX3_panesNear 36 = .ok (.iload_n 2, 1) := by decide +kernel
theorem dX3_panesNear_37 : decode cX3_panesNear 37 = .ok (.iconst 1, 1) := by decide +kernel
theorem dX3_panesNear_38 : decode cX3_panesNear 38 = .ok (.iload_n 3, 1) := by decide +kernel
theorem dX3_panesNear_39 : decode cX3_panesNear 39 = .ok (.ishl, 1) := by decide +kernel
theorem dX3_panesNear_40 : decode cX3_panesNear 40 = .ok (.ior, 1) := by decide +kernel
theorem dX3_panesNear_41 : decode cX3_panesNear 41 = .ok (.istore_n 2, 1) := by decide +kernel
theorem dX3_panesNear_42 : decode cX3_panesNear 42 = .ok (.iinc 3 1, 3) := by decide +kernel
theorem dX3_panesNear_45 : decode cX3_panesNear 45 = .ok (.goto (-41), 3) := by decide +kernel
theorem dX3_panesNear_48 : decode cX3_panesNear 48 = .ok (.iload_n 2, 1) := by decide +kernel
theorem dX3_panesNear_49 : decode cX3_panesNear 49 = .ok (.ireturn, 1) := by decide +kernel
theorem dX3_panesBetween_0 : decode cX3_panesBetween 0 = .ok (.iconst 0, 1) := by decide +kernel
theorem dX3_panesBetween_1 : decode cX3_panesBetween 1 = .ok (.istore_n 3, 1) := by decide +kernel
theorem dX3_panesBetween_2 : decode cX3_panesBetween 2 = .ok (.iconst 0, 1) := by decide +kernel
theorem dX3_panesBetween_3 : decode cX3_panesBetween 3 = .ok (.istore 4, 2) := by decide +kernel
theorem dX3_panesBetween_5 : decode cX3_panesBetween 5 = .ok (.iload 4, 2) := by decide +kernel
theorem dX3_panesBetween_7 : decode cX3_panesBetween 7 = .ok (.aload_n 0, 1) := by decide +kernel
theorem dX3_panesBetween_8 : decode cX3_panesBetween 8 = .ok (.getfield 21, 3) := by decide +kernel
theorem dX3_panesBetween_11 : decode cX3_panesBetween 11 = .ok (.if_icmp .ge 38, 3) := by decide +kernel
theorem dX3_panesBetween_14 : decode cX3_panesBetween 14 = .ok (.aload_n 0, 1) := by decide +kernel
theorem dX3_panesBetween_15 : decode cX3_panesBetween 15 = .ok (.getfield 34, 3) := by decide +kernel
theorem dX3_panesBetween_18 : decode cX3_panesBetween 18 = .ok (.iload 4, 2) := by decide +kernel
theorem dX3_panesBetween_20 : decode cX3_panesBetween 20 = .ok (.iaload, 1) := by decide +kernel
theorem dX3_panesBetween_21 : decode cX3_panesBetween 21 = .ok (.iload_n 1, 1) := by decide +kernel
theorem dX3_panesBetween_22 : decode cX3_panesBetween 22 = .ok (.if_icmp .lt 21, 3) := by decide +kernel
theorem dX3_panesBetween_25 : decode cX3_panesBetween 25 = .ok (.aload_n 0, 1) := by decide +kernel
theorem dX3_panesBetween_26 : decode cX3_panesBetween 26 = .ok (.getfield 34, 3) := by decide +kernel
theorem dX3_panesBetween_29 : decode cX3_panesBetween 29 = .ok (.iload 4, 2) := by decide +kernel
theorem dX3_panesBetween_31 : decode cX3_panesBetween 31 = .ok (.iaload, 1) := by decide +kernel
theorem dX3_panesBetween_32 : decode cX3_panesBetween 32 = .ok (.iload_n 2, 1) := by decide +kernel
theorem dX3_panesBetween_33 : decode cX3_panesBetween 33 = .ok (.if_icmp .gt 10, 3) := by decide +kernel
theorem dX3_panesBetween_36 : decode cX3_panesBetween 36 = .ok (.iload_n 3, 1) := by decide +kernel
theorem dX3_panesBetween_37 : decode cX3_panesBetween 37 = .ok (.iconst 1, 1) := by decide +kernel
theorem dX3_panesBetween_38 : decode cX3_panesBetween 38 = .ok (.iload 4, 2) := by decide +kernel
theorem dX3_panesBetween_40 : decode cX3_panesBetween 40 = .ok (.ishl, 1) := by decide +kernel
theorem dX3_panesBetween_41 : decode cX3_panesBetween 41 = .ok (.ior, 1) := by decide +kernel
theorem dX3_panesBetween_42 : decode cX3_panesBetween 42 = .ok (.istore_n 3, 1) := by decide +kernel
theorem dX3_panesBetween_43 : decode cX3_panesBetween 43 = .ok (.iinc 4 1, 3) := by decide +kernel
theorem dX3_panesBetween_46 : decode cX3_panesBetween 46 = .ok (.goto (-41), 3) := by decide +kernel
theorem dX3_panesBetween_49 : decode cX3_panesBetween 49 = .ok (.iload_n 3, 1) := by decide +kernel
theorem dX3_panesBetween_50 : decode cX3_panesBetween 50 = .ok (.ireturn, 1) := by decide +kernel
theorem dX4_init_0 : decode cX4_init 0 = .ok (.aload_n 0, 1) := by decide +kernel
theorem dX4_init_1 : decode cX4_init 1 = .ok (.invokespecial 1, 3) := by decide +kernel
theorem dX4_init_4 : decode cX4_init 4 = .ok (.aload_n 0, 1) := by decide +kernel
theorem dX4_init_5 : decode cX4_init 5 = .ok (.iconst 0, 1) := by decide +kernel
theorem dX4_init_6 : decode cX4_init 6 = .ok (.putfield 7, 3) := by decide +kernel
theorem dX4_init_9 : decode cX4_init 9 = .ok (.aload_n 0, 1) := by decide +kernel
theorem dX4_init_10 : decode cX4_init 10 = .ok (.iconst 0, 1) := by decide +kernel
theorem dX4_init_11 : decode cX4_init 11 = .ok (.putfield 13, 3) := by decide +kernel
theorem dX4_init_14 : decode cX4_init 14 = .ok (.aload_n 0, 1) := by decide +kernel
theorem dX4_init_15 : decode cX4_init 15 = .ok (.iconst 0, 1) := by decide +kernel
theorem dX4_init_16 : decode cX4_init 16 = .ok (.putfield 16, 3) := by decide +kernel
theorem dX4_init_19 : decode cX4_init 19 = .ok (.aload_n 0, 1) := by decide +kernel
theorem dX4_init_20 : decode cX4_init 20 = .ok (.iconst 0, 1) := by decide +kernel
theorem dX4_init_21 : decode cX4_init 21 = .ok (.putfield 19, 3) := by decide +kernel
theorem dX4_init_24 : decode cX4_init 24 = .ok (.aload_n 0, 1) := by decide +kernel
theorem dX4_init_25 : decode cX4_init 25 = .ok (.iconst 0, 1) := by decide +kernel
theorem dX4_init_26 : decode cX4_init 26 = .ok (.putfield 22, 3) := by decide +kernel
theorem dX4_init_29 : decode cX4_init 29 = .ok (.aload_n 0, 1) := by decide +kernel
theorem dX4_init_30 : decode cX4_init 30 = .ok (.iconst 1, 1) := by decide +kernel
theorem dX4_init_31 : decode cX4_init 31 = .ok (.putfield 25, 3) := by decide +kernel
theorem dX4_init_34 : decode cX4_init 34 = .ok (.aload_n 0, 1) := by decide +kernel
theorem dX4_init_35 : decode cX4_init 35 = .ok (.iconst 0, 1) := by decide +kernel
theorem dX4_init_36 : decode cX4_init 36 = .ok (.putfield 28, 3) := by decide +kernel
theorem dX4_init_39 : decode cX4_init 39 = .ok (.aload_n 0, 1) := by decide +kernel
theorem dX4_init_40 : decode cX4_init 40 = .ok (.bipush 10, 2) := by decide +kernel
theorem dX4_init_42 : decode cX4_init 42 = .ok (.putfield 31, 3) := by decide +kernel
theorem dX4_init_45 : decode cX4_init 45 = .ok (.aload_n 0, 1) := by decide +kernel
theorem dX4_init_46 : decode cX4_init 46 = .ok (.iconst 0, 1) := by decide +kernel
theorem dX4_init_47 : decode cX4_init 47 = .ok (.putfield 34, 3) := by decide +kernel
theorem dX4_init_50 : decode cX4_init 50 = .ok (.aload_n 0, 1) := by decide +kernel
theorem dX4_init_51 : decode cX4_init 51 = .ok (.iconst 0, 1) := by decide +kernel
theorem dX4_init_52 : decode cX4_init 52 = .ok (.putfield 38, 3) := by decide +kernel
theorem dX4_init_55 : decode cX4_init 55 = .ok (.aload_n 0, 1) := by decide +kernel
theorem dX4_init_56 : decode cX4_init 56 = .ok (.iconst 0, 1) := by decide +kernel
theorem dX4_init_57 : decode cX4_init 57 = .ok (.putfield 41, 3) := by decide +kernel
theorem dX4_init_60 : decode cX4_init 60 = .ok (.return_, 1) := by decide +kernel
theorem dX4_begin_0 : decode cX4_begin 0 = .ok (.aload_n 0, 1) := by decide +kernel
theorem dX4_begin_1 : decode cX4_begin 1 = .ok (.iload_n 1, 1) := by decide +kernel
theorem dX4_begin_2 : decode cX4_begin 2 = .ok (.putfield 7, 3) := by decide +kernel
theorem dX4_begin_5 : decode cX4_begin 5 = .ok (.aload_n 0, 1) := by decide +kernel
theorem dX4_begin_6 : decode cX4_begin 6 = .ok (.iconst 0, 1) := by decide +kernel
theorem dX4_begin_7 : decode cX4_begin 7 = .ok (.putfield 28, 3) := by decide +kernel
theorem dX4_begin_10 : decode cX4_begin 10 = .ok (.aload_n 0, 1) := by decide +kernel
theorem dX4_begin_11 : decode cX4_begin 11 = .ok (.bipush 10, 2) := by decide +kernel
theorem dX4_begin_13 : decode cX4_begin 13 = .ok (.putfield 31, 3) := by decide +kernel
theorem dX4_begin_16 : decode cX4_begin 16 = .ok (.aload_n 0, 1) := by decide +kernel
theorem dX4_begin_17 : decode cX4_begin 17 = .ok (.iconst 0, 1) := by decide +kernel
theorem dX4_begin_18 : decode cX4_begin 18 = .ok (.putfield 34, 3) := by decide +kernel
theorem dX4_begin_21 : decode cX4_begin 21 = .ok (.aload_n 0, 1) := by decide +kernel
theorem dX4_begin_22 : decode cX4_begin 22 = .ok (.iconst 0, 1) := by decide +kernel
theorem dX4_begin_23 : decode cX4_begin 23 = .ok (.putfield 38, 3) := by decide +kernel
theorem dX4_begin_26 : decode cX4_begin 26 = .ok (.aload_n 0, 1) := by decide +kernel
theorem dX4_begin_27 : decode cX4_begin 27 = .ok (.iconst 0, 1) := by decide +kernel
theorem dX4_begin_28 : decode cX4_begin 28 = .ok (.putfield 41, 3) := by decide +kernel
theorem dX4_begin_31 : decode cX4_begin 31 = .ok (.return_, 1) := by decide +kernel
theorem dX4_letsIn_0 : decode cX4_letsIn 0 = .ok (.aload_n 0, 1) := by decide +kernel
theorem dX4_letsIn_1 : decode cX4_letsIn 1 = .ok (.getfield 28, 3) := by decide +kernel
theorem dX4_letsIn_4 : decode cX4_letsIn 4 = .ok (.iload_n 1, 1) := by decide +kernel
theorem dX4_letsIn_5 : decode cX4_letsIn 5 = .ok (.ishr, 1) := by decide +kernel
theorem dX4_letsIn_6 : decode cX4_letsIn 6 = .ok (.iconst 1, 1) := by decide +kernel
theorem dX4_letsIn_7 : decode cX4_letsIn 7 = .ok (.iand, 1) := by decide +kernel
theorem dX4_letsIn_8 : decode cX4_letsIn 8 = .ok (.ifCond .ne 22, 3) := by decide +kernel
theorem dX4_letsIn_11 : decode cX4_letsIn 11 = .ok (.aload_n 0, 1) := by decide +kernel
theorem dX4_letsIn_12 : decode cX4_letsIn 12 = .ok (.getfield 34, 3) := by decide +kernel
theorem dX4_letsIn_15 : decode cX4_letsIn 15 = .ok (.ifCond .eq 11, 3) := by decide +kernel
theorem dX4_letsIn_18 : decode cX4_letsIn 18 = .ok (.aload_n 0, 1) := by decide +kernel
theorem dX4_letsIn_19 : decode cX4_letsIn 19 = .ok (.iload_n 1, 1) := by decide +kernel
theorem dX4_letsIn_20 : decode cX4_letsIn 20 = .ok (.invokevirtual 44, 3) := by decide +kernel
theorem dX4_letsIn_23 : decode cX4_letsIn 23 = .ok (.ifCond .eq 7, 3) := by decide +kernel
theorem dX4_letsIn_26 : decode cX4_letsIn 26 = .ok (.iconst 1, 1) := by decide +kernel
theorem dX4_letsIn_27 : decode cX4_letsIn 27 = .ok (.goto 4, 3) := by decide +kernel
theorem dX4_letsIn_30 : decode cX4_letsIn 30 = .ok (.iconst 0, 1) := by decide +kernel
theorem dX4_letsIn_31 : decode cX4_letsIn 31 = .ok (.ireturn, 1) := by decide +kernel
theorem dX4_isOpen_0 : decode cX4_isOpen 0 = .ok (.aload_n 0, 1) := by decide +kernel
theorem dX4_isOpen_1 : decode cX4_isOpen 1 = .ok (.getfield 41, 3) := by decide +kernel
theorem dX4_isOpen_4 : decode cX4_isOpen 4 = .ok (.iload_n 1, 1) := by decide +kernel
theorem dX4_isOpen_5 : decode cX4_isOpen 5 = .ok (.ishr, 1) := by decide +kernel
theorem dX4_isOpen_6 : decode cX4_isOpen 6 = .ok (.iconst 1, 1) := by decide +kernel
theorem dX4_isOpen_7 : decode cX4_isOpen 7 = .ok (.iand, 1) := by decide +kernel
theorem dX4_isOpen_8 : decode cX4_isOpen 8 = .ok (.ifCond .eq 7, 3) := by decide +kernel
theorem dX4_isOpen_11 : decode cX4_isOpen 11 = .ok (.iconst 1, 1) := by decide +kernel
theorem dX4_isOpen_12 : decode cX4_isOpen 12 = .ok (.goto 4, 3) := by decide +kernel
theorem dX4_isOpen_15 : decode cX4_isOpen 15 = .ok (.iconst 0, 1) := by decide +kernel
theorem dX4_isOpen_16 : decode cX4_isOpen 16 = .ok (.ireturn, 1) := by decide +kernel
theorem dX4_value_0 : decode cX4_value 0 = .ok (.aload_n 0, 1) := by decide +kernel
theorem dX4_value_1 : decode cX4_value 1 = .ok (.getfield 25, 3) := by decide +kernel
theorem dX4_value_4 : decode cX4_value 4 = .ok (.ifCond .le 18, 3) := by decide +kernel
theorem dX4_value_7 : decode cX4_value 7 = .ok (.aload_n 0, 1) := by decide +kernel
theorem dX4_value_8 : decode cX4_value 8 = .ok (.getfield 31, 3) := by decide +kernel
theorem dX4_value_11 : decode cX4_value 11 = .ok (.bipush 72, 2) := by decide +kernel
theorem dX4_value_13 : decode cX4_value 13 = .ok (.imul, 1) := by decide +kernel
theorem dX4_value_14 : decode cX4_value 14 = .ok (.aload_n 0, 1) := by decide +kernel
theorem dX4_value_15 : decode cX4_value 15 = .ok (.getfield 25, 3) := by decide +kernel
theorem dX4_value_18 : decode cX4_value 18 = .ok (.idiv, 1) := by decide +kernel
theorem dX4_value_19 : decode cX4_value 19 = .ok (.goto 4, 3) := by decide +kernel
theorem dX4_value_22 : decode cX4_value 22 = .ok (.iconst 0, 1) := by decide +kernel
theorem dX4_value_23 : decode cX4_value 23 = .ok (.ireturn, 1) := by decide +kernel
theorem dX5_init_0 : decode cX5_init 0 = .ok (.aload_n 0, 1) := by decide +kernel
theorem dX5_init_1 : decode cX5_init 1 = .ok (.invokespecial 1, 3) := by decide +kernel
theorem dX5_init_4 : decode cX5_init 4 = .ok (.aload_n 0, 1) := by decide +kernel
theorem dX5_init_5 : decode cX5_init 5 = .ok (.iconst 0, 1) := by decide +kernel
theorem dX5_init_6 : decode cX5_init 6 = .ok (.putfield 7, 3) := by decide +kernel
theorem dX5_init_9 : decode cX5_init 9 = .ok (.aload_n 0, 1) := by decide +kernel
theorem dX5_init_10 : decode cX5_init 10 = .ok (.iconst 0, 1) := by decide +kernel
theorem dX5_init_11 : decode cX5_init 11 = .ok (.putfield 13, 3) := by decide +kernel
theorem dX5_init_14 : decode cX5_init 14 = .ok (.aload_n 0, 1) := by decide +kernel
theorem dX5_init_15 : decode cX5_init 15 = .ok (.iconst 0, 1) := by decide +kernel
theorem dX5_init_16 : decode cX5_init 16 = .ok (.putfield 16, 3) := by decide +kernel
theorem dX5_init_19 : decode cX5_init 19 = .ok (.aload_n 0, 1) := by decide +kernel
theorem dX5_init_20 : decode cX5_init 20 = .ok (.iconst 0, 1) := by decide +kernel
theorem dX5_init_21 : decode cX5_init 21 = .ok (.putfield 19, 3) := by decide +kernel
theorem dX5_init_24 : decode cX5_init 24 = .ok (.return_, 1) := by decide +kernel
theorem dX6_init_0 : decode cX6_init 0 = .ok (.aload_n 0, 1) := by decide +kernel
theorem dX6_init_1 : decode cX6_init 1 = .ok (.invokespecial 3, 3) := by decide +kernel
theorem dX6_init_4 : decode cX6_init 4 = .ok (.aload_n 0, 1) := by decide +kernel
theorem dX6_init_5 : decode cX6_init 5 = .ok (.new 9, 3) := by decide +kernel
theorem dX6_init_8 : decode cX6_init 8 = .ok (.dup, 1) := by decide +kernel
theorem dX6_init_9 : decode cX6_init 9 = .ok (.invokespecial 11, 3) := by decide +kernel
theorem dX6_init_12 : decode cX6_init 12 = .ok (.putfield 12, 3) := by decide +kernel
theorem dX6_init_15 : decode cX6_init 15 = .ok (.aload_n 0, 1) := by decide +kernel
theorem dX6_init_16 : decode cX6_init 16 = .ok (.iconst 0, 1) := by decide +kernel
theorem dX6_init_17 : decode cX6_init 17 = .ok (.putfield 18, 3) := by decide +kernel
theorem dX6_init_20 : decode cX6_init 20 = .ok (.aload_n 0, 1) := by decide +kernel
theorem dX6_init_21 : decode cX6_init 21 = .ok (.iconst 0, 1) := by decide +kernel
theorem dX6_init_22 : decode cX6_init 22 = .ok (.putfield 22, 3) := by decide +kernel
theorem dX6_init_25 : decode cX6_init 25 = .ok (.aload_n 0, 1) := by decide +kernel
theorem dX6_init_26 : decode cX6_init 26 = .ok (.iconst 0, 1) := by decide +kernel
theorem dX6_init_27 : decode cX6_init 27 = .ok (.putfield 25, 3) := by decide +kernel
theorem dX6_init_30 : decode cX6_init 30 = .ok (.aload_n 0, 1) := by decide +kernel
theorem dX6_init_31 : decode cX6_init 31 = .ok (.iconst 5, 1) := by decide +kernel
theorem dX6_init_32 : decode cX6_init 32 = .ok (.anewarray 28, 3) := by decide +kernel
theorem dX6_init_35 : decode cX6_init 35 = .ok (.putfield 30, 3) := by decide +kernel
theorem dX6_init_38 : decode cX6_init 38 = .ok (.aload_n 0, 1) := by decide +kernel
theorem dX6_init_39 : decode cX6_init 39 = .ok (.iconst 3, 1) := by decide +kernel
theorem dX6_init_40 : decode cX6_init 40 = .ok (.anewarray 34, 3) := by decide +kernel
theorem dX6_init_43 : decode cX6_init 43 = .ok (.putfield 36, 3) := by decide +kernel
theorem dX6_init_46 : decode cX6_init 46 = .ok (.aload_n 0, 1) := by decide +kernel
theorem dX6_init_47 : decode cX6_init 47 = .ok (.bipush 10, 2) := by decide +kernel
theorem dX6_init_49 : decode cX6_init 49 = .ok (.anewarray 40, 3) := by decide +kernel
theorem dX6_init_52 : decode cX6_init 52 = .ok (.putfield 42, 3) := by decide +kernel
theorem dX6_init_55 : decode cX6_init 55 = .ok (.aload_n 0, 1) := by decide +kernel
theorem dX6_init_56 : decode cX6_init 56 = .ok (.sipush 200, 3) := by decide +kernel
theorem dX6_init_59 : decode cX6_init 59 = .ok (.newarray .boolean, 2) := by decide +kernel
theorem dX6_init_61 : decode cX6_init 61 = .ok (.putfield 46, 3) := by decide +kernel
theorem dX6_init_64 : decode cX6_init 64 = .ok (.aload_n 0, 1) := by decide +kernel
theorem dX6_init_65 : decode cX6_init 65 = .ok (.new 50, 3) := by decide +kernel
theorem dX6_init_68 : decode cX6_init 68 = .ok (.dup, 1) := by decide +kernel
theorem dX6_init_69 : decode cX6_init 69 = .ok (.invokespecial 52, 3) := by decide +kernel
theorem dX6_init_72 : decode cX6_init 72 = .ok (.putfield 53, 3) := by decide +kernel
theorem dX6_init_75 : decode cX6_init 75 = .ok (.aload_n 0, 1) := by decide +kernel
theorem dX6_init_76 : decode cX6_init 76 = .ok (.new 50, 3) := by decide +kernel
theorem dX6_init_79 : decode cX6_init 79 = .ok (.dup, 1) := by decide +kernel
theorem dX6_init_80 : decode cX6_init 80 = .ok (.invokespecial 52, 3) := by decide +kernel
theorem dX6_init_83 : decode cX6_init 83 = .ok (.putfield 57, 3) := by decide +kernel
theorem dX6_init_86 : decode cX6_init 86 = .ok (.aload_n 0, 1) := by decide +kernel
theorem dX6_init_87 : decode cX6_init 87 = .ok (.iconst 0, 1) := by decide +kernel
theorem dX6_init_88 : decode cX6_init 88 = .ok (.putfield 60, 3) := by decide +kernel
theorem dX6_init_91 : decode cX6_init 91 = .ok (.aload_n 0, 1) := by decide +kernel
theorem dX6_init_92 : decode cX6_init 92 = .ok (.iconst 0, 1) := by decide +kernel
theorem dX6_init_93 : decode cX6_init 93 = .ok (.putfield 63, 3) := by decide +kernel
theorem dX6_init_96 : decode cX6_init 96 = .ok (.aload_n 0, 1) := by decide +kernel
theorem dX6_init_97 : decode cX6_init 97 = .ok (.iconst 0, 1) := by decide +kernel
theorem dX6_init_98 : decode cX6_init 98 = .ok (.putfield 66, 3) := by decide +kernel
theorem dX6_init_101 : decode cX6_init 101 = .ok (.iconst 0, 1) := by decide +kernel
theorem dX6_init_102 : decode cX6_init 102 = .ok (.istore_n 1, 1) := by decide +kernel
theorem dX6_init_103 : decode cX6_init 103 = .ok (.iload_n 1, 1) := by decide +kernel
theorem dX6_init_104 : decode cX6_init 104 = .ok (.iconst 5, 1) := by decide +kernel
theorem dX6_init_105 : decode cX6_init 105 = .ok (.if_icmp .ge 22, 3) := by decide +kernel
theorem dX6_init_108 : decode cX6_init 108 = .ok (.aload_n 0, 1) := by decide +kernel
theorem dX6_init_109 : decode cX6_init 109 = .ok (.getfield 30, 3) := by decide +kernel
theorem dX6_init_112 : decode cX6_init 112 = .ok (.iload_n 1, 1) := by decide +kernel
theorem dX6_init_113 : decode cX6_init 113 = .ok (.new 28, 3) := by decide +kernel
theorem dX6_init_116 : decode cX6_init 116 = .ok (.dup, 1) := by decide +kernel
theorem dX6_init_117 : decode cX6_init 117 = .ok (.invokespecial 69, 3) := by decide +kernel
theorem dX6_init_120 : decode cX6_init 120 = .ok (.aastore, 1) := by decide +kernel
theorem dX6_init_121 : decode cX6_init 121 = .ok (.iinc 1 1, 3) := by decide +kernel
theorem dX6_init_124 : decode cX6_init 124 = .ok (.goto (-21), 3) := by decide +kernel
theorem dX6_init_127 : decode cX6_init 127 = .ok (.iconst 0, 1) := by decide +kernel
theorem dX6_init_128 : decode cX6_init 128 = .ok (.istore_n 1, 1) := by decide +kernel
theorem dX6_init_129 : decode cX6_init 129 = .ok (.iload_n 1, 1) := by decide +kernel
theorem dX6_init_130 : decode cX6_init 130 = .ok (.iconst 3, 1) := by decide +kernel
theorem dX6_init_131 : decode cX6_init 131 = .ok (.if_icmp .ge 22, 3) := by decide +kernel
theorem dX6_init_134 : decode cX6_init 134 = .ok (.aload_n 0, 1) := by decide +kernel
theorem dX6_init_135 : decode cX6_init 135 = .ok (.getfield 36, 3) := by decide +kernel
theorem dX6_init_138 : decode cX6_init 138 = .ok (.iload_n 1, 1) := by decide +kernel
theorem dX6_init_139 : decode cX6_init 139 = .ok (.new 34, 3) := by decide +kernel
theorem dX6_init_142 : decode cX6_init 142 = .ok (.dup, 1) := by decide +kernel
theorem dX6_init_143 : decode cX6_init 143 = .ok (.invokespecial 70, 3) := by decide +kernel
theorem dX6_init_146 : decode cX6_init 146 = .ok (.aastore, 1) := by decide +kernel
theorem dX6_init_147 : decode cX6_init 147 = .ok (.iinc 1 1, 3) := by decide +kernel
theorem dX6_init_150 : decode cX6_init 150 = .ok (.goto (-21), 3) := by decide +kernel
theorem dX6_init_153 : decode cX6_init 153 = .ok (.iconst 0, 1) := by decide +kernel
theorem dX6_init_154 : decode cX6_init 154 = .ok (.istore_n 1, 1) := by decide +kernel
theorem dX6_init_155 : decode cX6_init 155 = .ok (.iload_n 1, 1) := by decide +kernel
theorem dX6_init_156 : decode cX6_init 156 = .ok (.bipush 10, 2) := by decide +kernel
theorem dX6_init_158 : decode cX6_init 158 = .ok (.if_icmp .ge 22, 3) := by decide +kernel
theorem dX6_init_161 : decode cX6_init 161 = .ok (.aload_n 0, 1) := by decide +kernel
theorem dX6_init_162 : decode cX6_init 162 = .ok (.getfield 42, 3) := by decide +kernel
theorem dX6_init_165 : decode cX6_init 165 = .ok (.iload_n 1, 1) := by decide +kernel
theorem dX6_init_166 : decode cX6_init 166 = .ok (.new 40, 3) := by decide +kernel
theorem dX6_init_169 : decode cX6_init 169 = .ok (.dup, 1) := by decide +kernel
theorem dX6_init_170 : decode cX6_init 170 = .ok (.invokespecial 71, 3) := by decide +kernel
theorem dX6_init_173 : decode cX6_init 173 = .ok (.aastore, 1) := by decide +kernel
theorem dX6_init_174 : decode cX6_init 174 = .ok (.iinc 1 1, 3) := by decide +kernel
theorem dX6_init_177 : decode cX6_init 177 = .ok (.goto (-22), 3) := by decide +kernel
theorem dX6_init_180 : decode cX6_init 180 = .ok (.return_, 1) := by decide +kernel
theorem dX6_clear_0 : decode cX6_clear 0 = .ok (.aload_n 0, 1) := by decide +kernel
theorem dX6_clear_1 : decode cX6_clear 1 = .ok (.getfield 12, 3) := by decide +kernel
theorem dX6_clear_4 : decode cX6_clear 4 = .ok (.iconst 0, 1) := by decide +kernel
theorem dX6_clear_5 : decode cX6_clear 5 = .ok (.putfield 72, 3) := by decide +kernel
theorem dX6_clear_8 : decode cX6_clear 8 = .ok (.aload_n 0, 1) := by decide +kernel
theorem dX6_clear_9 : decode cX6_clear 9 = .ok (.getfield 12, 3) := by decide +kernel
theorem dX6_clear_12 : decode cX6_clear 12 = .ok (.iconst 0, 1) := by decide +kernel
theorem dX6_clear_13 : decode cX6_clear 13 = .ok (.putfield 75, 3) := by decide +kernel
theorem dX6_clear_16 : decode cX6_clear 16 = .ok (.aload_n 0, 1) := by decide +kernel
theorem dX6_clear_17 : decode cX6_clear 17 = .ok (.iconst 0, 1) := by decide +kernel
theorem dX6_clear_18 : decode cX6_clear 18 = .ok (.putfield 18, 3) := by decide +kernel
theorem dX6_clear_21 : decode cX6_clear 21 = .ok (.aload_n 0, 1) := by decide +kernel
theorem dX6_clear_22 : decode cX6_clear 22 = .ok (.iconst 0, 1) := by decide +kernel
theorem dX6_clear_23 : decode cX6_clear 23 = .ok (.putfield 22, 3) := by decide +kernel
theorem dX6_clear_26 : decode cX6_clear 26 = .ok (.aload_n 0, 1) := by decide +kernel
theorem dX6_clear_27 : decode cX6_clear 27 = .ok (.iconst 0, 1) := by decide +kernel
theorem dX6_clear_28 : decode cX6_clear 28 = .ok (.putfield 25, 3) := by decide +kernel
theorem dX6_clear_31 : decode cX6_clear 31 = .ok (.iconst 0, 1) := by decide +kernel
theorem dX6_clear_32 : decode cX6_clear 32 = .ok (.istore_n 1, 1) := by decide +kernel
theorem dX6_clear_33 : decode cX6_clear 33 = .ok (.iload_n 1, 1) := by decide +kernel
theorem dX6_clear_34 : decode cX6_clear 34 = .ok (.sipush 200, 3) := by decide +kernel
theorem dX6_clear_37 : decode cX6_clear 37 = .ok (.if_icmp .ge 16, 3) := by decide +kernel
theorem dX6_clear_40 : decode cX6_clear 40 = .ok (.aload_n 0, 1) := by decide +kernel
theorem dX6_clear_41 : decode cX6_clear 41 = .ok (.getfield 46, 3) := by decide +kernel
theorem dX6_clear_44 : decode cX6_clear 44 = .ok (.iload_n 1, 1) := by decide +kernel
theorem dX6_clear_45 : decode cX6_clear 45 = .ok (.iconst 0, 1) := by decide +kernel
theorem dX6_clear_46 : decode cX6_clear 46 = .ok (.bastore, 1) := by decide +kernel
theorem dX6_clear_47 : decode cX6_clear 47 = .ok (.iinc 1 1, 3) := by decide +kernel
theorem dX6_clear_50 : decode cX6_clear 50 = .ok (.goto (-17), 3) := by decide +kernel
theorem dX6_clear_53 : decode cX6_clear 53 = .ok (.aload_n 0, 1) := by decide +kernel
theorem dX6_clear_54 : decode cX6_clear 54 = .ok (.getfield 53, 3) := by decide +kernel
theorem dX6_clear_57 : decode cX6_clear 57 = .ok (.iconst 0, 1) := by decide +kernel
theorem dX6_clear_58 : decode cX6_clear 58 = .ok (.putfield 78, 3) := by decide +kernel
theorem dX6_clear_61 : decode cX6_clear 61 = .ok (.aload_n 0, 1) := by decide +kernel
theorem dX6_clear_62 : decode cX6_clear 62 = .ok (.getfield 57, 3) := by decide +kernel
theorem dX6_clear_65 : decode cX6_clear 65 = .ok (.iconst 0, 1) := by decide +kernel
theorem dX6_clear_66 : decode cX6_clear 66 = .ok (.putfield 78, 3) := by decide +kernel
theorem dX6_clear_69 : decode cX6_clear 69 = .ok (.aload_n 0, 1) := by decide +kernel
theorem dX6_clear_70 : decode cX6_clear 70 = .ok (.iconst 0, 1) := by decide +kernel
theorem dX6_clear_71 : decode cX6_clear 71 = .ok (.putfield 60, 3) := by decide +kernel
theorem dX6_clear_74 : decode cX6_clear 74 = .ok (.aload_n 0, 1) := by decide +kernel
theorem dX6_clear_75 : decode cX6_clear 75 = .ok (.iconst 0, 1) := by decide +kernel
theorem dX6_clear_76 : decode cX6_clear 76 = .ok (.putfield 63, 3) := by decide +kernel
theorem dX6_clear_79 : decode cX6_clear 79 = .ok (.aload_n 0, 1) := by decide +kernel
theorem dX6_clear_80 : decode cX6_clear 80 = .ok (.iconst 0, 1) := by decide +kernel
theorem dX6_clear_81 : decode cX6_clear 81 = .ok (.putfield 66, 3) := by decide +kernel
theorem dX6_clear_84 : decode cX6_clear 84 = .ok (.return_, 1) := by decide +kernel
theorem dX6_hasFront_0 : decode cX6_hasFront 0 = .ok (.iload_n 1, 1) := by decide +kernel
theorem dX6_hasFront_1 : decode cX6_hasFront 1 = .ok (.ifCond .lt 15, 3) := by decide +kernel
theorem dX6_hasFront_4 : decode cX6_hasFront 4 = .ok (.iload_n 1, 1) := by decide +kernel
theorem dX6_hasFront_5 : decode cX6_hasFront 5 = .ok (.aload_n 0, 1) := by decide +kernel
theorem dX6_hasFront_6 : decode cX6_hasFront 6 = .ok (.getfield 18, 3) := by decide +kernel
theorem dX6_hasFront_9 : decode cX6_hasFront 9 = .ok (.if_icmp .ge 7, 3) := by decide +kernel
theorem dX6_hasFront_12 : decode cX6_hasFront 12 = .ok (.iconst 1, 1) := by decide +kernel
theorem dX6_hasFront_13 : decode cX6_hasFront 13 = .ok (.goto 4, 3) := by decide +kernel
theorem dX6_hasFront_16 : decode cX6_hasFront 16 = .ok (.iconst 0, 1) := by decide +kernel
theorem dX6_hasFront_17 : decode cX6_hasFront 17 = .ok (.ireturn, 1) := by decide +kernel
theorem dX6_hasMan_0 : decode cX6_hasMan 0 = .ok (.iload_n 1, 1) := by decide +kernel
theorem dX6_hasMan_1 : decode cX6_hasMan 1 = .ok (.ifCond .lt 15, 3) := by decide +kernel
theorem dX6_hasMan_4 : decode cX6_hasMan 4 = .ok (.iload_n 1, 1) := by decide +kernel
theorem dX6_hasMan_5 : decode cX6_hasMan 5 = .ok (.aload_n 0, 1) := by decide +kernel
theorem dX6_hasMan_6 : decode cX6_hasMan 6 = .ok (.getfield 22, 3) := by decide +kernel
theorem dX6_hasMan_9 : decode cX6_hasMan 9 = .ok (.if_icmp .ge 7, 3) := by decide +kernel
theorem dX6_hasMan_12 : decode cX6_hasMan 12 = .ok (.iconst 1, 1) := by decide +kernel
theorem dX6_hasMan_13 : decode cX6_hasMan 13 = .ok (.goto 4, 3) := by decide +kernel
theorem dX6_hasMan_16 : decode cX6_hasMan 16 = .ok (.iconst 0, 1) := by decide +kernel
theorem dX6_hasMan_17 : decode cX6_hasMan 17 = .ok (.ireturn, 1) := by decide +kernel
theorem dX6_hasHouse_0 : decode cX6_hasHouse 0 = .ok (.iload_n 1, 1) := by decide +kernel
theorem dX6_hasHouse_1 : decode cX6_hasHouse 1 = .ok (.ifCond .lt 15, 3) := by decide +kernel
theorem dX6_hasHouse_4 : decode cX6_hasHouse 4 = .ok (.iload_n 1, 1) := by decide +kernel
theorem dX6_hasHouse_5 : decode cX6_hasHouse 5 = .ok (.aload_n 0, 1) := by decide +kernel
theorem dX6_hasHouse_6 : decode cX6_hasHouse 6 = .ok (.getfield 25, 3) := by decide +kernel
theorem dX6_hasHouse_9 : decode cX6_hasHouse 9 = .ok (.if_icmp .ge 7, 3) := by decide +kernel
theorem dX6_hasHouse_12 : decode cX6_hasHouse 12 = .ok (.iconst 1, 1) := by decide +kernel
theorem dX6_hasHouse_13 : decode cX6_hasHouse 13 = .ok (.goto 4, 3) := by decide +kernel
theorem dX6_hasHouse_16 : decode cX6_hasHouse 16 = .ok (.iconst 0, 1) := by decide +kernel
theorem dX6_hasHouse_17 : decode cX6_hasHouse 17 = .ok (.ireturn, 1) := by decide +kernel
theorem dX6_findFront_0 : decode cX6_findFront 0 = .ok (.iconst 0, 1) := by decide +kernel
theorem dX6_findFront_1 : decode cX6_findFront 1 = .ok (.istore_n 2, 1) := by decide +kernel
theorem dX6_findFront_2 : decode cX6_findFront 2 = .ok (.iload_n 2, 1) := by decide +kernel
theorem dX6_findFront_3 : decode cX6_findFront 3 = .ok (.aload_n 0, 1) := by decide +kernel
theorem dX6_findFront_4 : decode cX6_findFront 4 = .ok (.getfield 18, 3) := by decide +kernel
theorem dX6_findFront_7 : decode cX6_findFront 7 = .ok (.if_icmp .ge 24, 3) := by decide +kernel
theorem dX6_findFront_10 : decode cX6_findFront 10 = .ok (.aload_n 0, 1) := by decide +kernel
theorem dX6_findFront_11 : decode cX6_findFront 11 = .ok (.getfield 30, 3) := by decide +kernel
theorem dX6_findFront_14 : decode cX6_findFront 14 = .ok (.iload_n 2, 1) := by decide +kernel
theorem dX6_findFront_15 : decode cX6_findFront 15 = .ok (.aaload, 1) := by decide +kernel
theorem dX6_findFront_16 : decode cX6_findFront 16 = .ok (.getfield 81, 3) := by decide +kernel
theorem dX6_findFront_19 : decode cX6_findFront 19 = .ok (.iload_n 1, 1) := by decide +kernel
theorem dX6_findFront_20 : decode cX6_findFront 20 = .ok (.if_icmp .ne 5, 3) := by decide +kernel
theorem dX6_findFront_23 : decode cX6_findFront 23 = .ok (.iload_n 2, 1) := by decide +kernel
theorem dX6_findFront_24 : decode cX6_findFront 24 = .ok (.ireturn, 1) := by decide +kernel
theorem dX6_findFront_25 : decode cX6_findFront 25 = .ok (.iinc 2 1, 3) := by decide +kernel
theorem dX6_findFront_28 : decode cX6_findFront 28 = .ok (.goto (-26), 3) := by decide +kernel
theorem dX6_findFront_31 : decode cX6_findFront 31 = .ok (.iconst (-1), 1) := by decide +kernel
theorem dX6_findFront_32 : decode cX6_findFront 32 = .ok (.ireturn, 1) := by decide +kernel
theorem dX6_findMan_0 : decode cX6_findMan 0 = .ok (.iconst 0, 1) := by decide +kernel
theorem dX6_findMan_1 : decode cX6_findMan 1 = .ok (.istore_n 2, 1) := by decide +kernel
theorem dX6_findMan_2 : decode cX6_findMan 2 = .ok (.iload_n 2, 1) := by decide +kernel
theorem dX6_findMan_3 : decode cX6_findMan 3 = .ok (.aload_n 0, 1) := by decide +kernel
theorem dX6_findMan_4 : decode cX6_findMan 4 = .ok (.getfield 22, 3) := by decide +kernel
theorem dX6_findMan_7 : decode cX6_findMan 7 = .ok (.if_icmp .ge 24, 3) := by decide +kernel
theorem dX6_findMan_10 : decode cX6_findMan 10 = .ok (.aload_n 0, 1) := by decide +kernel
theorem dX6_findMan_11 : decode cX6_findMan 11 = .ok (.getfield 36, 3) := by decide +kernel
theorem dX6_findMan_14 : decode cX6_findMan 14 = .ok (.iload_n 2, 1) := by decide +kernel
theorem dX6_findMan_15 : decode cX6_findMan 15 = .ok (.aaload, 1) := by decide +kernel
theorem dX6_findMan_16 : decode cX6_findMan 16 = .ok (.getfield 84, 3) := by decide +kernel
theorem dX6_findMan_19 : decode cX6_findMan 19 = .ok (.iload_n 1, 1) := by decide +kernel
theorem dX6_findMan_20 : decode cX6_findMan 20 = .ok (.if_icmp .ne 5, 3) := by decide +kernel
theorem dX6_findMan_23 : decode cX6_findMan 23 = .ok (.iload_n 2, 1) := by decide +kernel
theorem dX6_findMan_24 : decode cX6_findMan 24 = .ok (.ireturn, 1) := by decide +kernel
theorem dX6_findMan_25 : decode cX6_findMan 25 = .ok (.iinc 2 1, 3) := by decide +kernel
theorem dX6_findMan_28 : decode cX6_findMan 28 = .ok (.goto (-26), 3) := by decide +kernel
theorem dX6_findMan_31 : decode cX6_findMan 31 = .ok (.iconst (-1), 1) := by decide +kernel
theorem dX6_findMan_32 : decode cX6_findMan 32 = .ok (.ireturn, 1) := by decide +kernel
theorem dX6_findHouse_0 : decode cX6_findHouse 0 = .ok (.iconst 0, 1) := by decide +kernel
theorem dX6_findHouse_1 : decode cX6_findHouse 1 = .ok (.istore_n 2, 1) := by decide +kernel
theorem dX6_findHouse_2 : decode cX6_findHouse 2 = .ok (.iload_n 2, 1) := by decide +kernel
theorem dX6_findHouse_3 : decode cX6_findHouse 3 = .ok (.aload_n 0, 1) := by decide +kernel
theorem dX6_findHouse_4 : decode cX6_findHouse 4 = .ok (.getfield 25, 3) := by decide +kernel
theorem dX6_findHouse_7 : decode cX6_findHouse 7 = .ok (.if_icmp .ge 24, 3) := by decide +kernel
theorem dX6_findHouse_10 : decode cX6_findHouse 10 = .ok (.aload_n 0, 1) := by decide +kernel
theorem dX6_findHouse_11 : decode cX6_findHouse 11 = .ok (.getfield 42, 3) := by decide +kernel
theorem dX6_findHouse_14 : decode cX6_findHouse 14 = .ok (.iload_n 2, 1) := by decide +kernel
theorem dX6_findHouse_15 : decode cX6_findHouse 15 = .ok (.aaload, 1) := by decide +kernel
theorem dX6_findHouse_16 : decode cX6_findHouse 16 = .ok (.getfield 85, 3) := by decide +kernel
theorem dX6_findHouse_19 : decode cX6_findHouse 19 = .ok (.iload_n 1, 1) := by decide +kernel
theorem dX6_findHouse_20 : decode cX6_findHouse 20 = .ok (.if_icmp .ne 5, 3) := by decide +kernel
theorem dX6_findHouse_23 : decode cX6_findHouse 23 = .ok (.iload_n 2, 1) := by decide +kernel
theorem dX6_findHouse_24 : decode cX6_findHouse 24 = .ok (.ireturn, 1) := by decide +kernel
theorem dX6_findHouse_25 : decode cX6_findHouse 25 = .ok (.iinc 2 1, 3) := by decide +kernel
theorem dX6_findHouse_28 : decode cX6_findHouse 28 = .ok (.goto (-26), 3) := by decide +kernel
theorem dX6_findHouse_31 : decode cX6_findHouse 31 = .ok (.iconst (-1), 1) := by decide +kernel
theorem dX6_findHouse_32 : decode cX6_findHouse 32 = .ok (.ireturn, 1) := by decide +kernel
theorem dX6_knots_0 : decode cX6_knots 0 = .ok (.aload_n 0, 1) := by decide +kernel
theorem dX6_knots_1 : decode cX6_knots 1 = .ok (.getfield 53, 3) := by decide +kernel
theorem dX6_knots_4 : decode cX6_knots 4 = .ok (.getfield 78, 3) := by decide +kernel
theorem dX6_knots_7 : decode cX6_knots 7 = .ok (.aload_n 0, 1) := by decide +kernel
theorem dX6_knots_8 : decode cX6_knots 8 = .ok (.getfield 57, 3) := by decide +kernel
theorem dX6_knots_11 : decode cX6_knots 11 = .ok (.getfield 78, 3) := by decide +kernel
theorem dX6_knots_14 : decode cX6_knots 14 = .ok (.iadd, 1) := by decide +kernel
theorem dX6_knots_15 : decode cX6_knots 15 = .ok (.ireturn, 1) := by decide +kernel
theorem dX6_wetDays_0 : decode cX6_wetDays 0 = .ok (.iconst 0, 1) := by decide +kernel
theorem dX6_wetDays_1 : decode cX6_wetDays 1 = .ok (.istore_n 1, 1) := by decide +kernel
theorem dX6_wetDays_2 : decode cX6_wetDays 2 = .ok (.iconst 0, 1) := by decide +kernel
theorem dX6_wetDays_3 : decode cX6_wetDays 3 = .ok (.istore_n 2, 1) := by decide +kernel
theorem dX6_wetDays_4 : decode cX6_wetDays 4 = .ok (.iload_n 2, 1) := by decide +kernel
theorem dX6_wetDays_5 : decode cX6_wetDays 5 = .ok (.sipush 200, 3) := by decide +kernel
theorem dX6_wetDays_8 : decode cX6_wetDays 8 = .ok (.if_icmp .ge 21, 3) := by decide +kernel
theorem dX6_wetDays_11 : decode cX6_wetDays 11 = .ok (.aload_n 0, 1) := by decide +kernel
theorem dX6_wetDays_12 : decode cX6_wetDays 12 = .ok (.getfield 46, 3) := by decide +kernel
theorem dX6_wetDays_15 : decode cX6_wetDays 15 = .ok (.iload_n 2, 1) := by decide +kernel
theorem dX6_wetDays_16 : decode cX6_wetDays 16 = .ok (.baload, 1) := by decide +kernel
theorem dX6_wetDays_17 : decode cX6_wetDays 17 = .ok (.ifCond .eq 6, 3) := by decide +kernel
theorem dX6_wetDays_20 : decode cX6_wetDays 20 = .ok (.iinc 1 1, 3) := by decide +kernel
theorem dX6_wetDays_23 : decode cX6_wetDays 23 = .ok (.iinc 2 1, 3) := by decide +kernel
theorem dX6_wetDays_26 : decode cX6_wetDays 26 = .ok (.goto (-22), 3) := by decide +kernel
theorem dX6_wetDays_29 : decode cX6_wetDays 29 = .ok (.iload_n 1, 1) := by decide +kernel
theorem dX6_wetDays_30 : decode cX6_wetDays 30 = .ok (.ireturn, 1) := by decide +kernel
theorem dX6_apart_0 : decode cX6_apart 0 = .ok (.aload_n 0, 1) := by decide +kernel
theorem dX6_apart_1 : decode cX6_apart 1 = .ok (.getfield 42, 3) := by decide +kernel
theorem dX6_apart_4 : decode cX6_apart 4 = .ok (.iload_n 1, 1) := by decide +kernel
theorem dX6_apart_5 : decode cX6_apart 5 = .ok (.aaload, 1) := by decide +kernel
theorem dX6_apart_6 : decode cX6_apart 6 = .ok (.astore_n 3, 1) := by decide +kernel
theorem dX6_apart_7 : decode cX6_apart 7 = .ok (.aload_n 0, 1) := by decide +kernel
theorem dX6_apart_8 : decode cX6_apart 8 = .ok (.getfield 42, 3) := by decide +kernel
theorem dX6_apart_11 : decode cX6_apart 11 = .ok (.iload_n 2, 1) := by decide +kernel
theorem dX6_apart_12 : decode cX6_apart 12 = .ok (.aaload, 1) := by decide +kernel
theorem dX6_apart_13 : decode cX6_apart 13 = .ok (.astore 4, 2) := by decide +kernel
theorem dX6_apart_15 : decode cX6_apart 15 = .ok (.aload_n 3, 1) := by decide +kernel
theorem dX6_apart_16 : decode cX6_apart 16 = .ok (.getfield 86, 3) := by decide +kernel
theorem dX6_apart_19 : decode cX6_apart 19 = .ok (.aload 4, 2) := by decide +kernel
theorem dX6_apart_21 : decode cX6_apart 21 = .ok (.getfield 86, 3) := by decide +kernel
theorem dX6_apart_24 : decode cX6_apart 24 = .ok (.isub, 1) := by decide +kernel
theorem dX6_apart_25 : decode cX6_apart 25 = .ok (.invokestatic 89, 3) := by decide +kernel
theorem dX6_apart_28 : decode cX6_apart 28 = .ok (.bipush 10, 2) := by decide +kernel
theorem dX6_apart_30 : decode cX6_apart 30 = .ok (.aload_n 3, 1) := by decide +kernel
theorem dX6_apart_31 : decode cX6_apart 31 = .ok (.getfield 95, 3) := by decide +kernel
theorem dX6_apart_34 : decode cX6_apart 34 = .ok (.aload 4, 2) := by decide +kernel
theorem dX6_apart_36 : decode cX6_apart 36 = .ok (.getfield 95, 3) := by decide +kernel
theorem dX6_apart_39 : decode cX6_apart 39 = .ok (.isub, 1) := by decide +kernel
theorem dX6_apart_40 : decode cX6_apart 40 = .ok (.invokestatic 89, 3) := by decide +kernel
theorem dX6_apart_43 : decode cX6_apart 43 = .ok (.imul, 1) := by decide +kernel
theorem dX6_apart_44 : decode cX6_apart 44 = .ok (.iadd, 1) := by decide +kernel
theorem dX6_apart_45 : decode cX6_apart 45 = .ok (.ireturn, 1) := by decide +kernel
theorem dX6_fromHome_0 : decode cX6_fromHome 0 = .ok (.aload_n 0, 1) := by decide +kernel
theorem dX6_fromHome_1 : decode cX6_fromHome 1 = .ok (.getfield 36, 3) := by decide +kernel
theorem dX6_fromHome_4 : decode cX6_fromHome 4 = .ok (.iload_n 1, 1) := by decide +kernel
theorem dX6_fromHome_5 : decode cX6_fromHome 5 = .ok (.aaload, 1) := by decide +kernel
theorem dX6_fromHome_6 : decode cX6_fromHome 6 = .ok (.astore_n 3, 1) := by decide +kernel
theorem dX6_fromHome_7 : decode cX6_fromHome 7 = .ok (.aload_n 0, 1) := by decide +kernel
theorem dX6_fromHome_8 : decode cX6_fromHome 8 = .ok (.getfield 42, 3) := by decide +kernel
theorem dX6_fromHome_11 : decode cX6_fromHome 11 = .ok (.iload_n 2, 1) := by decide +kernel
theorem dX6_fromHome_12 : decode cX6_fromHome 12 = .ok (.aaload, 1) := by decide +kernel
theorem dX6_fromHome_13 : decode cX6_fromHome 13 = .ok (.astore 4, 2) := by decide +kernel
theorem dX6_fromHome_15 : decode cX6_fromHome 15 = .ok (.aload_n 3, 1) := by decide +kernel
theorem dX6_fromHome_16 : decode cX6_fromHome 16 = .ok (.getfield 98, 3) := by decide +kernel
theorem dX6_fromHome_19 : decode cX6_fromHome 19 = .ok (.aload 4, 2) := by decide +kernel
theorem dX6_fromHome_21 : decode cX6_fromHome 21 = .ok (.getfield 86, 3) := by decide +kernel
theorem dX6_fromHome_24 : decode cX6_fromHome 24 = .ok (.isub, 1) := by decide +kernel
theorem dX6_fromHome_25 : decode cX6_fromHome 25 = .ok (.invokestatic 89, 3) := by decide +kernel
theorem dX6_fromHome_28 : decode cX6_fromHome 28 = .ok (.bipush 10, 2) := by decide +kernel
theorem dX6_fromHome_30 : decode cX6_fromHome 30 = .ok (.aload_n 3, 1) := by decide +kernel
theorem dX6_fromHome_31 : decode cX6_fromHome 31 = .ok (.getfield 99, 3) := by decide +kernel
theorem dX6_fromHome_34 : decode cX6_fromHome 34 = .ok (.aload 4, 2) := by decide +kernel
theorem dX6_fromHome_36 : decode cX6_fromHome 36 = .ok (.getfield 95, 3) := by decide +kernel
theorem dX6_fromHome_39 : decode cX6_fromHome 39 = .ok (.isub, 1) := by decide +kernel
theorem dX6_fromHome_40 : decode cX6_fromHome 40 = .ok (.invokestatic 89, 3) := by decide +kernel
theorem dX6_fromHome_43 : decode cX6_fromHome 43 = .ok (.imul, 1) := by decide +kernel
theorem dX6_fromHome_44 : decode cX6_fromHome 44 = .ok (.iadd, 1) := by decide +kernel
theorem dX6_fromHome_45 : decode cX6_fromHome 45 = .ok (.ireturn, 1) := by decide +kernel
theorem dX6_onward_0 : decode cX6_onward 0 = .ok (.iload_n 2, 1) := by decide +kernel
theorem dX6_onward_1 : decode cX6_onward 1 = .ok (.iconst (-1), 1) := by decide +kernel
theorem dX6_onward_2 : decode cX6_onward 2 = .ok (.if_icmp .ne 12, 3) := by decide +kernel
theorem dX6_onward_5 : decode cX6_onward 5 = .ok (.aload_n 0, 1) := by decide +kernel
theorem dX6_onward_6 : decode cX6_onward 6 = .ok (.iload_n 1, 1) := by decide +kernel
theorem dX6_onward_7 : decode cX6_onward 7 = .ok (.iload_n 3, 1) := by decide +kernel
theorem dX6_onward_8 : decode cX6_onward 8 = .ok (.invokevirtual 100, 3) := by decide +kernel
theorem dX6_onward_11 : decode cX6_onward 11 = .ok (.goto 9, 3) := by decide +kernel
theorem dX6_onward_14 : decode cX6_onward 14 = .ok (.aload_n 0, 1) := by decide +kernel
theorem dX6_onward_15 : decode cX6_onward 15 = .ok (.iload_n 2, 1) := by decide +kernel
theorem dX6_onward_16 : decode cX6_onward 16 = .ok (.iload_n 3, 1) := by decide +kernel
theorem dX6_onward_17 : decode cX6_onward 17 = .ok (.invokevirtual 104, 3) := by decide +kernel
theorem dX6_onward_20 : decode cX6_onward 20 = .ok (.ireturn, 1) := by decide +kernel
theorem dX6_homeward_0 : decode cX6_homeward 0 = .ok (.iload_n 2, 1) := by decide +kernel
theorem dX6_homeward_1 : decode cX6_homeward 1 = .ok (.iconst (-1), 1) := by decide +kernel
theorem dX6_homeward_2 : decode cX6_homeward 2 = .ok (.if_icmp .ne 7, 3) := by decide +kernel
theorem dX6_homeward_5 : decode cX6_homeward 5 = .ok (.iconst 0, 1) := by decide +kernel
theorem dX6_homeward_6 : decode cX6_homeward 6 = .ok (.goto 9, 3) := by decide +kernel
theorem dX6_homeward_9 : decode cX6_homeward 9 = .ok (.aload_n 0, 1) := by decide +kernel
theorem dX6_homeward_10 : decode cX6_homeward 10 = .ok (.iload_n 1, 1) := by decide +kernel
theorem dX6_homeward_11 : decode cX6_homeward 11 = .ok (.iload_n 2, 1) := by decide +kernel
theorem dX6_homeward_12 : decode cX6_homeward 12 = .ok (.invokevirtual 100, 3) := by decide +kernel
theorem dX6_homeward_15 : decode cX6_homeward 15 = .ok (.ireturn, 1) := by decide +kernel
theorem dX8_init_0 : decode cX8_init 0 = .ok (.aload_n 0, 1) := by decide +kernel
theorem dX8_init_1 : decode cX8_init 1 = .ok (.invokespecial 3, 3) := by decide +kernel
theorem dX8_init_4 : decode cX8_init 4 = .ok (.aload_n 0, 1) := by decide +kernel
theorem dX8_init_5 : decode cX8_init 5 = .ok (.iconst 0, 1) := by decide +kernel
theorem dX8_init_6 : decode cX8_init 6 = .ok (.putfield 9, 3) := by decide +kernel
theorem dX8_init_9 : decode cX8_init 9 = .ok (.aload_n 0, 1) := by decide +kernel
theorem dX8_init_10 : decode cX8_init 10 = .ok (.iconst 0, 1) := by decide +kernel
theorem dX8_init_11 : decode cX8_init 11 = .ok (.putfield 15, 3) := by decide +kernel
theorem dX8_init_14 : decode cX8_init 14 = .ok (.aload_n 0, 1) := by decide +kernel
theorem dX8_init_15 : decode cX8_init 15 = .ok (.iconst 4, 1) := by decide +kernel
theorem dX8_init_16 : decode cX8_init 16 = .ok (.newarray .int, 2) := by decide +kernel
theorem dX8_init_18 : decode cX8_init 18 = .ok (.putfield 18, 3) := by decide +kernel
theorem dX8_init_21 : decode cX8_init 21 = .ok (.aload_n 0, 1) := by decide +kernel
theorem dX8_init_22 : decode cX8_init 22 = .ok (.iconst 4, 1) := by decide +kernel
theorem dX8_init_23 : decode cX8_init 23 = .ok (.newarray .int, 2) := by decide +kernel
theorem dX8_init_25 : decode cX8_init 25 = .ok (.putfield 22, 3) := by decide +kernel
theorem dX8_init_28 : decode cX8_init 28 = .ok (.aload_n 0, 1) := by decide +kernel
theorem dX8_init_29 : decode cX8_init 29 = .ok (.iconst 3, 1) := by decide +kernel
theorem dX8_init_30 : decode cX8_init 30 = .ok (.newarray .int, 2) := by decide +kernel
theorem dX8_init_32 : decode cX8_init 32 = .ok (.putfield 25, 3) := by decide +kernel
theorem dX8_init_35 : decode cX8_init 35 = .ok (.aload_n 0, 1) := by decide +kernel
theorem dX8_init_36 : decode cX8_init 36 = .ok (.iconst 3, 1) := by decide +kernel
theorem dX8_init_37 : decode cX8_init 37 = .ok (.newarray .int, 2) := by decide +kernel
theorem dX8_init_39 : decode cX8_init 39 = .ok (.putfield 28, 3) := by decide +kernel
theorem dX8_init_42 : decode cX8_init 42 = .ok (.aload_n 0, 1) := by decide +kernel
theorem dX8_init_43 : decode cX8_init 43 = .ok (.iconst 3, 1) := by decide +kernel
theorem dX8_init_44 : decode cX8_init 44 = .ok (.newarray .int, 2) := by decide +kernel
theorem dX8_init_46 : decode cX8_init 46 = .ok (.putfield 31, 3) := by decide +kernel
theorem dX8_init_49 : decode cX8_init 49 = .ok (.return_, 1) := by decide +kernel
theorem dX8_total_0 : decode cX8_total 0 = .ok (.aload_n 0, 1) := by decide +kernel
theorem dX8_total_1 : decode cX8_total 1 = .ok (.getfield 9, 3) := by decide +kernel
theorem dX8_total_4 : decode cX8_total 4 = .ok (.aload_n 0, 1) := by decide +kernel
theorem dX8_total_5 : decode cX8_total 5 = .ok (.getfield 15, 3) := by decide +kernel
theorem dX8_total_8 : decode cX8_total 8 = .ok (.iadd, 1) := by decide +kernel
theorem dX8_total_9 : decode cX8_total 9 = .ok (.ireturn, 1) := by decide +kernel
theorem dX8_has_0 : decode cX8_has 0 = .ok (.iload_n 1, 1) := by decide +kernel
theorem dX8_has_1 : decode cX8_has 1 = .ok (.ifCond .lt 20, 3) := by decide +kernel
theorem dX8_has_4 : decode cX8_has 4 = .ok (.iload_n 1, 1) := by decide +kernel
theorem dX8_has_5 : decode cX8_has 5 = .ok (.aload_n 0, 1) := by decide +kernel
theorem dX8_has_6 : decode cX8_has 6 = .ok (.getfield 9, 3) := by decide +kernel
theorem dX8_has_9 : decode cX8_has 9 = .ok (.aload_n 0, 1) := by decide +kernel
theorem dX8_has_10 : decode cX8_has 10 = .ok (.getfield 15, 3) := by decide +kernel
theorem dX8_has_13 : decode cX8_has 13 = .ok (.iadd, 1) := by decide +kernel
theorem dX8_has_14 : decode cX8_has 14 = .ok (.if_icmp .ge 7, 3) := by decide +kernel
theorem dX8_has_17 : decode cX8_has 17 = .ok (.iconst 1, 1) := by decide +kernel
theorem dX8_has_18 : decode cX8_has 18 = .ok (.goto 4, 3) := by decide +kernel
theorem dX8_has_21 : decode cX8_has 21 = .ok (.iconst 0, 1) := by decide +kernel
theorem dX8_has_22 : decode cX8_has 22 = .ok (.ireturn, 1) := by decide +kernel
theorem dX8_haveBits_0 : decode cX8_haveBits 0 = .ok (.iload_n 1, 1) := by decide +kernel
theorem dX8_haveBits_1 : decode cX8_haveBits 1 = .ok (.ifCond .lt 22, 3) := by decide +kernel
theorem dX8_haveBits_4 : decode cX8_haveBits 4 = .ok (.iload_n 1, 1) := by decide +kernel
theorem dX8_haveBits_5 : decode cX8_haveBits 5 = .ok (.iconst 1, 1) := by decide +kernel
theorem dX8_haveBits_6 : decode cX8_haveBits 6 = .ok (.aload_n 0, 1) := by decide +kernel
theorem dX8_haveBits_7 : decode cX8_haveBits 7 = .ok (.getfield 9, 3) := by decide +kernel
theorem dX8_haveBits_10 : decode cX8_haveBits 10 = .ok (.aload_n 0, 1) := by decide +kernel
theorem dX8_haveBits_11 : decode cX8_haveBits 11 = .ok (.getfield 15, 3) := by decide +kernel
theorem dX8_haveBits_14 : decode cX8_haveBits 14 = .ok (.iadd, 1) := by decide +kernel
theorem dX8_haveBits_15 : decode cX8_haveBits 15 = .ok (.ishl, 1) := by decide +kernel
theorem dX8_haveBits_16 : decode cX8_haveBits 16 = .ok (.if_icmp .ge 7, 3) := by decide +kernel
theorem dX8_haveBits_19 : decode cX8_haveBits 19 = .ok (.iconst 1, 1) := by decide +kernel
theorem dX8_haveBits_20 : decode cX8_haveBits 20 = .ok (.goto 4, 3) := by decide +kernel
theorem dX8_haveBits_23 : decode cX8_haveBits 23 = .ok (.iconst 0, 1) := by decide +kernel
theorem dX8_haveBits_24 : decode cX8_haveBits 24 = .ok (.ireturn, 1) := by decide +kernel
theorem dX8_allBits_0 : decode cX8_allBits 0 = .ok (.iconst 1, 1) := by decide +kernel
theorem dX8_allBits_1 : decode cX8_allBits 1 = .ok (.aload_n 0, 1) := by decide +kernel
theorem dX8_allBits_2 : decode cX8_allBits 2 = .ok (.getfield 9, 3) := by decide +kernel
theorem dX8_allBits_5 : decode cX8_allBits 5 = .ok (.aload_n 0, 1) := by decide +kernel
theorem dX8_allBits_6 : decode cX8_allBits 6 = .ok (.getfield 15, 3) := by decide +kernel
theorem dX8_allBits_9 : decode cX8_allBits 9 = .ok (.iadd, 1) := by decide +kernel
theorem dX8_allBits_10 : decode cX8_allBits 10 = .ok (.ishl, 1) := by decide +kernel
theorem dX8_allBits_11 : decode cX8_allBits 11 = .ok (.iconst 1, 1) := by decide +kernel
theorem dX8_allBits_12 : decode cX8_allBits 12 = .ok (.isub, 1) := by decide +kernel
theorem dX8_allBits_13 : decode cX8_allBits 13 = .ok (.ireturn, 1) := by decide +kernel
theorem dX8_isLadder_0 : decode cX8_isLadder 0 = .ok (.iload_n 1, 1) := by decide +kernel
theorem dX8_isLadder_1 : decode cX8_isLadder 1 = .ok (.aload_n 0, 1) := by decide +kernel
theorem dX8_isLadder_2 : decode cX8_isLadder 2 = .ok (.getfield 9, 3) := by decide +kernel
theorem dX8_isLadder_5 : decode cX8_isLadder 5 = .ok (.if_icmp .ge 7, 3) := by decide +kernel
theorem dX8_isLadder_8 : decode cX8_isLadder 8 = .ok (.iconst 1, 1) := by decide +kernel
theorem dX8_isLadder_9 : decode cX8_isLadder 9 = .ok (.goto 4, 3) := by decide +kernel
theorem dX8_isLadder_12 : decode cX8_isLadder 12 = .ok (.iconst 0, 1) := by decide +kernel
theorem dX8_isLadder_13 : decode cX8_isLadder 13 = .ok (.ireturn, 1) := by decide +kernel
theorem dX8_find_0 : decode cX8_find 0 = .ok (.iconst 0, 1) := by decide +kernel
theorem dX8_find_1 : decode cX8_find 1 = .ok (.istore_n 2, 1) := by decide +kernel
theorem dX8_find_2 : decode cX8_find 2 = .ok (.iload_n 2, 1) := by decide +kernel
theorem dX8_find_3 : decode cX8_find 3 = .ok (.aload_n 0, 1) := by decide +kernel
theorem dX8_find_4 : decode cX8_find 4 = .ok (.getfield 9, 3) := by decide +kernel
theorem dX8_find_7 : decode cX8_find 7 = .ok (.if_icmp .ge 21, 3) := by decide +kernel
theorem dX8_find_10 : decode cX8_find 10 = .ok (.aload_n 0, 1) := by decide +kernel
theorem dX8_find_11 : decode cX8_find 11 = .ok (.getfield 18, 3) := by decide +kernel
theorem dX8_find_14 : decode cX8_find 14 = .ok (.iload_n 2, 1) := by decide +kernel
theorem dX8_find_15 : decode cX8_find 15 = .ok (.iaload, 1) := by decide +kernel
theorem dX8_find_16 : decode cX8_find 16 = .ok (.iload_n 1, 1) := by decide +kernel
theorem dX8_find_17 : decode cX8_find 17 = .ok (.if_icmp .ne 5, 3) := by decide +kernel
theorem dX8_find_20 : decode cX8_find 20 = .ok (.iload_n 2, 1) := by decide +kernel
theorem dX8_find_21 : decode cX8_find 21 = .ok (.ireturn, 1) := by decide +kernel
theorem dX8_find_22 : decode cX8_find 22 = .ok (.iinc 2 1, 3) := by decide +kernel
theorem dX8_find_25 : decode cX8_find 25 = .ok (.goto (-23), 3) := by decide +kernel
theorem dX8_find_28 : decode cX8_find 28 = .ok (.iconst 0, 1) := by decide +kernel
theorem dX8_find_29 : decode cX8_find 29 = .ok (.istore_n 2, 1) := by decide +kernel
theorem dX8_find_30 : decode cX8_find 30 = .ok (.iload_n 2, 1) := by decide +kernel
theorem dX8_find_31 : decode cX8_find 31 = .ok (.aload_n 0, 1) := by decide +kernel
theorem dX8_find_32 : decode cX8_find 32 = .ok (.getfield 15, 3) := by decide +kernel
theorem dX8_find_35 : decode cX8_find 35 = .ok (.if_icmp .ge 26, 3) := by decide +kernel
theorem dX8_find_38 : decode cX8_find 38 = .ok (.aload_n 0, 1) := by decide +kernel
theorem dX8_find_39 : decode cX8_find 39 = .ok (.getfield 25, 3) := by decide +kernel
theorem dX8_find_42 : decode cX8_find 42 = .ok (.iload_n 2, 1) := by decide +kernel
theorem dX8_find_43 : decode cX8_find 43 = .ok (.iaload, 1) := by decide +kernel
theorem dX8_find_44 : decode cX8_find 44 = .ok (.iload_n 1, 1) := by decide +kernel
theorem dX8_find_45 : decode cX8_find 45 = .ok (.if_icmp .ne 10, 3) := by decide +kernel
theorem dX8_find_48 : decode cX8_find 48 = .ok (.aload_n 0, 1) := by decide +kernel
theorem dX8_find_49 : decode cX8_find 49 = .ok (.getfield 9, 3) := by decide +kernel
theorem dX8_find_52 : decode cX8_find 52 = .ok (.iload_n 2, 1) := by decide +kernel
theorem dX8_find_53 : decode cX8_find 53 = .ok (.iadd, 1) := by decide +kernel
theorem dX8_find_54 : decode cX8_find 54 = .ok (.ireturn, 1) := by decide +kernel
theorem dX8_find_55 : decode cX8_find 55 = .ok (.iinc 2 1, 3) := by decide +kernel
theorem dX8_find_58 : decode cX8_find 58 = .ok (.goto (-28), 3) := by decide +kernel
theorem dX8_find_61 : decode cX8_find 61 = .ok (.iconst (-1), 1) := by decide +kernel
theorem dX8_find_62 : decode cX8_find 62 = .ok (.ireturn, 1) := by decide +kernel
theorem dX8_reach_0 : decode cX8_reach 0 = .ok (.aload_n 0, 1) := by decide +kernel
theorem dX8_reach_1 : decode cX8_reach 1 = .ok (.iload_n 1, 1) := by decide +kernel
theorem dX8_reach_2 : decode cX8_reach 2 = .ok (.invokevirtual 34, 3) := by decide +kernel
theorem dX8_reach_5 : decode cX8_reach 5 = .ok (.ifCond .eq 14, 3) := by decide +kernel
theorem dX8_reach_8 : decode cX8_reach 8 = .ok (.iload_n 2, 1) := by decide +kernel
theorem dX8_reach_9 : decode cX8_reach 9 = .ok (.iconst 1, 1) := by decide +kernel
theorem dX8_reach_10 : decode cX8_reach 10 = .ok (.if_icmp .lt 9, 3) := by decide +kernel
theorem dX8_reach_13 : decode cX8_reach 13 = .ok (.iload_n 2, 1) := by decide +kernel
theorem dX8_reach_14 : decode cX8_reach 14 = .ok (.bipush 9, 2) := by decide +kernel
theorem dX8_reach_16 : decode cX8_reach 16 = .ok (.if_icmp .le 5, 3) := by decide +kernel
theorem dX8_reach_19 : decode cX8_reach 19 = .ok (.iconst (-1), 1) := by decide +kernel
theorem dX8_reach_20 : decode cX8_reach 20 = .ok (.ireturn, 1) := by decide +kernel
theorem dX8_reach_21 : decode cX8_reach 21 = .ok (.aload_n 0, 1) := by decide +kernel
theorem dX8_reach_22 : decode cX8_reach 22 = .ok (.iload_n 1, 1) := by decide +kernel
theorem dX8_reach_23 : decode cX8_reach 23 = .ok (.invokevirtual 38, 3) := by decide +kernel
theorem dX8_reach_26 : decode cX8_reach 26 = .ok (.ifCond .eq 12, 3) := by decide +kernel
theorem dX8_reach_29 : decode cX8_reach 29 = .ok (.aload_n 0, 1) := by decide +kernel
theorem dX8_reach_30 : decode cX8_reach 30 = .ok (.getfield 22, 3) := by decide +kernel
theorem dX8_reach_33 : decode cX8_reach 33 = .ok (.iload_n 1, 1) := by decide +kernel
theorem dX8_reach_34 : decode cX8_reach 34 = .ok (.iaload, 1) := by decide +kernel
theorem dX8_reach_35 : decode cX8_reach 35 = .ok (.goto 14, 3) := by decide +kernel
theorem dX8_reach_38 : decode cX8_reach 38 = .ok (.aload_n 0, 1) := by decide +kernel
theorem dX8_reach_39 : decode cX8_reach 39 = .ok (.getfield 28, 3) := by decide +kernel
theorem dX8_reach_42 : decode cX8_reach 42 = .ok (.iload_n 1, 1) := by decide +kernel
theorem dX8_reach_43 : decode cX8_reach 43 = .ok (.aload_n 0, 1) := by decide +kernel
theorem dX8_reach_44 : decode cX8_reach 44 = .ok (.getfield 9, 3) := by decide +kernel
theorem dX8_reach_47 : decode cX8_reach 47 = .ok (.isub, 1) := by decide +kernel
theorem dX8_reach_48 : decode cX8_reach 48 = .ok (.iaload, 1) := by decide +kernel
theorem dX8_reach_49 : decode cX8_reach 49 = .ok (.istore_n 3, 1) := by decide +kernel
theorem dX8_reach_50 : decode cX8_reach 50 = .ok (.iload_n 2, 1) := by decide +kernel
theorem dX8_reach_51 : decode cX8_reach 51 = .ok (.iload_n 3, 1) := by decide +kernel
theorem dX8_reach_52 : decode cX8_reach 52 = .ok (.if_icmp .lt 5, 3) := by decide +kernel
theorem dX8_reach_55 : decode cX8_reach 55 = .ok (.iconst (-1), 1) := by decide +kernel
theorem dX8_reach_56 : decode cX8_reach 56 = .ok (.ireturn, 1) := by decide +kernel
theorem dX8_reach_57 : decode cX8_reach 57 = .ok (.iload_n 3, 1) := by decide +kernel
theorem dX8_reach_58 : decode cX8_reach 58 = .ok (.iload_n 3, 1) := by decide +kernel
theorem dX8_reach_59 : decode cX8_reach 59 = .ok (.iload_n 3, 1) := by decide +kernel
theorem dX8_reach_60 : decode cX8_reach 60 = .ok (.imul, 1) := by decide +kernel
theorem dX8_reach_61 : decode cX8_reach 61 = .ok (.iload_n 2, 1) := by decide +kernel
theorem dX8_reach_62 : decode cX8_reach 62 = .ok (.iload_n 2, 1) := by decide +kernel
theorem dX8_reach_63 : decode cX8_reach 63 = .ok (.imul, 1) := by decide +kernel
theorem dX8_reach_64 : decode cX8_reach 64 = .ok (.isub, 1) := by decide +kernel
theorem dX8_reach_65 : decode cX8_reach 65 = .ok (.invokestatic 41, 3) := by decide +kernel
theorem dX8_reach_68 : decode cX8_reach 68 = .ok (.istore 4, 2) := by decide +kernel
theorem dX8_reach_70 : decode cX8_reach 70 = .ok (.aload_n 0, 1) := by decide +kernel
theorem dX8_reach_71 : decode cX8_reach 71 = .ok (.iload_n 1, 1) := by decide +kernel
theorem dX8_reach_72 : decode cX8_reach 72 = .ok (.invokevirtual 38, 3) := by decide +kernel
theorem dX8_reach_75 : decode cX8_reach 75 = .ok (.ifCond .eq 26, 3) := by decide +kernel
theorem dX8_reach_78 : decode cX8_reach 78 = .ok (.iload 4, 2) := by decide +kernel
theorem dX8_reach_80 : decode cX8_reach 80 = .ok (.iconst 3, 1) := by decide +kernel
theorem dX8_reach_81 : decode cX8_reach 81 = .ok (.iload_n 2, 1) := by decide +kernel
theorem dX8_reach_82 : decode cX8_reach 82 = .ok (.imul, 1) := by decide +kernel
theorem dX8_reach_83 : decode cX8_reach 83 = .ok (.if_icmp .lt 16, 3) := by decide +kernel
theorem dX8_reach_86 : decode cX8_reach 86 = .ok (.iload 4, 2) := by decide +kernel
theorem dX8_reach_88 : decode cX8_reach 88 = .ok (.iconst 5, 1) := by decide +kernel
theorem dX8_reach_89 : decode cX8_reach 89 = .ok (.iload_n 2, 1) := by decide +kernel
theorem dX8_reach_90 : decode cX8_reach 90 = .ok (.imul, 1) := by decide +kernel
theorem dX8_reach_91 : decode cX8_reach 91 = .ok (.if_icmp .gt 8, 3) := by decide +kernel
theorem dX8_reach_94 : decode cX8_reach 94 = .ok (.iload 4, 2) := by decide +kernel
theorem dX8_reach_96 : decode cX8_reach 96 = .ok (.goto 4, 3) := by decide +kernel
theorem dX8_reach_99 : decode cX8_reach 99 = .ok (.iconst (-1), 1) := by decide +kernel
theorem dX8_reach_100 : decode cX8_reach 100 = .ok (.ireturn, 1) := by decide +kernel
theorem dX8_reach_101 : decode cX8_reach 101 = .ok (.iconst 0, 1) := by decide +kernel
theorem dX8_reach_102 : decode cX8_reach 102 = .ok (.iload 4, 2) := by decide +kernel
theorem dX8_reach_104 : decode cX8_reach 104 = .ok (.iload_n 3, 1) := by decide +kernel
theorem dX8_reach_105 : decode cX8_reach 105 = .ok (.aload_n 0, 1) := by decide +kernel
theorem dX8_reach_106 : decode cX8_reach 106 = .ok (.getfield 31, 3) := by decide +kernel
theorem dX8_reach_109 : decode cX8_reach 109 = .ok (.iload_n 1, 1) := by decide +kernel
theorem dX8_reach_110 : decode cX8_reach 110 = .ok (.aload_n 0, 1) := by decide +kernel
theorem dX8_reach_111 : decode cX8_reach 111 = .ok (.getfield 9, 3) := by decide +kernel
theorem dX8_reach_114 : decode cX8_reach 114 = .ok (.isub, 1) := by decide +kernel
theorem dX8_reach_115 : decode cX8_reach 115 = .ok (.iaload, 1) := by decide +kernel
theorem dX8_reach_116 : decode cX8_reach 116 = .ok (.imul, 1) := by decide +kernel
theorem dX8_reach_117 : decode cX8_reach 117 = .ok (.bipush 10, 2) := by decide +kernel
theorem dX8_reach_119 : decode cX8_reach 119 = .ok (.idiv, 1) := by decide +kernel
theorem dX8_reach_120 : decode cX8_reach 120 = .ok (.isub, 1) := by decide +kernel
theorem dX8_reach_121 : decode cX8_reach 121 = .ok (.invokestatic 45, 3) := by decide +kernel
theorem dX8_reach_124 : decode cX8_reach 124 = .ok (.ireturn, 1) := by decide +kernel
theorem dX8_lowest_0 : decode cX8_lowest 0 = .ok (.aload_n 0, 1) := by decide +kernel
theorem dX8_lowest_1 : decode cX8_lowest 1 = .ok (.iload_n 1, 1) := by decide +kernel
theorem dX8_lowest_2 : decode cX8_lowest 2 = .ok (.invokevirtual 38, 3) := by decide +kernel
theorem dX8_lowest_5 : decode cX8_lowest 5 = .ok (.ifCond .eq 9, 3) := by decide +kernel
theorem dX8_lowest_8 : decode cX8_lowest 8 = .ok (.iload_n 2, 1) := by decide +kernel
theorem dX8_lowest_9 : decode cX8_lowest 9 = .ok (.iconst 5, 1) := by decide +kernel
theorem dX8_lowest_10 : decode cX8_lowest 10 = .ok (.isub, 1) := by decide +kernel
theorem dX8_lowest_11 : decode cX8_lowest 11 = .ok (.goto 4, 3) := by decide +kernel
theorem dX8_lowest_14 : decode cX8_lowest 14 = .ok (.iconst 1, 1) := by decide +kernel
theorem dX8_lowest_15 : decode cX8_lowest 15 = .ok (.ireturn, 1) := by decide +kernel
theorem dX8_highest_0 : decode cX8_highest 0 = .ok (.aload_n 0, 1) := by decide +kernel
theorem dX8_highest_1 : decode cX8_highest 1 = .ok (.iload_n 1, 1) := by decide +kernel
theorem dX8_highest_2 : decode cX8_highest 2 = .ok (.invokevirtual 38, 3) := by decide +kernel
theorem dX8_highest_5 : decode cX8_highest 5 = .ok (.ifCond .eq 9, 3) := by decide +kernel
theorem dX8_highest_8 : decode cX8_highest 8 = .ok (.iload_n 2, 1) := by decide +kernel
theorem dX8_highest_9 : decode cX8_highest 9 = .ok (.iconst 1, 1) := by decide +kernel
theorem dX8_highest_10 : decode cX8_highest 10 = .ok (.iadd, 1) := by decide +kernel
theorem dX8_highest_11 : decode cX8_highest 11 = .ok (.goto 4, 3) := by decide +kernel
theorem dX8_highest_14 : decode cX8_highest 14 = .ok (.iload_n 2, 1) := by decide +kernel
theorem dX8_highest_15 : decode cX8_highest 15 = .ok (.ireturn, 1) := by decide +kernel
theorem dX8_rootBelow_0 : decode cX8_rootBelow 0 = .ok (.iload_n 0, 1) := by decide +kernel
theorem dX8_rootBelow_1 : decode cX8_rootBelow 1 = .ok (.istore_n 2, 1) := by decide +kernel
theorem dX8_rootBelow_2 : decode cX8_rootBelow 2 = .ok (.iload_n 2, 1) := by decide +kernel
theorem dX8_rootBelow_3 : decode cX8_rootBelow 3 = .ok (.ifCond .le 18, 3) := by decide +kernel
theorem dX8_rootBelow_6 : decode cX8_rootBelow 6 = .ok (.iload_n 2, 1) := by decide +kernel
theorem dX8_rootBelow_7 : decode cX8_rootBelow 7 = .ok (.iload_n 2, 1) := by decide +kernel
theorem dX8_rootBelow_8 : decode cX8_rootBelow 8 = .ok (.imul, 1) := by decide +kernel
theorem dX8_rootBelow_9 : decode cX8_rootBelow 9 = .ok (.iload_n 1, 1) := by decide +kernel
theorem dX8_rootBelow_10 : decode cX8_rootBelow 10 = .ok (.if_icmp .gt 5, 3) := by decide +kernel
theorem dX8_rootBelow_13 : decode cX8_rootBelow 13 = .ok (.iload_n 2, 1) := by decide +kernel
theorem dX8_rootBelow_14 : decode cX8_rootBelow 14 = .ok (.ireturn, 1) := by decide +kernel
theorem dX8_rootBelow_15 : decode cX8_rootBelow 15 = .ok (.iinc 2 (-1), 3) := by decide +kernel
theorem dX8_rootBelow_18 : decode cX8_rootBelow 18 = .ok (.goto (-16), 3) := by decide +kernel
theorem dX8_rootBelow_21 : decode cX8_rootBelow 21 = .ok (.iconst 0, 1) := by decide +kernel
theorem dX8_rootBelow_22 : decode cX8_rootBelow 22 = .ok (.ireturn, 1) := by decide +kernel
